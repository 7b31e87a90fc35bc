def m_X7_rowOf (fu : Nat) (σ : zmem) (i0 : Nat) (a1 : Int32) : Option (Nat) := (if ¬ a1 = 0 then some (i0 + 3) else some (i0 + 1))
set_option maxHeartbeats 4000000 in
set_option maxRecDepth 100000 in
theorem c_X7_rowOf (l : Launch) (g : zgeo) (fu : Nat) {σ : zmem} {i0 : Nat} {a1 : Int32} {r : Nat} (h0 : zkd i0 = (7, 0)) (hr : m_X7_rowOf fu σ i0 a1 = some r) : zCt (zQR g r σ) l g yX7_rowOf cX7_rowOf 2 (some (.object "AnchorChains$Row")) 0 0 [.ref (zA g i0), .int a1] σ := by
  refine zopen (by decide) (Nat.le_of_ble_eq_true rfl) ?_
  intro p e s m below meth c M ls hl I
  have M : zMC RX7 cX7_rowOf 2 (some (.object "AnchorChains$Row")) g p m c s ([.ref (zA g i0), .int a1] : List Value).toArray meth := M
  have hl : lv_has ls 2 [(0, .ref (zA g i0)), (1, .int a1)] := hl
  generalize ([.ref (zA g i0), .int a1] : List Value).toArray = args at M ⊢
  have hx := M.1.1
  have hb := M.1.2.1
  unfold m_X7_rowOf at hr
  refine lv_iload_n hx hb dX7_rowOf_0 rfl (lv_at hl 1 rfl) ?_
  refine lv_if_ne (tgt := 11) hx hb dX7_rowOf_1 (by decide) (fun c1 => ?_) (fun c1 => ?_)
  · replace hr := zif_t hr c1
    refine lv_aload_n hx hb dX7_rowOf_11 rfl (lv_at hl 0 rfl) ?_
    refine zgetR (j := (i0 + 3)) M I h0 zfl_X7_18 dX7_rowOf_12 rfl ?_
    obtain rfl := Option.some.inj hr
    exact zretR M I dX7_rowOf_15
  · replace hr := zif_f hr (fun hq => hq c1)
    refine lv_aload_n hx hb dX7_rowOf_4 rfl (lv_at hl 0 rfl) ?_
    refine zgetR (j := (i0 + 1)) M I h0 zfl_X7_12 dX7_rowOf_5 rfl ?_
    refine lv_goto (tgt := 15) hx hb dX7_rowOf_8 (by decide) ?_
    obtain rfl := Option.some.inj hr
    exact zretR M I dX7_rowOf_15
theorem zq_X7_rowOf {fu : Nat} {σ : zmem} {i0 : Nat} {a1 : Int32} {x : Nat} (h0 : zkd i0 = (7, 0)) (e : m_X7_rowOf fu σ i0 a1 = some x) : zkd x = (6, 0) := by
  unfold m_X7_rowOf at e
  split at e <;> cases e <;> first | exact zs_7_0 h0 | exact zs_7_1 h0
def l_X4_dropOldest_12 (fu : Nat) (i0 : Nat) : Nat → Int32 → zmem → Option (zmem)
  | 0, _, _ => none
  | n + 1, v1, σ => (if ((σ.1 i0 1) * (54 : Int32)) ≤ v1 then some σ else (m_X1_at fu σ (i0 + 1) (v1 + (54 : Int32))).bind fun x1 => (m_X1_store fu σ (i0 + 1) v1 x1).bind fun x2 => l_X4_dropOldest_12 fu i0 n (v1 + 1) x2)
set_option maxHeartbeats 4000000 in
set_option maxRecDepth 100000 in
theorem k_X4_dropOldest_12 {l : Launch} {g : zgeo} {fu : Nat} {p : Program} {e : Env} {s : State} {m : MethodId} {args : Array Value} {below : List Frame} {meth : Method} {c : Code} (M : zMC RX4 cX4_dropOldest 2 none g p m c s args meth) {i0 : Nat} (h0 : zkd i0 = (4, 0)) {Q : State → Prop} : ∀ (n : Nat) (v1 : Int32) (σ : zmem) (o : zmem), l_X4_dropOldest_12 fu i0 n v1 σ = some o → ∀ (ls : Array Slot) (H : Heap) (locs : List Loc), lv_has ls 2 [(0, .ref (zA g i0)), (1, .int v1)] → zIV g σ (zAA g) s.heap H locs → (∀ (ls : Array Slot) (H : Heap) (locs : List Loc), lv_has ls 2 [] → zIV g o (zAA g) s.heap H locs → W p l e (zrm 1 22) s m args below meth c H locs 0 0 Q (F0 m 48 ls [])) → W p l e (zrm 1 22) s m args below meth c H locs 0 0 Q (F0 m 12 ls []) := by
  have hx := M.1.1
  have hb := M.1.2.1
  intro n
  induction n with
  | zero =>
    intro v1 σ o hr ls H locs hl I KF
    have hr : (none : Option (zmem)) = some o := hr
    cases hr
  | succ n ih =>
    intro v1 σ o hr ls H locs hl I KF
    rw [l_X4_dropOldest_12] at hr
    refine lv_iload_n hx hb dX4_dropOldest_12 rfl (lv_at hl 1 rfl) ?_
    refine lv_aload_n hx hb dX4_dropOldest_13 rfl (lv_at hl 0 rfl) ?_
    refine zgetI M I h0 zfl_X4_22 dX4_dropOldest_14 ?_
    refine lv_bipush (v := (54 : Int32)) hx hb dX4_dropOldest_17 (by decide) ?_
    refine lv_imul hx hb dX4_dropOldest_19 ?_
    refine lv_icmp_ge (tgt := 48) hx hb dX4_dropOldest_20 (by decide) (fun c3 => ?_) (fun c3 => ?_)
    · replace hr := zif_t hr c3
      obtain rfl := Option.some.inj hr
      exact KF ls _ _ (lv_sub hl [] rfl) I
    · replace hr := zif_f hr c3
      refine lv_aload_n hx hb dX4_dropOldest_23 rfl (lv_at hl 0 rfl) ?_
      refine zgetR (j := (i0 + 1)) M I h0 zfl_X4_16 dX4_dropOldest_24 rfl ?_
      refine lv_iload_n hx hb dX4_dropOldest_27 rfl (lv_at hl 1 rfl) ?_
      refine lv_aload_n hx hb dX4_dropOldest_28 rfl (lv_at hl 0 rfl) ?_
      refine zgetR (j := (i0 + 1)) M I h0 zfl_X4_16 dX4_dropOldest_29 rfl ?_
      refine lv_iload_n hx hb dX4_dropOldest_32 rfl (lv_at hl 1 rfl) ?_
      refine lv_bipush (v := (54 : Int32)) hx hb dX4_dropOldest_33 (by decide) ?_
      refine lv_iadd hx hb dX4_dropOldest_35 ?_
      obtain ⟨x1, e_x1, hr⟩ := zb_some hr
      refine zcallI M I (zrunV (as := [.int (v1 + (54 : Int32))]) M I (c_X1_at l g fu (zs_4_0 h0) e_x1) (zs_4_0 h0) zK1.1 (by decide) zlv_X4_33 ⟨Nat.le_of_ble_eq_true rfl, Nat.le_of_ble_eq_true rfl⟩ ⟨Nat.zero_le _, Nat.zero_le _⟩ rfl rfl (Nat.le_of_ble_eq_true rfl) hl.1 dX4_dropOldest_36) (fun H locs I => ?_)
      obtain ⟨x2, e_x2, hr⟩ := zb_some hr
      refine zcallU M I (zrunV (as := [.int v1, .int x1]) M I (c_X1_store l g fu (zs_4_0 h0) e_x2) (zs_4_0 h0) zK1.1 (by decide) zlv_X4_37 ⟨Nat.le_of_ble_eq_true rfl, Nat.le_of_ble_eq_true rfl⟩ ⟨Nat.zero_le _, Nat.zero_le _⟩ rfl rfl (Nat.le_of_ble_eq_true rfl) hl.1 dX4_dropOldest_39) (fun H locs I => ?_)
      refine lv_iinc (lv' := [(1, .int (v1 + 1)), (0, .ref (zA g i0))]) (k := 1) (v := (v1 + 1)) hx hb dX4_dropOldest_42 hl rfl (zi_1 _) (by decide) rfl (fun ls hl => ?_)
      refine lv_goto (tgt := 12) hx hb dX4_dropOldest_45 (by decide) ?_
      exact ih _ _  _ hr ls _ _ (lv_sub hl [1, 0] rfl) I KF
def m_X4_dropOldest (fu : Nat) (σ : zmem) (i0 : Nat) : Option (zmem) := (l_X4_dropOldest_12 fu i0 fu (0 : Int32) (zst σ i0 1 ((σ.1 i0 1) - (1 : Int32)))).bind fun x4 => some x4
set_option maxHeartbeats 4000000 in
set_option maxRecDepth 100000 in
theorem c_X4_dropOldest (l : Launch) (g : zgeo) (fu : Nat) {σ : zmem} {i0 : Nat} {r : zmem} (h0 : zkd i0 = (4, 0)) (hr : m_X4_dropOldest fu σ i0 = some r) : zCt (zQV g r) l g yX4_dropOldest cX4_dropOldest 2 none 1 22 [.ref (zA g i0)] σ := by
  refine zopen (by decide) (Nat.le_of_ble_eq_true rfl) ?_
  intro p e s m below meth c M ls hl I
  have M : zMC RX4 cX4_dropOldest 2 none g p m c s ([.ref (zA g i0)] : List Value).toArray meth := M
  have hl : lv_has ls 2 [(0, .ref (zA g i0))] := hl
  generalize ([.ref (zA g i0)] : List Value).toArray = args at M ⊢
  have hx := M.1.1
  have hb := M.1.2.1
  unfold m_X4_dropOldest at hr
  refine lv_aload_n hx hb dX4_dropOldest_0 rfl (lv_at hl 0 rfl) ?_
  refine lv_dup hx hb dX4_dropOldest_1 rfl ?_
  refine zgetI M I h0 zfl_X4_22 dX4_dropOldest_2 ?_
  refine lv_iconst (v := (1 : Int32)) hx hb dX4_dropOldest_5 (by decide) ?_
  refine lv_isub hx hb dX4_dropOldest_6 ?_
  refine zputI M I h0 zfw_X4_22 dX4_dropOldest_7 (fun H locs I => ?_)
  refine lv_iconst (v := (0 : Int32)) hx hb dX4_dropOldest_10 (by decide) ?_
  refine lv_istore_n (lv' := [(1, .int (0 : Int32)), (0, .ref (zA g i0))]) hx hb dX4_dropOldest_11 rfl hl (by decide) rfl (fun ls hl => ?_)
  obtain ⟨x4, e_x4, hr⟩ := zb_some hr
  refine k_X4_dropOldest_12 M h0 fu _ _  _ e_x4 ls _ _ (lv_sub hl [1, 0] rfl) I (fun ls H locs hl I => ?_)
  obtain rfl := Option.some.inj hr
  exact zretV M I dX4_dropOldest_48
def l_X7_writeTo_28 (fu : Nat) (i0 : Nat) (i1 : Nat) (a2 : Int32) : Nat → Int32 → zmem → Option (zmem)
  | 0, _, _ => none
  | n + 1, v3, σ => (if (24 : Int32) ≤ v3 then some σ else (m_X6_signAt fu σ (i0 + 1) v3).bind fun x3 => (m_X1_store fu σ i1 ((a2 + (2 : Int32)) + v3) x3).bind fun x4 => (m_X6_signAt fu x4 (i0 + 3) v3).bind fun x5 => (m_X1_store fu x4 i1 (((a2 + (2 : Int32)) + (24 : Int32)) + v3) x5).bind fun x6 => l_X7_writeTo_28 fu i0 i1 a2 n (v3 + 1) x6)
set_option maxHeartbeats 4000000 in
set_option maxRecDepth 100000 in
theorem k_X7_writeTo_28 {l : Launch} {g : zgeo} {fu : Nat} {p : Program} {e : Env} {s : State} {m : MethodId} {args : Array Value} {below : List Frame} {meth : Method} {c : Code} (M : zMC RX7 cX7_writeTo 4 none g p m c s args meth) {i0 : Nat} {i1 : Nat} {a2 : Int32} (h0 : zkd i0 = (7, 0)) (h1 : zkd i1 = (1, 0)) {Q : State → Prop} : ∀ (n : Nat) (v3 : Int32) (σ : zmem) (o : zmem), l_X7_writeTo_28 fu i0 i1 a2 n v3 σ = some o → ∀ (ls : Array Slot) (H : Heap) (locs : List Loc), lv_has ls 4 [(0, .ref (zA g i0)), (1, .ref (zA g i1)), (2, .int a2), (3, .int v3)] → zIV g σ (zAA g) s.heap H locs → (∀ (ls : Array Slot) (H : Heap) (locs : List Loc), lv_has ls 4 [(0, .ref (zA g i0)), (1, .ref (zA g i1)), (2, .int a2)] → zIV g o (zAA g) s.heap H locs → W p l e (zrm 1 22) s m args below meth c H locs 0 0 Q (F0 m 77 ls [])) → W p l e (zrm 1 22) s m args below meth c H locs 0 0 Q (F0 m 28 ls []) := by
  have hx := M.1.1
  have hb := M.1.2.1
  intro n
  induction n with
  | zero =>
    intro v3 σ o hr ls H locs hl I KF
    have hr : (none : Option (zmem)) = some o := hr
    cases hr
  | succ n ih =>
    intro v3 σ o hr ls H locs hl I KF
    rw [l_X7_writeTo_28] at hr
    refine lv_iload_n hx hb dX7_writeTo_28 rfl (lv_at hl 3 rfl) ?_
    refine lv_bipush (v := (24 : Int32)) hx hb dX7_writeTo_29 (by decide) ?_
    refine lv_icmp_ge (tgt := 77) hx hb dX7_writeTo_31 (by decide) (fun c7 => ?_) (fun c7 => ?_)
    · replace hr := zif_t hr c7
      obtain rfl := Option.some.inj hr
      exact KF ls _ _ (lv_sub hl [0, 1, 2] rfl) I
    · replace hr := zif_f hr c7
      refine lv_aload_n hx hb dX7_writeTo_34 rfl (lv_at hl 1 rfl) ?_
      refine lv_iload_n hx hb dX7_writeTo_35 rfl (lv_at hl 2 rfl) ?_
      refine lv_iconst (v := (2 : Int32)) hx hb dX7_writeTo_36 (by decide) ?_
      refine lv_iadd hx hb dX7_writeTo_37 ?_
      refine lv_iload_n hx hb dX7_writeTo_38 rfl (lv_at hl 3 rfl) ?_
      refine lv_iadd hx hb dX7_writeTo_39 ?_
      refine lv_aload_n hx hb dX7_writeTo_40 rfl (lv_at hl 0 rfl) ?_
      refine zgetR (j := (i0 + 1)) M I h0 zfl_X7_12 dX7_writeTo_41 rfl ?_
      refine lv_iload_n hx hb dX7_writeTo_44 rfl (lv_at hl 3 rfl) ?_
      obtain ⟨x3, e_x3, hr⟩ := zb_some hr
      refine zcallI M I (zrunV (as := [.int v3]) M I (c_X6_signAt l g fu (zs_7_0 h0) e_x3) (zs_7_0 h0) zK6.1 (by decide) zlv_X7_42 ⟨Nat.le_of_ble_eq_true rfl, Nat.le_of_ble_eq_true rfl⟩ ⟨Nat.zero_le _, Nat.zero_le _⟩ rfl rfl (Nat.le_of_ble_eq_true rfl) hl.1 dX7_writeTo_45) (fun H locs I => ?_)
      obtain ⟨x4, e_x4, hr⟩ := zb_some hr
      refine zcallU M I (zrunV (as := [.int ((a2 + (2 : Int32)) + v3), .int x3]) M I (c_X1_store l g fu h1 e_x4) h1 zK1.1 (by decide) zlv_X7_30 ⟨Nat.le_of_ble_eq_true rfl, Nat.le_of_ble_eq_true rfl⟩ ⟨Nat.zero_le _, Nat.zero_le _⟩ rfl rfl (Nat.le_of_ble_eq_true rfl) hl.1 dX7_writeTo_48) (fun H locs I => ?_)
      refine lv_aload_n hx hb dX7_writeTo_51 rfl (lv_at hl 1 rfl) ?_
      refine lv_iload_n hx hb dX7_writeTo_52 rfl (lv_at hl 2 rfl) ?_
      refine lv_iconst (v := (2 : Int32)) hx hb dX7_writeTo_53 (by decide) ?_
      refine lv_iadd hx hb dX7_writeTo_54 ?_
      refine lv_bipush (v := (24 : Int32)) hx hb dX7_writeTo_55 (by decide) ?_
      refine lv_iadd hx hb dX7_writeTo_57 ?_
      refine lv_iload_n hx hb dX7_writeTo_58 rfl (lv_at hl 3 rfl) ?_
      refine lv_iadd hx hb dX7_writeTo_59 ?_
      refine lv_aload_n hx hb dX7_writeTo_60 rfl (lv_at hl 0 rfl) ?_
      refine zgetR (j := (i0 + 3)) M I h0 zfl_X7_18 dX7_writeTo_61 rfl ?_
      refine lv_iload_n hx hb dX7_writeTo_64 rfl (lv_at hl 3 rfl) ?_
      obtain ⟨x5, e_x5, hr⟩ := zb_some hr
      refine zcallI M I (zrunV (as := [.int v3]) M I (c_X6_signAt l g fu (zs_7_1 h0) e_x5) (zs_7_1 h0) zK6.1 (by decide) zlv_X7_42 ⟨Nat.le_of_ble_eq_true rfl, Nat.le_of_ble_eq_true rfl⟩ ⟨Nat.zero_le _, Nat.zero_le _⟩ rfl rfl (Nat.le_of_ble_eq_true rfl) hl.1 dX7_writeTo_65) (fun H locs I => ?_)
      obtain ⟨x6, e_x6, hr⟩ := zb_some hr
      refine zcallU M I (zrunV (as := [.int (((a2 + (2 : Int32)) + (24 : Int32)) + v3), .int x5]) M I (c_X1_store l g fu h1 e_x6) h1 zK1.1 (by decide) zlv_X7_30 ⟨Nat.le_of_ble_eq_true rfl, Nat.le_of_ble_eq_true rfl⟩ ⟨Nat.zero_le _, Nat.zero_le _⟩ rfl rfl (Nat.le_of_ble_eq_true rfl) hl.1 dX7_writeTo_68) (fun H locs I => ?_)
      refine lv_iinc (lv' := [(3, .int (v3 + 1)), (0, .ref (zA g i0)), (1, .ref (zA g i1)), (2, .int a2)]) (k := 3) (v := (v3 + 1)) hx hb dX7_writeTo_71 hl rfl (zi_1 _) (by decide) rfl (fun ls hl => ?_)
      refine lv_goto (tgt := 28) hx hb dX7_writeTo_74 (by decide) ?_
      exact ih _ _  _ hr ls _ _ (lv_sub hl [1, 2, 3, 0] rfl) I KF
def l_X7_writeTo_79 (fu : Nat) (i0 : Nat) (i1 : Nat) (a2 : Int32) : Nat → Int32 → zmem → Option (zmem)
  | 0, _, _ => none
  | n + 1, v3, σ => (if (4 : Int32) ≤ v3 then some σ else (m_X1_at fu σ (i0 + 5) v3).bind fun x9 => (m_X1_store fu σ i1 (((a2 + (2 : Int32)) + (48 : Int32)) + v3) x9).bind fun x10 => l_X7_writeTo_79 fu i0 i1 a2 n (v3 + 1) x10)
set_option maxHeartbeats 4000000 in
set_option maxRecDepth 100000 in
theorem k_X7_writeTo_79 {l : Launch} {g : zgeo} {fu : Nat} {p : Program} {e : Env} {s : State} {m : MethodId} {args : Array Value} {below : List Frame} {meth : Method} {c : Code} (M : zMC RX7 cX7_writeTo 4 none g p m c s args meth) {i0 : Nat} {i1 : Nat} {a2 : Int32} (h0 : zkd i0 = (7, 0)) (h1 : zkd i1 = (1, 0)) {Q : State → Prop} : ∀ (n : Nat) (v3 : Int32) (σ : zmem) (o : zmem), l_X7_writeTo_79 fu i0 i1 a2 n v3 σ = some o → ∀ (ls : Array Slot) (H : Heap) (locs : List Loc), lv_has ls 4 [(0, .ref (zA g i0)), (1, .ref (zA g i1)), (2, .int a2), (3, .int v3)] → zIV g σ (zAA g) s.heap H locs → (∀ (ls : Array Slot) (H : Heap) (locs : List Loc), lv_has ls 4 [] → zIV g o (zAA g) s.heap H locs → W p l e (zrm 1 22) s m args below meth c H locs 0 0 Q (F0 m 110 ls [])) → W p l e (zrm 1 22) s m args below meth c H locs 0 0 Q (F0 m 79 ls []) := by
  have hx := M.1.1
  have hb := M.1.2.1
  intro n
  induction n with
  | zero =>
    intro v3 σ o hr ls H locs hl I KF
    have hr : (none : Option (zmem)) = some o := hr
    cases hr
  | succ n ih =>
    intro v3 σ o hr ls H locs hl I KF
    rw [l_X7_writeTo_79] at hr
    refine lv_iload_n hx hb dX7_writeTo_79 rfl (lv_at hl 3 rfl) ?_
    refine lv_iconst (v := (4 : Int32)) hx hb dX7_writeTo_80 (by decide) ?_
    refine lv_icmp_ge (tgt := 110) hx hb dX7_writeTo_81 (by decide) (fun c11 => ?_) (fun c11 => ?_)
    · replace hr := zif_t hr c11
      obtain rfl := Option.some.inj hr
      exact KF ls _ _ (lv_sub hl [] rfl) I
    · replace hr := zif_f hr c11
      refine lv_aload_n hx hb dX7_writeTo_84 rfl (lv_at hl 1 rfl) ?_
      refine lv_iload_n hx hb dX7_writeTo_85 rfl (lv_at hl 2 rfl) ?_
      refine lv_iconst (v := (2 : Int32)) hx hb dX7_writeTo_86 (by decide) ?_
      refine lv_iadd hx hb dX7_writeTo_87 ?_
      refine lv_bipush (v := (48 : Int32)) hx hb dX7_writeTo_88 (by decide) ?_
      refine lv_iadd hx hb dX7_writeTo_90 ?_
      refine lv_iload_n hx hb dX7_writeTo_91 rfl (lv_at hl 3 rfl) ?_
      refine lv_iadd hx hb dX7_writeTo_92 ?_
      refine lv_aload_n hx hb dX7_writeTo_93 rfl (lv_at hl 0 rfl) ?_
      refine zgetR (j := (i0 + 5)) M I h0 zfl_X7_26 dX7_writeTo_94 rfl ?_
      refine lv_iload_n hx hb dX7_writeTo_97 rfl (lv_at hl 3 rfl) ?_
      obtain ⟨x9, e_x9, hr⟩ := zb_some hr
      refine zcallI M I (zrunV (as := [.int v3]) M I (c_X1_at l g fu (zs_7_2 h0) e_x9) (zs_7_2 h0) zK1.1 (by decide) zlv_X7_57 ⟨Nat.le_of_ble_eq_true rfl, Nat.le_of_ble_eq_true rfl⟩ ⟨Nat.zero_le _, Nat.zero_le _⟩ rfl rfl (Nat.le_of_ble_eq_true rfl) hl.1 dX7_writeTo_98) (fun H locs I => ?_)
      obtain ⟨x10, e_x10, hr⟩ := zb_some hr
      refine zcallU M I (zrunV (as := [.int (((a2 + (2 : Int32)) + (48 : Int32)) + v3), .int x9]) M I (c_X1_store l g fu h1 e_x10) h1 zK1.1 (by decide) zlv_X7_30 ⟨Nat.le_of_ble_eq_true rfl, Nat.le_of_ble_eq_true rfl⟩ ⟨Nat.zero_le _, Nat.zero_le _⟩ rfl rfl (Nat.le_of_ble_eq_true rfl) hl.1 dX7_writeTo_101) (fun H locs I => ?_)
      refine lv_iinc (lv' := [(3, .int (v3 + 1)), (0, .ref (zA g i0)), (1, .ref (zA g i1)), (2, .int a2)]) (k := 3) (v := (v3 + 1)) hx hb dX7_writeTo_104 hl rfl (zi_1 _) (by decide) rfl (fun ls hl => ?_)
      refine lv_goto (tgt := 79) hx hb dX7_writeTo_107 (by decide) ?_
      exact ih _ _  _ hr ls _ _ (lv_sub hl [1, 2, 3, 0] rfl) I KF
def m_X7_writeTo (fu : Nat) (σ : zmem) (i0 : Nat) (i1 : Nat) (a2 : Int32) : Option (zmem) := (m_X1_store fu σ i1 a2 (σ.1 (i0 + 1) 1)).bind fun x1 => (m_X1_store fu x1 i1 (a2 + (1 : Int32)) (x1.1 (i0 + 3) 1)).bind fun x2 => (l_X7_writeTo_28 fu i0 i1 a2 fu (0 : Int32) x2).bind fun x8 => (l_X7_writeTo_79 fu i0 i1 a2 fu (0 : Int32) x8).bind fun x12 => some x12
set_option maxHeartbeats 4000000 in
set_option maxRecDepth 100000 in
theorem c_X7_writeTo (l : Launch) (g : zgeo) (fu : Nat) {σ : zmem} {i0 : Nat} {i1 : Nat} {a2 : Int32} {r : zmem} (h0 : zkd i0 = (7, 0)) (h1 : zkd i1 = (1, 0)) (hr : m_X7_writeTo fu σ i0 i1 a2 = some r) : zCt (zQV g r) l g yX7_writeTo cX7_writeTo 4 none 1 22 [.ref (zA g i0), .ref (zA g i1), .int a2] σ := by
  refine zopen (by decide) (Nat.le_of_ble_eq_true rfl) ?_
  intro p e s m below meth c M ls hl I
  have M : zMC RX7 cX7_writeTo 4 none g p m c s ([.ref (zA g i0), .ref (zA g i1), .int a2] : List Value).toArray meth := M
  have hl : lv_has ls 4 [(0, .ref (zA g i0)), (1, .ref (zA g i1)), (2, .int a2)] := hl
  generalize ([.ref (zA g i0), .ref (zA g i1), .int a2] : List Value).toArray = args at M ⊢
  have hx := M.1.1
  have hb := M.1.2.1
  unfold m_X7_writeTo at hr
  refine lv_aload_n hx hb dX7_writeTo_0 rfl (lv_at hl 1 rfl) ?_
  refine lv_iload_n hx hb dX7_writeTo_1 rfl (lv_at hl 2 rfl) ?_
  refine lv_aload_n hx hb dX7_writeTo_2 rfl (lv_at hl 0 rfl) ?_
  refine zgetR (j := (i0 + 1)) M I h0 zfl_X7_12 dX7_writeTo_3 rfl ?_
  refine zgetN M I (zs_7_0 h0) dX7_writeTo_6 ?_
  obtain ⟨x1, e_x1, hr⟩ := zb_some hr
  refine zcallU M I (zrunV (as := [.int a2, .int (σ.1 (i0 + 1) 1)]) M I (c_X1_store l g fu h1 e_x1) h1 zK1.1 (by decide) zlv_X7_30 ⟨Nat.le_of_ble_eq_true rfl, Nat.le_of_ble_eq_true rfl⟩ ⟨Nat.zero_le _, Nat.zero_le _⟩ rfl rfl (Nat.le_of_ble_eq_true rfl) hl.1 dX7_writeTo_9) (fun H locs I => ?_)
  refine lv_aload_n hx hb dX7_writeTo_12 rfl (lv_at hl 1 rfl) ?_
  refine lv_iload_n hx hb dX7_writeTo_13 rfl (lv_at hl 2 rfl) ?_
  refine lv_iconst (v := (1 : Int32)) hx hb dX7_writeTo_14 (by decide) ?_
  refine lv_iadd hx hb dX7_writeTo_15 ?_
  refine lv_aload_n hx hb dX7_writeTo_16 rfl (lv_at hl 0 rfl) ?_
  refine zgetR (j := (i0 + 3)) M I h0 zfl_X7_18 dX7_writeTo_17 rfl ?_
  refine zgetN M I (zs_7_1 h0) dX7_writeTo_20 ?_
  obtain ⟨x2, e_x2, hr⟩ := zb_some hr
  refine zcallU M I (zrunV (as := [.int (a2 + (1 : Int32)), .int (x1.1 (i0 + 3) 1)]) M I (c_X1_store l g fu h1 e_x2) h1 zK1.1 (by decide) zlv_X7_30 ⟨Nat.le_of_ble_eq_true rfl, Nat.le_of_ble_eq_true rfl⟩ ⟨Nat.zero_le _, Nat.zero_le _⟩ rfl rfl (Nat.le_of_ble_eq_true rfl) hl.1 dX7_writeTo_23) (fun H locs I => ?_)
  refine lv_iconst (v := (0 : Int32)) hx hb dX7_writeTo_26 (by decide) ?_
  refine lv_istore_n (lv' := [(3, .int (0 : Int32)), (0, .ref (zA g i0)), (1, .ref (zA g i1)), (2, .int a2)]) hx hb dX7_writeTo_27 rfl hl (by decide) rfl (fun ls hl => ?_)
  obtain ⟨x8, e_x8, hr⟩ := zb_some hr
  refine k_X7_writeTo_28 M h0 h1 fu _ _  _ e_x8 ls _ _ (lv_sub hl [1, 2, 3, 0] rfl) I (fun ls H locs hl I => ?_)
  refine lv_iconst (v := (0 : Int32)) hx hb dX7_writeTo_77 (by decide) ?_
  refine lv_istore_n (lv' := [(3, .int (0 : Int32)), (0, .ref (zA g i0)), (1, .ref (zA g i1)), (2, .int a2)]) hx hb dX7_writeTo_78 rfl hl (by decide) rfl (fun ls hl => ?_)
  obtain ⟨x12, e_x12, hr⟩ := zb_some hr
  refine k_X7_writeTo_79 M h0 h1 fu _ _  _ e_x12 ls _ _ (lv_sub hl [1, 2, 3, 0] rfl) I (fun ls H locs hl I => ?_)
  obtain rfl := Option.some.inj hr
  exact zretV M I dX7_writeTo_110
def m_X4_save (fu : Nat) (σ : zmem) (i0 : Nat) (i1 : Nat) : Option (zmem) := ((if (σ.1 i0 1) < (6 : Int32) then some σ else (m_X4_dropOldest fu σ i0).bind fun x3 => some x3) : Option (zmem)).bind fun x1 => (m_X7_writeTo fu x1 i1 (i0 + 1) ((x1.1 i0 1) * (54 : Int32))).bind fun x2 => some (zst x2 i0 1 ((x2.1 i0 1) + (1 : Int32)))
set_option maxHeartbeats 4000000 in
set_option maxRecDepth 100000 in
theorem c_X4_save (l : Launch) (g : zgeo) (fu : Nat) {σ : zmem} {i0 : Nat} {i1 : Nat} {r : zmem} (h0 : zkd i0 = (4, 0)) (h1 : zkd i1 = (7, 0)) (hr : m_X4_save fu σ i0 i1 = some r) : zCt (zQV g r) l g yX4_save cX4_save 2 none 2 45 [.ref (zA g i0), .ref (zA g i1)] σ := by
  refine zopen (by decide) (Nat.le_of_ble_eq_true rfl) ?_
  intro p e s m below meth c M ls hl I
  have M : zMC RX4 cX4_save 2 none g p m c s ([.ref (zA g i0), .ref (zA g i1)] : List Value).toArray meth := M
  have hl : lv_has ls 2 [(0, .ref (zA g i0)), (1, .ref (zA g i1))] := hl
  generalize ([.ref (zA g i0), .ref (zA g i1)] : List Value).toArray = args at M ⊢
  have hx := M.1.1
  have hb := M.1.2.1
  unfold m_X4_save at hr
  refine lv_aload_n hx hb dX4_save_0 rfl (lv_at hl 0 rfl) ?_
  refine zgetI M I h0 zfl_X4_22 dX4_save_1 ?_
  refine lv_bipush (v := (6 : Int32)) hx hb dX4_save_4 (by decide) ?_
  obtain ⟨x1, e_x1, hr⟩ := zb_some hr
  have K_x1 : ∀ (ls : Array Slot) (H : Heap) (locs : List Loc), lv_has ls 2 [(0, .ref (zA g i0)), (1, .ref (zA g i1))] → zIV g x1 (zAA g) s.heap H locs → W p l e (zrm 2 45) s m args below meth c H locs 0 0 (MQ below (zQV g r) args s 0 0 (zAA g)) (F0 m 13 ls []) := by
    intro ls H locs hl I
    refine lv_aload_n hx hb dX4_save_13 rfl (lv_at hl 1 rfl) ?_
    refine lv_aload_n hx hb dX4_save_14 rfl (lv_at hl 0 rfl) ?_
    refine zgetR (j := (i0 + 1)) M I h0 zfl_X4_16 dX4_save_15 rfl ?_
    refine lv_aload_n hx hb dX4_save_18 rfl (lv_at hl 0 rfl) ?_
    refine zgetI M I h0 zfl_X4_22 dX4_save_19 ?_
    refine lv_bipush (v := (54 : Int32)) hx hb dX4_save_22 (by decide) ?_
    refine lv_imul hx hb dX4_save_24 ?_
    obtain ⟨x2, e_x2, hr⟩ := zb_some hr
    refine zcallU M I (zrunV (as := [.ref (zA g (i0 + 1)), .int ((x1.1 i0 1) * (54 : Int32))]) M I (c_X7_writeTo l g fu h1 (zs_4_0 h0) e_x2) h1 zK7.1 (by decide) zlv_X4_29 ⟨Nat.le_of_ble_eq_true rfl, Nat.le_of_ble_eq_true rfl⟩ ⟨Nat.zero_le _, Nat.zero_le _⟩ rfl rfl (Nat.le_of_ble_eq_true rfl) hl.1 dX4_save_25) (fun H locs I => ?_)
    refine lv_aload_n hx hb dX4_save_28 rfl (lv_at hl 0 rfl) ?_
    refine lv_dup hx hb dX4_save_29 rfl ?_
    refine zgetI M I h0 zfl_X4_22 dX4_save_30 ?_
    refine lv_iconst (v := (1 : Int32)) hx hb dX4_save_33 (by decide) ?_
    refine lv_iadd hx hb dX4_save_34 ?_
    refine zputI M I h0 zfw_X4_22 dX4_save_35 (fun H locs I => ?_)
    obtain rfl := Option.some.inj hr
    exact zretV M I dX4_save_38
  refine lv_icmp_lt (tgt := 13) hx hb dX4_save_6 (by decide) (fun c4 => ?_) (fun c4 => ?_)
  · replace e_x1 := zif_t e_x1 c4
    obtain rfl := Option.some.inj e_x1
    exact K_x1 ls _ _ hl I
  · replace e_x1 := zif_f e_x1 c4
    refine lv_aload_n hx hb dX4_save_9 rfl (lv_at hl 0 rfl) ?_
    obtain ⟨x3, e_x3, e_x1⟩ := zb_some e_x1
    refine zcallU M I (zrunV (as := []) M I (c_X4_dropOldest l g fu h0 e_x3) h0 zK4.1 (by decide) zlv_X4_26 ⟨Nat.le_of_ble_eq_true rfl, Nat.le_of_ble_eq_true rfl⟩ ⟨Nat.zero_le _, Nat.zero_le _⟩ rfl rfl (Nat.le_of_ble_eq_true rfl) hl.1 dX4_save_10) (fun H locs I => ?_)
    obtain rfl := Option.some.inj e_x1
    exact K_x1 ls _ _ hl I
def l_X7_exchangeRows_32 (fu : Nat) (i0 : Nat) : Nat → Int32 → zmem → Option (zmem)
  | 0, _, _ => none
  | n + 1, v2, σ => (if (24 : Int32) ≤ v2 then some σ else (m_X6_signAt fu σ (i0 + 1) v2).bind fun x1 => (m_X6_signAt fu σ (i0 + 3) v2).bind fun x2 => (m_X6_write fu σ (i0 + 1) v2 x2).bind fun x3 => (m_X6_write fu x3 (i0 + 3) v2 x1).bind fun x4 => l_X7_exchangeRows_32 fu i0 n (v2 + 1) x4)
set_option maxHeartbeats 4000000 in
set_option maxRecDepth 100000 in
theorem k_X7_exchangeRows_32 {l : Launch} {g : zgeo} {fu : Nat} {p : Program} {e : Env} {s : State} {m : MethodId} {args : Array Value} {below : List Frame} {meth : Method} {c : Code} (M : zMC RX7 cX7_exchangeRows 4 none g p m c s args meth) {i0 : Nat} (h0 : zkd i0 = (7, 0)) {Q : State → Prop} : ∀ (n : Nat) (v2 : Int32) (σ : zmem) (o : zmem), l_X7_exchangeRows_32 fu i0 n v2 σ = some o → ∀ (ls : Array Slot) (H : Heap) (locs : List Loc), lv_has ls 4 [(0, .ref (zA g i0)), (2, .int v2)] → zIV g σ (zAA g) s.heap H locs → (∀ (ls : Array Slot) (H : Heap) (locs : List Loc), lv_has ls 4 [] → zIV g o (zAA g) s.heap H locs → W p l e (zrm 1 22) s m args below meth c H locs 0 0 Q (F0 m 78 ls [])) → W p l e (zrm 1 22) s m args below meth c H locs 0 0 Q (F0 m 32 ls []) := by
  have hx := M.1.1
  have hb := M.1.2.1
  intro n
  induction n with
  | zero =>
    intro v2 σ o hr ls H locs hl I KF
    have hr : (none : Option (zmem)) = some o := hr
    cases hr
  | succ n ih =>
    intro v2 σ o hr ls H locs hl I KF
    rw [l_X7_exchangeRows_32] at hr
    refine lv_iload_n hx hb dX7_exchangeRows_32 rfl (lv_at hl 1 rfl) ?_
    refine lv_bipush (v := (24 : Int32)) hx hb dX7_exchangeRows_33 (by decide) ?_
    refine lv_icmp_ge (tgt := 78) hx hb dX7_exchangeRows_35 (by decide) (fun c5 => ?_) (fun c5 => ?_)
    · replace hr := zif_t hr c5
      obtain rfl := Option.some.inj hr
      exact KF ls _ _ (lv_sub hl [] rfl) I
    · replace hr := zif_f hr c5
      refine lv_aload_n hx hb dX7_exchangeRows_38 rfl (lv_at hl 0 rfl) ?_
      refine zgetR (j := (i0 + 1)) M I h0 zfl_X7_12 dX7_exchangeRows_39 rfl ?_
      refine lv_iload_n hx hb dX7_exchangeRows_42 rfl (lv_at hl 1 rfl) ?_
      obtain ⟨x1, e_x1, hr⟩ := zb_some hr
      refine zcallI M I (zrunV (as := [.int v2]) M I (c_X6_signAt l g fu (zs_7_0 h0) e_x1) (zs_7_0 h0) zK6.1 (by decide) zlv_X7_42 ⟨Nat.le_of_ble_eq_true rfl, Nat.le_of_ble_eq_true rfl⟩ ⟨Nat.zero_le _, Nat.zero_le _⟩ rfl rfl (Nat.le_of_ble_eq_true rfl) hl.1 dX7_exchangeRows_43) (fun H locs I => ?_)
      refine lv_istore_n (lv' := [(3, .int x1), (0, .ref (zA g i0)), (2, .int v2)]) hx hb dX7_exchangeRows_46 rfl hl (by decide) rfl (fun ls hl => ?_)
      refine lv_aload_n hx hb dX7_exchangeRows_47 rfl (lv_at hl 1 rfl) ?_
      refine zgetR (j := (i0 + 1)) M I h0 zfl_X7_12 dX7_exchangeRows_48 rfl ?_
      refine lv_iload_n hx hb dX7_exchangeRows_51 rfl (lv_at hl 2 rfl) ?_
      refine lv_aload_n hx hb dX7_exchangeRows_52 rfl (lv_at hl 1 rfl) ?_
      refine zgetR (j := (i0 + 3)) M I h0 zfl_X7_18 dX7_exchangeRows_53 rfl ?_
      refine lv_iload_n hx hb dX7_exchangeRows_56 rfl (lv_at hl 2 rfl) ?_
      obtain ⟨x2, e_x2, hr⟩ := zb_some hr
      refine zcallI M I (zrunV (as := [.int v2]) M I (c_X6_signAt l g fu (zs_7_1 h0) e_x2) (zs_7_1 h0) zK6.1 (by decide) zlv_X7_42 ⟨Nat.le_of_ble_eq_true rfl, Nat.le_of_ble_eq_true rfl⟩ ⟨Nat.zero_le _, Nat.zero_le _⟩ rfl rfl (Nat.le_of_ble_eq_true rfl) hl.1 dX7_exchangeRows_57) (fun H locs I => ?_)
      obtain ⟨x3, e_x3, hr⟩ := zb_some hr
      refine zcallU M I (zrunV (as := [.int v2, .int x2]) M I (c_X6_write l g fu (zs_7_0 h0) e_x3) (zs_7_0 h0) zK6.1 (by decide) zlv_X7_46 ⟨Nat.le_of_ble_eq_true rfl, Nat.le_of_ble_eq_true rfl⟩ ⟨Nat.zero_le _, Nat.zero_le _⟩ rfl rfl (Nat.le_of_ble_eq_true rfl) hl.1 dX7_exchangeRows_60) (fun H locs I => ?_)
      refine lv_aload_n hx hb dX7_exchangeRows_63 rfl (lv_at hl 1 rfl) ?_
      refine zgetR (j := (i0 + 3)) M I h0 zfl_X7_18 dX7_exchangeRows_64 rfl ?_
      refine lv_iload_n hx hb dX7_exchangeRows_67 rfl (lv_at hl 2 rfl) ?_
      refine lv_iload_n hx hb dX7_exchangeRows_68 rfl (lv_at hl 0 rfl) ?_
      obtain ⟨x4, e_x4, hr⟩ := zb_some hr
      refine zcallU M I (zrunV (as := [.int v2, .int x1]) M I (c_X6_write l g fu (zs_7_1 h0) e_x4) (zs_7_1 h0) zK6.1 (by decide) zlv_X7_46 ⟨Nat.le_of_ble_eq_true rfl, Nat.le_of_ble_eq_true rfl⟩ ⟨Nat.zero_le _, Nat.zero_le _⟩ rfl rfl (Nat.le_of_ble_eq_true rfl) hl.1 dX7_exchangeRows_69) (fun H locs I => ?_)
      refine lv_iinc (lv' := [(2, .int (v2 + 1)), (3, .int x1), (0, .ref (zA g i0))]) (k := 2) (v := (v2 + 1)) hx hb dX7_exchangeRows_72 hl rfl (zi_1 _) (by decide) rfl (fun ls hl => ?_)
      refine lv_goto (tgt := 32) hx hb dX7_exchangeRows_75 (by decide) ?_
      exact ih _ _  _ hr ls _ _ (lv_sub hl [2, 0] rfl) I KF
def m_X7_exchangeRows (fu : Nat) (σ : zmem) (i0 : Nat) : Option (zmem) := (l_X7_exchangeRows_32 fu i0 fu (0 : Int32) (zst (zst σ (i0 + 1) 1 (σ.1 (i0 + 3) 1)) (i0 + 3) 1 (σ.1 (i0 + 1) 1))).bind fun x6 => some x6
set_option maxHeartbeats 4000000 in
set_option maxRecDepth 100000 in
theorem c_X7_exchangeRows (l : Launch) (g : zgeo) (fu : Nat) {σ : zmem} {i0 : Nat} {r : zmem} (h0 : zkd i0 = (7, 0)) (hr : m_X7_exchangeRows fu σ i0 = some r) : zCt (zQV g r) l g yX7_exchangeRows cX7_exchangeRows 4 none 1 22 [.ref (zA g i0)] σ := by
  refine zopen (by decide) (Nat.le_of_ble_eq_true rfl) ?_
  intro p e s m below meth c M ls hl I
  have M : zMC RX7 cX7_exchangeRows 4 none g p m c s ([.ref (zA g i0)] : List Value).toArray meth := M
  have hl : lv_has ls 4 [(0, .ref (zA g i0))] := hl
  generalize ([.ref (zA g i0)] : List Value).toArray = args at M ⊢
  have hx := M.1.1
  have hb := M.1.2.1
  unfold m_X7_exchangeRows at hr
  refine lv_aload_n hx hb dX7_exchangeRows_0 rfl (lv_at hl 0 rfl) ?_
  refine zgetR (j := (i0 + 1)) M I h0 zfl_X7_12 dX7_exchangeRows_1 rfl ?_
  refine zgetN M I (zs_7_0 h0) dX7_exchangeRows_4 ?_
  refine lv_istore_n (lv' := [(1, .int (σ.1 (i0 + 1) 1)), (0, .ref (zA g i0))]) hx hb dX7_exchangeRows_7 rfl hl (by decide) rfl (fun ls hl => ?_)
  refine lv_aload_n hx hb dX7_exchangeRows_8 rfl (lv_at hl 1 rfl) ?_
  refine zgetR (j := (i0 + 1)) M I h0 zfl_X7_12 dX7_exchangeRows_9 rfl ?_
  refine lv_aload_n hx hb dX7_exchangeRows_12 rfl (lv_at hl 1 rfl) ?_
  refine zgetR (j := (i0 + 3)) M I h0 zfl_X7_18 dX7_exchangeRows_13 rfl ?_
  refine zgetN M I (zs_7_1 h0) dX7_exchangeRows_16 ?_
  refine zputN M I (zs_7_0 h0) dX7_exchangeRows_19 (fun H locs I => ?_)
  refine lv_aload_n hx hb dX7_exchangeRows_22 rfl (lv_at hl 1 rfl) ?_
  refine zgetR (j := (i0 + 3)) M I h0 zfl_X7_18 dX7_exchangeRows_23 rfl ?_
  refine lv_iload_n hx hb dX7_exchangeRows_26 rfl (lv_at hl 0 rfl) ?_
  refine zputN M I (zs_7_1 h0) dX7_exchangeRows_27 (fun H locs I => ?_)
  refine lv_iconst (v := (0 : Int32)) hx hb dX7_exchangeRows_30 (by decide) ?_
  refine lv_istore_n (lv' := [(2, .int (0 : Int32)), (1, .int (σ.1 (i0 + 1) 1)), (0, .ref (zA g i0))]) hx hb dX7_exchangeRows_31 rfl hl (by decide) rfl (fun ls hl => ?_)
  obtain ⟨x6, e_x6, hr⟩ := zb_some hr
  refine k_X7_exchangeRows_32 M h0 fu _ _  _ e_x6 ls _ _ (lv_sub hl [2, 0] rfl) I (fun ls H locs hl I => ?_)
  obtain rfl := Option.some.inj hr
  exact zretV M I dX7_exchangeRows_78
def m_X8_size (fu : Nat) (σ : zmem) (i0 : Nat) : Option (Int32) := some (σ.1 i0 1)
set_option maxHeartbeats 4000000 in
set_option maxRecDepth 100000 in
theorem c_X8_size (l : Launch) (g : zgeo) (fu : Nat) {σ : zmem} {i0 : Nat} {r : Int32} (h0 : zkd i0 = (8, 0)) (hr : m_X8_size fu σ i0 = some r) : zCt (zQI g r σ) l g yX8_size cX8_size 1 (some .int) 0 0 [.ref (zA g i0)] σ := by
  refine zopen (by decide) (Nat.le_of_ble_eq_true rfl) ?_
  intro p e s m below meth c M ls hl I
  have M : zMC RX8 cX8_size 1 (some .int) g p m c s ([.ref (zA g i0)] : List Value).toArray meth := M
  have hl : lv_has ls 1 [(0, .ref (zA g i0))] := hl
  generalize ([.ref (zA g i0)] : List Value).toArray = args at M ⊢
  have hx := M.1.1
  have hb := M.1.2.1
  unfold m_X8_size at hr
  refine lv_aload_n hx hb dX8_size_0 rfl (lv_at hl 0 rfl) ?_
  refine zgetI M I h0 zfl_X8_20 dX8_size_1 ?_
  obtain rfl := Option.some.inj hr
  exact zretI M I dX8_size_4
def m_X8_add (fu : Nat) (σ : zmem) (i0 : Nat) (a1 : Int32) : Option (zmem) := (if (60 : Int32) ≤ (σ.1 i0 1) then some σ else (m_X1_store fu σ (i0 + 1) (σ.1 i0 1) a1).bind fun x1 => some (zst x1 i0 1 ((x1.1 i0 1) + (1 : Int32))))
set_option maxHeartbeats 4000000 in
set_option maxRecDepth 100000 in
theorem c_X8_add (l : Launch) (g : zgeo) (fu : Nat) {σ : zmem} {i0 : Nat} {a1 : Int32} {r : zmem} (h0 : zkd i0 = (8, 0)) (hr : m_X8_add fu σ i0 a1 = some r) : zCt (zQV g r) l g yX8_add cX8_add 2 none 1 22 [.ref (zA g i0), .int a1] σ := by
  refine zopen (by decide) (Nat.le_of_ble_eq_true rfl) ?_
  intro p e s m below meth c M ls hl I
  have M : zMC RX8 cX8_add 2 none g p m c s ([.ref (zA g i0), .int a1] : List Value).toArray meth := M
  have hl : lv_has ls 2 [(0, .ref (zA g i0)), (1, .int a1)] := hl
  generalize ([.ref (zA g i0), .int a1] : List Value).toArray = args at M ⊢
  have hx := M.1.1
  have hb := M.1.2.1
  unfold m_X8_add at hr
  refine lv_aload_n hx hb dX8_add_0 rfl (lv_at hl 0 rfl) ?_
  refine zgetI M I h0 zfl_X8_20 dX8_add_1 ?_
  refine lv_bipush (v := (60 : Int32)) hx hb dX8_add_4 (by decide) ?_
  refine lv_icmp_ge (tgt := 31) hx hb dX8_add_6 (by decide) (fun c2 => ?_) (fun c2 => ?_)
  · replace hr := zif_t hr c2
    obtain rfl := Option.some.inj hr
    exact zretV M I dX8_add_31
  · replace hr := zif_f hr c2
    refine lv_aload_n hx hb dX8_add_9 rfl (lv_at hl 0 rfl) ?_
    refine zgetR (j := (i0 + 1)) M I h0 zfl_X8_14 dX8_add_10 rfl ?_
    refine lv_aload_n hx hb dX8_add_13 rfl (lv_at hl 0 rfl) ?_
    refine zgetI M I h0 zfl_X8_20 dX8_add_14 ?_
    refine lv_iload_n hx hb dX8_add_17 rfl (lv_at hl 1 rfl) ?_
    obtain ⟨x1, e_x1, hr⟩ := zb_some hr
    refine zcallU M I (zrunV (as := [.int (σ.1 i0 1), .int a1]) M I (c_X1_store l g fu (zs_8_0 h0) e_x1) (zs_8_0 h0) zK1.1 (by decide) zlv_X8_28 ⟨Nat.le_of_ble_eq_true rfl, Nat.le_of_ble_eq_true rfl⟩ ⟨Nat.zero_le _, Nat.zero_le _⟩ rfl rfl (Nat.le_of_ble_eq_true rfl) hl.1 dX8_add_18) (fun H locs I => ?_)
    refine lv_aload_n hx hb dX8_add_21 rfl (lv_at hl 0 rfl) ?_
    refine lv_dup hx hb dX8_add_22 rfl ?_
    refine zgetI M I h0 zfl_X8_20 dX8_add_23 ?_
    refine lv_iconst (v := (1 : Int32)) hx hb dX8_add_26 (by decide) ?_
    refine lv_iadd hx hb dX8_add_27 ?_
    refine zputI M I h0 zfw_X8_20 dX8_add_28 (fun H locs I => ?_)
    obtain rfl := Option.some.inj hr
    exact zretV M I dX8_add_31
def m_X8_clear (fu : Nat) (σ : zmem) (i0 : Nat) : Option (zmem) := some (zst σ i0 1 (0 : Int32))
set_option maxHeartbeats 4000000 in
set_option maxRecDepth 100000 in
theorem c_X8_clear (l : Launch) (g : zgeo) (fu : Nat) {σ : zmem} {i0 : Nat} {r : zmem} (h0 : zkd i0 = (8, 0)) (hr : m_X8_clear fu σ i0 = some r) : zCt (zQV g r) l g yX8_clear cX8_clear 1 none 0 0 [.ref (zA g i0)] σ := by
  refine zopen (by decide) (Nat.le_of_ble_eq_true rfl) ?_
  intro p e s m below meth c M ls hl I
  have M : zMC RX8 cX8_clear 1 none g p m c s ([.ref (zA g i0)] : List Value).toArray meth := M
  have hl : lv_has ls 1 [(0, .ref (zA g i0))] := hl
  generalize ([.ref (zA g i0)] : List Value).toArray = args at M ⊢
  have hx := M.1.1
  have hb := M.1.2.1
  unfold m_X8_clear at hr
  refine lv_aload_n hx hb dX8_clear_0 rfl (lv_at hl 0 rfl) ?_
  refine lv_iconst (v := (0 : Int32)) hx hb dX8_clear_1 (by decide) ?_
  refine zputI M I h0 zfw_X8_20 dX8_clear_2 (fun H locs I => ?_)
  obtain rfl := Option.some.inj hr
  exact zretV M I dX8_clear_5
def m_X8_isLetter (fu : Nat) (σ : zmem) (a0 : Int32) : Option (Int32) := (if a0 < (97 : Int32) then some (0 : Int32) else (if (100 : Int32) < a0 then some (0 : Int32) else some (1 : Int32)))
set_option maxHeartbeats 4000000 in
set_option maxRecDepth 100000 in
theorem c_X8_isLetter (l : Launch) (g : zgeo) (fu : Nat) {σ : zmem} {a0 : Int32} {r : Int32} (hr : m_X8_isLetter fu σ a0 = some r) : zCt (zQI g r σ) l g yX8_isLetter cX8_isLetter 1 (some .boolean) 0 0 [.int a0] σ := by
  refine zopen (by decide) (Nat.le_of_ble_eq_true rfl) ?_
  intro p e s m below meth c M ls hl I
  have M : zMC RX8 cX8_isLetter 1 (some .boolean) g p m c s ([.int a0] : List Value).toArray meth := M
  have hl : lv_has ls 1 [(0, .int a0)] := hl
  generalize ([.int a0] : List Value).toArray = args at M ⊢
  have hx := M.1.1
  have hb := M.1.2.1
  unfold m_X8_isLetter at hr
  refine lv_iload_n hx hb dX8_isLetter_0 rfl (lv_at hl 0 rfl) ?_
  refine lv_bipush (v := (97 : Int32)) hx hb dX8_isLetter_1 (by decide) ?_
  refine lv_icmp_lt (tgt := 16) hx hb dX8_isLetter_3 (by decide) (fun c2 => ?_) (fun c2 => ?_)
  · replace hr := zif_t hr c2
    refine lv_iconst (v := (0 : Int32)) hx hb dX8_isLetter_16 (by decide) ?_
    obtain rfl := Option.some.inj hr
    exact zretZ M I (Or.inl rfl) dX8_isLetter_17
  · replace hr := zif_f hr c2
    refine lv_iload_n hx hb dX8_isLetter_6 rfl (lv_at hl 0 rfl) ?_
    refine lv_bipush (v := (100 : Int32)) hx hb dX8_isLetter_7 (by decide) ?_
    refine lv_icmp_gt (tgt := 16) hx hb dX8_isLetter_9 (by decide) (fun c1 => ?_) (fun c1 => ?_)
    · replace hr := zif_t hr c1
      refine lv_iconst (v := (0 : Int32)) hx hb dX8_isLetter_16 (by decide) ?_
      obtain rfl := Option.some.inj hr
      exact zretZ M I (Or.inl rfl) dX8_isLetter_17
    · replace hr := zif_f hr c1
      refine lv_iconst (v := (1 : Int32)) hx hb dX8_isLetter_12 (by decide) ?_
      refine lv_goto (tgt := 17) hx hb dX8_isLetter_13 (by decide) ?_
      obtain rfl := Option.some.inj hr
      exact zretZ M I (Or.inr rfl) dX8_isLetter_17
def m_X8_isNumber (fu : Nat) (σ : zmem) (a0 : Int32) : Option (Int32) := (if a0 < (50 : Int32) then some (0 : Int32) else (if (57 : Int32) < a0 then some (0 : Int32) else some (1 : Int32)))
set_option maxHeartbeats 4000000 in
set_option maxRecDepth 100000 in
theorem c_X8_isNumber (l : Launch) (g : zgeo) (fu : Nat) {σ : zmem} {a0 : Int32} {r : Int32} (hr : m_X8_isNumber fu σ a0 = some r) : zCt (zQI g r σ) l g yX8_isNumber cX8_isNumber 1 (some .boolean) 0 0 [.int a0] σ := by
  refine zopen (by decide) (Nat.le_of_ble_eq_true rfl) ?_
  intro p e s m below meth c M ls hl I
  have M : zMC RX8 cX8_isNumber 1 (some .boolean) g p m c s ([.int a0] : List Value).toArray meth := M
  have hl : lv_has ls 1 [(0, .int a0)] := hl
  generalize ([.int a0] : List Value).toArray = args at M ⊢
  have hx := M.1.1
  have hb := M.1.2.1
  unfold m_X8_isNumber at hr
  refine lv_iload_n hx hb dX8_isNumber_0 rfl (lv_at hl 0 rfl) ?_
  refine lv_bipush (v := (50 : Int32)) hx hb dX8_isNumber_1 (by decide) ?_
  refine lv_icmp_lt (tgt := 16) hx hb dX8_isNumber_3 (by decide) (fun c2 => ?_) (fun c2 => ?_)
  · replace hr := zif_t hr c2
    refine lv_iconst (v := (0 : Int32)) hx hb dX8_isNumber_16 (by decide) ?_
    obtain rfl := Option.some.inj hr
    exact zretZ M I (Or.inl rfl) dX8_isNumber_17
  · replace hr := zif_f hr c2
    refine lv_iload_n hx hb dX8_isNumber_6 rfl (lv_at hl 0 rfl) ?_
    refine lv_bipush (v := (57 : Int32)) hx hb dX8_isNumber_7 (by decide) ?_
    refine lv_icmp_gt (tgt := 16) hx hb dX8_isNumber_9 (by decide) (fun c1 => ?_) (fun c1 => ?_)
    · replace hr := zif_t hr c1
      refine lv_iconst (v := (0 : Int32)) hx hb dX8_isNumber_16 (by decide) ?_
      obtain rfl := Option.some.inj hr
      exact zretZ M I (Or.inl rfl) dX8_isNumber_17
    · replace hr := zif_f hr c1
      refine lv_iconst (v := (1 : Int32)) hx hb dX8_isNumber_12 (by decide) ?_
      refine lv_goto (tgt := 17) hx hb dX8_isNumber_13 (by decide) ?_
      obtain rfl := Option.some.inj hr
      exact zretZ M I (Or.inr rfl) dX8_isNumber_17
def l_X8_faultPlace_9 (fu : Nat) (σ : zmem) (i0 : Nat) : Nat → Int32 → Int32 → Int32 → Int32 → Option ((Int32) ⊕ (Unit))
  | 0, _, _, _, _ => none
  | n + 1, v1, v2, v3, v4 => (if (σ.1 i0 1) ≤ v4 then some (.inr ()) else (m_X1_at fu σ (i0 + 1) v4).bind fun x1 => (m_X8_isLetter fu σ x1).bind fun x2 => (if x2 = 0 then (m_X8_isNumber fu σ x1).bind fun x3 => (if x3 = 0 then (if ¬ x1 = (47 : Int32) then some (.inl v4) else (if v2 = 0 then some (.inl v4) else l_X8_faultPlace_9 fu σ i0 n (0 : Int32) (0 : Int32) (0 : Int32) (v4 + 1))) else (if v3 = 0 then (if ¬ x1 = (47 : Int32) then some (.inl v4) else (if v2 = 0 then some (.inl v4) else l_X8_faultPlace_9 fu σ i0 n (0 : Int32) (0 : Int32) (0 : Int32) (v4 + 1))) else (if (24 : Int32) < (((v1 - (1 : Int32)) + x1) - (48 : Int32)) then (if ¬ x1 = (47 : Int32) then some (.inl v4) else (if v2 = 0 then some (.inl v4) else l_X8_faultPlace_9 fu σ i0 n (0 : Int32) (0 : Int32) (0 : Int32) (v4 + 1))) else l_X8_faultPlace_9 fu σ i0 n (v1 + ((x1 - (48 : Int32)) - (1 : Int32))) v2 (0 : Int32) (v4 + 1)))) else (if (24 : Int32) ≤ v1 then (m_X8_isNumber fu σ x1).bind fun x13 => (if x13 = 0 then (if ¬ x1 = (47 : Int32) then some (.inl v4) else (if v2 = 0 then some (.inl v4) else l_X8_faultPlace_9 fu σ i0 n (0 : Int32) (0 : Int32) (0 : Int32) (v4 + 1))) else (if v3 = 0 then (if ¬ x1 = (47 : Int32) then some (.inl v4) else (if v2 = 0 then some (.inl v4) else l_X8_faultPlace_9 fu σ i0 n (0 : Int32) (0 : Int32) (0 : Int32) (v4 + 1))) else (if (24 : Int32) < (((v1 - (1 : Int32)) + x1) - (48 : Int32)) then (if ¬ x1 = (47 : Int32) then some (.inl v4) else (if v2 = 0 then some (.inl v4) else l_X8_faultPlace_9 fu σ i0 n (0 : Int32) (0 : Int32) (0 : Int32) (v4 + 1))) else l_X8_faultPlace_9 fu σ i0 n (v1 + ((x1 - (48 : Int32)) - (1 : Int32))) v2 (0 : Int32) (v4 + 1)))) else l_X8_faultPlace_9 fu σ i0 n (v1 + 1) v2 (1 : Int32) (v4 + 1))))
set_option maxHeartbeats 4000000 in
set_option maxRecDepth 100000 in
theorem k_X8_faultPlace_9 {l : Launch} {g : zgeo} {fu : Nat} {p : Program} {e : Env} {s : State} {m : MethodId} {args : Array Value} {below : List Frame} {meth : Method} {c : Code} (M : zMC RX8 cX8_faultPlace 6 (some .int) g p m c s args meth) {σ : zmem} {i0 : Nat} (h0 : zkd i0 = (8, 0)) {r : Int32} : ∀ (n : Nat) (v1 : Int32) (v2 : Int32) (v3 : Int32) (v4 : Int32) (o : (Int32) ⊕ (Unit)), l_X8_faultPlace_9 fu σ i0 n v1 v2 v3 v4 = some o → ∀ (ls : Array Slot) (H : Heap) (locs : List Loc), lv_has ls 6 [(0, .ref (zA g i0)), (1, .int v1), (2, .int v2), (3, .int v3), (4, .int v4)] → zIV g σ (zAA g) s.heap H locs → (∀ q, o = .inl q → q = r) → (∀ w, o = .inr w → (∀ (ls : Array Slot) (H : Heap) (locs : List Loc), lv_has ls 6 [(0, .ref (zA g i0))] → zIV g σ (zAA g) s.heap H locs → W p l e (zrm 1 21) s m args below meth c H locs 0 0 (MQ below (zQI g r σ) args s 0 0 (zAA g)) (F0 m 121 ls []))) → W p l e (zrm 1 21) s m args below meth c H locs 0 0 (MQ below (zQI g r σ) args s 0 0 (zAA g)) (F0 m 9 ls []) := by
  have hx := M.1.1
  have hb := M.1.2.1
  intro n
  induction n with
  | zero =>
    intro v1 v2 v3 v4 o hr ls H locs hl I KR KF
    have hr : (none : Option ((Int32) ⊕ (Unit))) = some o := hr
    cases hr
  | succ n ih =>
    intro v1 v2 v3 v4 o hr ls H locs hl I KR KF
    rw [l_X8_faultPlace_9] at hr
    refine lv_iload hx hb dX8_faultPlace_9 (lv_at hl 4 rfl) ?_
    refine lv_aload_n hx hb dX8_faultPlace_11 rfl (lv_at hl 0 rfl) ?_
    refine zgetI M I h0 zfl_X8_20 dX8_faultPlace_12 ?_
    refine lv_icmp_ge (tgt := 121) hx hb dX8_faultPlace_15 (by decide) (fun c25 => ?_) (fun c25 => ?_)
    · replace hr := zif_t hr c25
      exact KF _ (Option.some.inj hr).symm ls _ _ (lv_sub hl [0] rfl) I
    · replace hr := zif_f hr c25
      refine lv_aload_n hx hb dX8_faultPlace_18 rfl (lv_at hl 0 rfl) ?_
      refine zgetR (j := (i0 + 1)) M I h0 zfl_X8_14 dX8_faultPlace_19 rfl ?_
      refine lv_iload hx hb dX8_faultPlace_22 (lv_at hl 4 rfl) ?_
      obtain ⟨x1, e_x1, hr⟩ := zb_some hr
      refine zcallI M I (zrunV (as := [.int v4]) M I (c_X1_at l g fu (zs_8_0 h0) e_x1) (zs_8_0 h0) zK1.1 (by decide) zlv_X8_24 ⟨Nat.le_of_ble_eq_true rfl, Nat.le_of_ble_eq_true rfl⟩ ⟨Nat.zero_le _, Nat.zero_le _⟩ rfl rfl (Nat.le_of_ble_eq_true rfl) hl.1 dX8_faultPlace_24) (fun H locs I => ?_)
      refine lv_istore (lv' := [(5, .int x1), (0, .ref (zA g i0)), (1, .int v1), (2, .int v2), (3, .int v3), (4, .int v4)]) hx hb dX8_faultPlace_27 hl (by decide) rfl (fun ls hl => ?_)
      refine lv_iload hx hb dX8_faultPlace_29 (lv_at hl 0 rfl) ?_
      obtain ⟨x2, e_x2, hr⟩ := zb_some hr
      refine zcallI M I (zrunS (as := [.int x1]) M I (c_X8_isLetter l g fu e_x2) zls_X8_32 ⟨Nat.le_of_ble_eq_true rfl, Nat.le_of_ble_eq_true rfl⟩ ⟨Nat.zero_le _, Nat.zero_le _⟩ rfl rfl (Nat.le_of_ble_eq_true rfl) hl.1 dX8_faultPlace_31) (fun H locs I => ?_)
      refine lv_if_eq (tgt := 51) hx hb dX8_faultPlace_34 (by decide) (fun c24 => ?_) (fun c24 => ?_)
      · replace hr := zif_t hr c24
        refine lv_iload hx hb dX8_faultPlace_51 (lv_at hl 0 rfl) ?_
        obtain ⟨x3, e_x3, hr⟩ := zb_some hr
        refine zcallI M I (zrunS (as := [.int x1]) M I (c_X8_isNumber l g fu e_x3) zls_X8_36 ⟨Nat.le_of_ble_eq_true rfl, Nat.le_of_ble_eq_true rfl⟩ ⟨Nat.zero_le _, Nat.zero_le _⟩ rfl rfl (Nat.le_of_ble_eq_true rfl) hl.1 dX8_faultPlace_53) (fun H locs I => ?_)
        refine lv_if_eq (tgt := 92) hx hb dX8_faultPlace_56 (by decide) (fun c12 => ?_) (fun c12 => ?_)
        · replace hr := zif_t hr c12
          refine lv_iload hx hb dX8_faultPlace_92 (lv_at hl 0 rfl) ?_
          refine lv_bipush (v := (47 : Int32)) hx hb dX8_faultPlace_94 (by decide) ?_
          refine lv_icmp_ne (tgt := 112) hx hb dX8_faultPlace_96 (by decide) (fun c5 => ?_) (fun c5 => ?_)
          · replace hr := zif_t hr c5
            refine lv_iload hx hb dX8_faultPlace_112 (lv_at hl 5 rfl) ?_
            obtain rfl := KR _ (Option.some.inj hr).symm
            exact zretI M I dX8_faultPlace_114
          · replace hr := zif_f hr (fun hq => hq c5)
            refine lv_iload_n hx hb dX8_faultPlace_99 rfl (lv_at hl 3 rfl) ?_
            refine lv_if_eq (tgt := 112) hx hb dX8_faultPlace_100 (by decide) (fun c4 => ?_) (fun c4 => ?_)
            · replace hr := zif_t hr c4
              refine lv_iload hx hb dX8_faultPlace_112 (lv_at hl 5 rfl) ?_
              obtain rfl := KR _ (Option.some.inj hr).symm
              exact zretI M I dX8_faultPlace_114
            · replace hr := zif_f hr c4
              refine lv_iconst (v := (0 : Int32)) hx hb dX8_faultPlace_103 (by decide) ?_
              refine lv_istore_n (lv' := [(1, .int (0 : Int32)), (5, .int x1), (0, .ref (zA g i0)), (2, .int v2), (3, .int v3), (4, .int v4)]) hx hb dX8_faultPlace_104 rfl hl (by decide) rfl (fun ls hl => ?_)
              refine lv_iconst (v := (0 : Int32)) hx hb dX8_faultPlace_105 (by decide) ?_
              refine lv_istore_n (lv' := [(2, .int (0 : Int32)), (1, .int (0 : Int32)), (5, .int x1), (0, .ref (zA g i0)), (3, .int v3), (4, .int v4)]) hx hb dX8_faultPlace_106 rfl hl (by decide) rfl (fun ls hl => ?_)
              refine lv_iconst (v := (0 : Int32)) hx hb dX8_faultPlace_107 (by decide) ?_
              refine lv_istore_n (lv' := [(3, .int (0 : Int32)), (2, .int (0 : Int32)), (1, .int (0 : Int32)), (5, .int x1), (0, .ref (zA g i0)), (4, .int v4)]) hx hb dX8_faultPlace_108 rfl hl (by decide) rfl (fun ls hl => ?_)
              refine lv_goto (tgt := 115) hx hb dX8_faultPlace_109 (by decide) ?_
              refine lv_iinc (lv' := [(4, .int (v4 + 1)), (3, .int (0 : Int32)), (2, .int (0 : Int32)), (1, .int (0 : Int32)), (5, .int x1), (0, .ref (zA g i0))]) (k := 5) (v := (v4 + 1)) hx hb dX8_faultPlace_115 hl rfl (zi_1 _) (by decide) rfl (fun ls hl => ?_)
              refine lv_goto (tgt := 9) hx hb dX8_faultPlace_118 (by decide) ?_
              exact ih _ _ _ _  _ hr ls _ _ (lv_sub hl [5, 3, 2, 1, 0] rfl) I KR KF
        · replace hr := zif_f hr c12
          refine lv_iload_n hx hb dX8_faultPlace_59 rfl (lv_at hl 4 rfl) ?_
          refine lv_if_eq (tgt := 92) hx hb dX8_faultPlace_60 (by decide) (fun c11 => ?_) (fun c11 => ?_)
          · replace hr := zif_t hr c11
            refine lv_iload hx hb dX8_faultPlace_92 (lv_at hl 0 rfl) ?_
            refine lv_bipush (v := (47 : Int32)) hx hb dX8_faultPlace_94 (by decide) ?_
            refine lv_icmp_ne (tgt := 112) hx hb dX8_faultPlace_96 (by decide) (fun c7 => ?_) (fun c7 => ?_)
            · replace hr := zif_t hr c7
              refine lv_iload hx hb dX8_faultPlace_112 (lv_at hl 5 rfl) ?_
              obtain rfl := KR _ (Option.some.inj hr).symm
              exact zretI M I dX8_faultPlace_114
            · replace hr := zif_f hr (fun hq => hq c7)
              refine lv_iload_n hx hb dX8_faultPlace_99 rfl (lv_at hl 3 rfl) ?_
              refine lv_if_eq (tgt := 112) hx hb dX8_faultPlace_100 (by decide) (fun c6 => ?_) (fun c6 => ?_)
              · replace hr := zif_t hr c6
                refine lv_iload hx hb dX8_faultPlace_112 (lv_at hl 5 rfl) ?_
                obtain rfl := KR _ (Option.some.inj hr).symm
                exact zretI M I dX8_faultPlace_114
              · replace hr := zif_f hr c6
                refine lv_iconst (v := (0 : Int32)) hx hb dX8_faultPlace_103 (by decide) ?_
                refine lv_istore_n (lv' := [(1, .int (0 : Int32)), (5, .int x1), (0, .ref (zA g i0)), (2, .int v2), (3, .int v3), (4, .int v4)]) hx hb dX8_faultPlace_104 rfl hl (by decide) rfl (fun ls hl => ?_)
                refine lv_iconst (v := (0 : Int32)) hx hb dX8_faultPlace_105 (by decide) ?_
                refine lv_istore_n (lv' := [(2, .int (0 : Int32)), (1, .int (0 : Int32)), (5, .int x1), (0, .ref (zA g i0)), (3, .int v3), (4, .int v4)]) hx hb dX8_faultPlace_106 rfl hl (by decide) rfl (fun ls hl => ?_)
                refine lv_iconst (v := (0 : Int32)) hx hb dX8_faultPlace_107 (by decide) ?_
                refine lv_istore_n (lv' := [(3, .int (0 : Int32)), (2, .int (0 : Int32)), (1, .int (0 : Int32)), (5, .int x1), (0, .ref (zA g i0)), (4, .int v4)]) hx hb dX8_faultPlace_108 rfl hl (by decide) rfl (fun ls hl => ?_)
                refine lv_goto (tgt := 115) hx hb dX8_faultPlace_109 (by decide) ?_
                refine lv_iinc (lv' := [(4, .int (v4 + 1)), (3, .int (0 : Int32)), (2, .int (0 : Int32)), (1, .int (0 : Int32)), (5, .int x1), (0, .ref (zA g i0))]) (k := 5) (v := (v4 + 1)) hx hb dX8_faultPlace_115 hl rfl (zi_1 _) (by decide) rfl (fun ls hl => ?_)
                refine lv_goto (tgt := 9) hx hb dX8_faultPlace_118 (by decide) ?_
                exact ih _ _ _ _  _ hr ls _ _ (lv_sub hl [5, 3, 2, 1, 0] rfl) I KR KF
          · replace hr := zif_f hr c11
            refine lv_iload_n hx hb dX8_faultPlace_63 rfl (lv_at hl 2 rfl) ?_
            refine lv_iconst (v := (1 : Int32)) hx hb dX8_faultPlace_64 (by decide) ?_
            refine lv_isub hx hb dX8_faultPlace_65 ?_
            refine lv_iload hx hb dX8_faultPlace_66 (lv_at hl 0 rfl) ?_
            refine lv_iadd hx hb dX8_faultPlace_68 ?_
            refine lv_bipush (v := (48 : Int32)) hx hb dX8_faultPlace_69 (by decide) ?_
            refine lv_isub hx hb dX8_faultPlace_71 ?_
            refine lv_bipush (v := (24 : Int32)) hx hb dX8_faultPlace_72 (by decide) ?_
            refine lv_icmp_gt (tgt := 92) hx hb dX8_faultPlace_74 (by decide) (fun c10 => ?_) (fun c10 => ?_)
            · replace hr := zif_t hr c10
              refine lv_iload hx hb dX8_faultPlace_92 (lv_at hl 0 rfl) ?_
              refine lv_bipush (v := (47 : Int32)) hx hb dX8_faultPlace_94 (by decide) ?_
              refine lv_icmp_ne (tgt := 112) hx hb dX8_faultPlace_96 (by decide) (fun c9 => ?_) (fun c9 => ?_)
              · replace hr := zif_t hr c9
                refine lv_iload hx hb dX8_faultPlace_112 (lv_at hl 5 rfl) ?_
                obtain rfl := KR _ (Option.some.inj hr).symm
                exact zretI M I dX8_faultPlace_114
              · replace hr := zif_f hr (fun hq => hq c9)
                refine lv_iload_n hx hb dX8_faultPlace_99 rfl (lv_at hl 3 rfl) ?_
                refine lv_if_eq (tgt := 112) hx hb dX8_faultPlace_100 (by decide) (fun c8 => ?_) (fun c8 => ?_)
                · replace hr := zif_t hr c8
                  refine lv_iload hx hb dX8_faultPlace_112 (lv_at hl 5 rfl) ?_
                  obtain rfl := KR _ (Option.some.inj hr).symm
                  exact zretI M I dX8_faultPlace_114
                · replace hr := zif_f hr c8
                  refine lv_iconst (v := (0 : Int32)) hx hb dX8_faultPlace_103 (by decide) ?_
                  refine lv_istore_n (lv' := [(1, .int (0 : Int32)), (5, .int x1), (0, .ref (zA g i0)), (2, .int v2), (3, .int v3), (4, .int v4)]) hx hb dX8_faultPlace_104 rfl hl (by decide) rfl (fun ls hl => ?_)
                  refine lv_iconst (v := (0 : Int32)) hx hb dX8_faultPlace_105 (by decide) ?_
                  refine lv_istore_n (lv' := [(2, .int (0 : Int32)), (1, .int (0 : Int32)), (5, .int x1), (0, .ref (zA g i0)), (3, .int v3), (4, .int v4)]) hx hb dX8_faultPlace_106 rfl hl (by decide) rfl (fun ls hl => ?_)
                  refine lv_iconst (v := (0 : Int32)) hx hb dX8_faultPlace_107 (by decide) ?_
                  refine lv_istore_n (lv' := [(3, .int (0 : Int32)), (2, .int (0 : Int32)), (1, .int (0 : Int32)), (5, .int x1), (0, .ref (zA g i0)), (4, .int v4)]) hx hb dX8_faultPlace_108 rfl hl (by decide) rfl (fun ls hl => ?_)
                  refine lv_goto (tgt := 115) hx hb dX8_faultPlace_109 (by decide) ?_
                  refine lv_iinc (lv' := [(4, .int (v4 + 1)), (3, .int (0 : Int32)), (2, .int (0 : Int32)), (1, .int (0 : Int32)), (5, .int x1), (0, .ref (zA g i0))]) (k := 5) (v := (v4 + 1)) hx hb dX8_faultPlace_115 hl rfl (zi_1 _) (by decide) rfl (fun ls hl => ?_)
                  refine lv_goto (tgt := 9) hx hb dX8_faultPlace_118 (by decide) ?_
                  exact ih _ _ _ _  _ hr ls _ _ (lv_sub hl [5, 3, 2, 1, 0] rfl) I KR KF
            · replace hr := zif_f hr c10
              refine lv_iload_n hx hb dX8_faultPlace_77 rfl (lv_at hl 2 rfl) ?_
              refine lv_iload hx hb dX8_faultPlace_78 (lv_at hl 0 rfl) ?_
              refine lv_bipush (v := (48 : Int32)) hx hb dX8_faultPlace_80 (by decide) ?_
              refine lv_isub hx hb dX8_faultPlace_82 ?_
              refine lv_iconst (v := (1 : Int32)) hx hb dX8_faultPlace_83 (by decide) ?_
              refine lv_isub hx hb dX8_faultPlace_84 ?_
              refine lv_iadd hx hb dX8_faultPlace_85 ?_
              refine lv_istore_n (lv' := [(1, .int (v1 + ((x1 - (48 : Int32)) - (1 : Int32)))), (5, .int x1), (0, .ref (zA g i0)), (2, .int v2), (3, .int v3), (4, .int v4)]) hx hb dX8_faultPlace_86 rfl hl (by decide) rfl (fun ls hl => ?_)
              refine lv_iconst (v := (0 : Int32)) hx hb dX8_faultPlace_87 (by decide) ?_
              refine lv_istore_n (lv' := [(3, .int (0 : Int32)), (1, .int (v1 + ((x1 - (48 : Int32)) - (1 : Int32)))), (5, .int x1), (0, .ref (zA g i0)), (2, .int v2), (4, .int v4)]) hx hb dX8_faultPlace_88 rfl hl (by decide) rfl (fun ls hl => ?_)
              refine lv_goto (tgt := 115) hx hb dX8_faultPlace_89 (by decide) ?_
              refine lv_iinc (lv' := [(4, .int (v4 + 1)), (3, .int (0 : Int32)), (1, .int (v1 + ((x1 - (48 : Int32)) - (1 : Int32)))), (5, .int x1), (0, .ref (zA g i0)), (2, .int v2)]) (k := 5) (v := (v4 + 1)) hx hb dX8_faultPlace_115 hl rfl (zi_1 _) (by decide) rfl (fun ls hl => ?_)
              refine lv_goto (tgt := 9) hx hb dX8_faultPlace_118 (by decide) ?_
              exact ih _ _ _ _  _ hr ls _ _ (lv_sub hl [4, 2, 5, 1, 0] rfl) I KR KF
      · replace hr := zif_f hr c24
        refine lv_iload_n hx hb dX8_faultPlace_37 rfl (lv_at hl 2 rfl) ?_
        refine lv_bipush (v := (24 : Int32)) hx hb dX8_faultPlace_38 (by decide) ?_
        refine lv_icmp_ge (tgt := 51) hx hb dX8_faultPlace_40 (by decide) (fun c23 => ?_) (fun c23 => ?_)
        · replace hr := zif_t hr c23
          refine lv_iload hx hb dX8_faultPlace_51 (lv_at hl 0 rfl) ?_
          obtain ⟨x13, e_x13, hr⟩ := zb_some hr
          refine zcallI M I (zrunS (as := [.int x1]) M I (c_X8_isNumber l g fu e_x13) zls_X8_36 ⟨Nat.le_of_ble_eq_true rfl, Nat.le_of_ble_eq_true rfl⟩ ⟨Nat.zero_le _, Nat.zero_le _⟩ rfl rfl (Nat.le_of_ble_eq_true rfl) hl.1 dX8_faultPlace_53) (fun H locs I => ?_)
          refine lv_if_eq (tgt := 92) hx hb dX8_faultPlace_56 (by decide) (fun c22 => ?_) (fun c22 => ?_)
          · replace hr := zif_t hr c22
            refine lv_iload hx hb dX8_faultPlace_92 (lv_at hl 0 rfl) ?_
            refine lv_bipush (v := (47 : Int32)) hx hb dX8_faultPlace_94 (by decide) ?_
            refine lv_icmp_ne (tgt := 112) hx hb dX8_faultPlace_96 (by decide) (fun c15 => ?_) (fun c15 => ?_)
            · replace hr := zif_t hr c15
              refine lv_iload hx hb dX8_faultPlace_112 (lv_at hl 5 rfl) ?_
              obtain rfl := KR _ (Option.some.inj hr).symm
              exact zretI M I dX8_faultPlace_114
            · replace hr := zif_f hr (fun hq => hq c15)
              refine lv_iload_n hx hb dX8_faultPlace_99 rfl (lv_at hl 3 rfl) ?_
              refine lv_if_eq (tgt := 112) hx hb dX8_faultPlace_100 (by decide) (fun c14 => ?_) (fun c14 => ?_)
              · replace hr := zif_t hr c14
                refine lv_iload hx hb dX8_faultPlace_112 (lv_at hl 5 rfl) ?_
                obtain rfl := KR _ (Option.some.inj hr).symm
                exact zretI M I dX8_faultPlace_114
              · replace hr := zif_f hr c14
                refine lv_iconst (v := (0 : Int32)) hx hb dX8_faultPlace_103 (by decide) ?_
                refine lv_istore_n (lv' := [(1, .int (0 : Int32)), (5, .int x1), (0, .ref (zA g i0)), (2, .int v2), (3, .int v3), (4, .int v4)]) hx hb dX8_faultPlace_104 rfl hl (by decide) rfl (fun ls hl => ?_)
                refine lv_iconst (v := (0 : Int32)) hx hb dX8_faultPlace_105 (by decide) ?_
                refine lv_istore_n (lv' := [(2, .int (0 : Int32)), (1, .int (0 : Int32)), (5, .int x1), (0, .ref (zA g i0)), (3, .int v3), (4, .int v4)]) hx hb dX8_faultPlace_106 rfl hl (by decide) rfl (fun ls hl => ?_)
                refine lv_iconst (v := (0 : Int32)) hx hb dX8_faultPlace_107 (by decide) ?_
                refine lv_istore_n (lv' := [(3, .int (0 : Int32)), (2, .int (0 : Int32)), (1, .int (0 : Int32)), (5, .int x1), (0, .ref (zA g i0)), (4, .int v4)]) hx hb dX8_faultPlace_108 rfl hl (by decide) rfl (fun ls hl => ?_)
                refine lv_goto (tgt := 115) hx hb dX8_faultPlace_109 (by decide) ?_
                refine lv_iinc (lv' := [(4, .int (v4 + 1)), (3, .int (0 : Int32)), (2, .int (0 : Int32)), (1, .int (0 : Int32)), (5, .int x1), (0, .ref (zA g i0))]) (k := 5) (v := (v4 + 1)) hx hb dX8_faultPlace_115 hl rfl (zi_1 _) (by decide) rfl (fun ls hl => ?_)
                refine lv_goto (tgt := 9) hx hb dX8_faultPlace_118 (by decide) ?_
                exact ih _ _ _ _  _ hr ls _ _ (lv_sub hl [5, 3, 2, 1, 0] rfl) I KR KF
          · replace hr := zif_f hr c22
            refine lv_iload_n hx hb dX8_faultPlace_59 rfl (lv_at hl 4 rfl) ?_
            refine lv_if_eq (tgt := 92) hx hb dX8_faultPlace_60 (by decide) (fun c21 => ?_) (fun c21 => ?_)
            · replace hr := zif_t hr c21
              refine lv_iload hx hb dX8_faultPlace_92 (lv_at hl 0 rfl) ?_
              refine lv_bipush (v := (47 : Int32)) hx hb dX8_faultPlace_94 (by decide) ?_
              refine lv_icmp_ne (tgt := 112) hx hb dX8_faultPlace_96 (by decide) (fun c17 => ?_) (fun c17 => ?_)
              · replace hr := zif_t hr c17
                refine lv_iload hx hb dX8_faultPlace_112 (lv_at hl 5 rfl) ?_
                obtain rfl := KR _ (Option.some.inj hr).symm
                exact zretI M I dX8_faultPlace_114
              · replace hr := zif_f hr (fun hq => hq c17)
                refine lv_iload_n hx hb dX8_faultPlace_99 rfl (lv_at hl 3 rfl) ?_
                refine lv_if_eq (tgt := 112) hx hb dX8_faultPlace_100 (by decide) (fun c16 => ?_) (fun c16 => ?_)
                · replace hr := zif_t hr c16
                  refine lv_iload hx hb dX8_faultPlace_112 (lv_at hl 5 rfl) ?_
                  obtain rfl := KR _ (Option.some.inj hr).symm
                  exact zretI M I dX8_faultPlace_114
                · replace hr := zif_f hr c16
                  refine lv_iconst (v := (0 : Int32)) hx hb dX8_faultPlace_103 (by decide) ?_
                  refine lv_istore_n (lv' := [(1, .int (0 : Int32)), (5, .int x1), (0, .ref (zA g i0)), (2, .int v2), (3, .int v3), (4, .int v4)]) hx hb dX8_faultPlace_104 rfl hl (by decide) rfl (fun ls hl => ?_)
                  refine lv_iconst (v := (0 : Int32)) hx hb dX8_faultPlace_105 (by decide) ?_
                  refine lv_istore_n (lv' := [(2, .int (0 : Int32)), (1, .int (0 : Int32)), (5, .int x1), (0, .ref (zA g i0)), (3, .int v3), (4, .int v4)]) hx hb dX8_faultPlace_106 rfl hl (by decide) rfl (fun ls hl => ?_)
                  refine lv_iconst (v := (0 : Int32)) hx hb dX8_faultPlace_107 (by decide) ?_
                  refine lv_istore_n (lv' := [(3, .int (0 : Int32)), (2, .int (0 : Int32)), (1, .int (0 : Int32)), (5, .int x1), (0, .ref (zA g i0)), (4, .int v4)]) hx hb dX8_faultPlace_108 rfl hl (by decide) rfl (fun ls hl => ?_)
                  refine lv_goto (tgt := 115) hx hb dX8_faultPlace_109 (by decide) ?_
                  refine lv_iinc (lv' := [(4, .int (v4 + 1)), (3, .int (0 : Int32)), (2, .int (0 : Int32)), (1, .int (0 : Int32)), (5, .int x1), (0, .ref (zA g i0))]) (k := 5) (v := (v4 + 1)) hx hb dX8_faultPlace_115 hl rfl (zi_1 _) (by decide) rfl (fun ls hl => ?_)
                  refine lv_goto (tgt := 9) hx hb dX8_faultPlace_118 (by decide) ?_
                  exact ih _ _ _ _  _ hr ls _ _ (lv_sub hl [5, 3, 2, 1, 0] rfl) I KR KF
            · replace hr := zif_f hr c21
              refine lv_iload_n hx hb dX8_faultPlace_63 rfl (lv_at hl 2 rfl) ?_
              refine lv_iconst (v := (1 : Int32)) hx hb dX8_faultPlace_64 (by decide) ?_
              refine lv_isub hx hb dX8_faultPlace_65 ?_
              refine lv_iload hx hb dX8_faultPlace_66 (lv_at hl 0 rfl) ?_
              refine lv_iadd hx hb dX8_faultPlace_68 ?_
              refine lv_bipush (v := (48 : Int32)) hx hb dX8_faultPlace_69 (by decide) ?_
              refine lv_isub hx hb dX8_faultPlace_71 ?_
              refine lv_bipush (v := (24 : Int32)) hx hb dX8_faultPlace_72 (by decide) ?_
              refine lv_icmp_gt (tgt := 92) hx hb dX8_faultPlace_74 (by decide) (fun c20 => ?_) (fun c20 => ?_)
              · replace hr := zif_t hr c20
                refine lv_iload hx hb dX8_faultPlace_92 (lv_at hl 0 rfl) ?_
                refine lv_bipush (v := (47 : Int32)) hx hb dX8_faultPlace_94 (by decide) ?_
                refine lv_icmp_ne (tgt := 112) hx hb dX8_faultPlace_96 (by decide) (fun c19 => ?_) (fun c19 => ?_)
                · replace hr := zif_t hr c19
                  refine lv_iload hx hb dX8_faultPlace_112 (lv_at hl 5 rfl) ?_
                  obtain rfl := KR _ (Option.some.inj hr).symm
                  exact zretI M I dX8_faultPlace_114
                · replace hr := zif_f hr (fun hq => hq c19)
                  refine lv_iload_n hx hb dX8_faultPlace_99 rfl (lv_at hl 3 rfl) ?_
                  refine lv_if_eq (tgt := 112) hx hb dX8_faultPlace_100 (by decide) (fun c18 => ?_) (fun c18 => ?_)
                  · replace hr := zif_t hr c18
                    refine lv_iload hx hb dX8_faultPlace_112 (lv_at hl 5 rfl) ?_
                    obtain rfl := KR _ (Option.some.inj hr).symm
                    exact zretI M I dX8_faultPlace_114
                  · replace hr := zif_f hr c18
                    refine lv_iconst (v := (0 : Int32)) hx hb dX8_faultPlace_103 (by decide) ?_
                    refine lv_istore_n (lv' := [(1, .int (0 : Int32)), (5, .int x1), (0, .ref (zA g i0)), (2, .int v2), (3, .int v3), (4, .int v4)]) hx hb dX8_faultPlace_104 rfl hl (by decide) rfl (fun ls hl => ?_)
                    refine lv_iconst (v := (0 : Int32)) hx hb dX8_faultPlace_105 (by decide) ?_
                    refine lv_istore_n (lv' := [(2, .int (0 : Int32)), (1, .int (0 : Int32)), (5, .int x1), (0, .ref (zA g i0)), (3, .int v3), (4, .int v4)]) hx hb dX8_faultPlace_106 rfl hl (by decide) rfl (fun ls hl => ?_)
                    refine lv_iconst (v := (0 : Int32)) hx hb dX8_faultPlace_107 (by decide) ?_
                    refine lv_istore_n (lv' := [(3, .int (0 : Int32)), (2, .int (0 : Int32)), (1, .int (0 : Int32)), (5, .int x1), (0, .ref (zA g i0)), (4, .int v4)]) hx hb dX8_faultPlace_108 rfl hl (by decide) rfl (fun ls hl => ?_)
                    refine lv_goto (tgt := 115) hx hb dX8_faultPlace_109 (by decide) ?_
                    refine lv_iinc (lv' := [(4, .int (v4 + 1)), (3, .int (0 : Int32)), (2, .int (0 : Int32)), (1, .int (0 : Int32)), (5, .int x1), (0, .ref (zA g i0))]) (k := 5) (v := (v4 + 1)) hx hb dX8_faultPlace_115 hl rfl (zi_1 _) (by decide) rfl (fun ls hl => ?_)
                    refine lv_goto (tgt := 9) hx hb dX8_faultPlace_118 (by decide) ?_
                    exact ih _ _ _ _  _ hr ls _ _ (lv_sub hl [5, 3, 2, 1, 0] rfl) I KR KF
              · replace hr := zif_f hr c20
                refine lv_iload_n hx hb dX8_faultPlace_77 rfl (lv_at hl 2 rfl) ?_
                refine lv_iload hx hb dX8_faultPlace_78 (lv_at hl 0 rfl) ?_
                refine lv_bipush (v := (48 : Int32)) hx hb dX8_faultPlace_80 (by decide) ?_
                refine lv_isub hx hb dX8_faultPlace_82 ?_
                refine lv_iconst (v := (1 : Int32)) hx hb dX8_faultPlace_83 (by decide) ?_
                refine lv_isub hx hb dX8_faultPlace_84 ?_
                refine lv_iadd hx hb dX8_faultPlace_85 ?_
                refine lv_istore_n (lv' := [(1, .int (v1 + ((x1 - (48 : Int32)) - (1 : Int32)))), (5, .int x1), (0, .ref (zA g i0)), (2, .int v2), (3, .int v3), (4, .int v4)]) hx hb dX8_faultPlace_86 rfl hl (by decide) rfl (fun ls hl => ?_)
                refine lv_iconst (v := (0 : Int32)) hx hb dX8_faultPlace_87 (by decide) ?_
                refine lv_istore_n (lv' := [(3, .int (0 : Int32)), (1, .int (v1 + ((x1 - (48 : Int32)) - (1 : Int32)))), (5, .int x1), (0, .ref (zA g i0)), (2, .int v2), (4, .int v4)]) hx hb dX8_faultPlace_88 rfl hl (by decide) rfl (fun ls hl => ?_)
                refine lv_goto (tgt := 115) hx hb dX8_faultPlace_89 (by decide) ?_
                refine lv_iinc (lv' := [(4, .int (v4 + 1)), (3, .int (0 : Int32)), (1, .int (v1 + ((x1 - (48 : Int32)) - (1 : Int32)))), (5, .int x1), (0, .ref (zA g i0)), (2, .int v2)]) (k := 5) (v := (v4 + 1)) hx hb dX8_faultPlace_115 hl rfl (zi_1 _) (by decide) rfl (fun ls hl => ?_)
                refine lv_goto (tgt := 9) hx hb dX8_faultPlace_118 (by decide) ?_
                exact ih _ _ _ _  _ hr ls _ _ (lv_sub hl [4, 2, 5, 1, 0] rfl) I KR KF
        · replace hr := zif_f hr c23
          refine lv_iinc (lv' := [(1, .int (v1 + 1)), (5, .int x1), (0, .ref (zA g i0)), (2, .int v2), (3, .int v3), (4, .int v4)]) (k := 2) (v := (v1 + 1)) hx hb dX8_faultPlace_43 hl rfl (zi_1 _) (by decide) rfl (fun ls hl => ?_)
          refine lv_iconst (v := (1 : Int32)) hx hb dX8_faultPlace_46 (by decide) ?_
          refine lv_istore_n (lv' := [(3, .int (1 : Int32)), (1, .int (v1 + 1)), (5, .int x1), (0, .ref (zA g i0)), (2, .int v2), (4, .int v4)]) hx hb dX8_faultPlace_47 rfl hl (by decide) rfl (fun ls hl => ?_)
          refine lv_goto (tgt := 115) hx hb dX8_faultPlace_48 (by decide) ?_
          refine lv_iinc (lv' := [(4, .int (v4 + 1)), (3, .int (1 : Int32)), (1, .int (v1 + 1)), (5, .int x1), (0, .ref (zA g i0)), (2, .int v2)]) (k := 5) (v := (v4 + 1)) hx hb dX8_faultPlace_115 hl rfl (zi_1 _) (by decide) rfl (fun ls hl => ?_)
          refine lv_goto (tgt := 9) hx hb dX8_faultPlace_118 (by decide) ?_
          exact ih _ _ _ _  _ hr ls _ _ (lv_sub hl [4, 2, 5, 1, 0] rfl) I KR KF
def m_X8_faultPlace (fu : Nat) (σ : zmem) (i0 : Nat) : Option (Int32) := (l_X8_faultPlace_9 fu σ i0 fu (0 : Int32) (1 : Int32) (0 : Int32) (0 : Int32)).bind fun x26 => (match x26 with | .inl q => some q | .inr w27 => some (σ.1 i0 1))
set_option maxHeartbeats 4000000 in
set_option maxRecDepth 100000 in
theorem c_X8_faultPlace (l : Launch) (g : zgeo) (fu : Nat) {σ : zmem} {i0 : Nat} {r : Int32} (h0 : zkd i0 = (8, 0)) (hr : m_X8_faultPlace fu σ i0 = some r) : zCt (zQI g r σ) l g yX8_faultPlace cX8_faultPlace 6 (some .int) 1 21 [.ref (zA g i0)] σ := by
  refine zopen (by decide) (Nat.le_of_ble_eq_true rfl) ?_
  intro p e s m below meth c M ls hl I
  have M : zMC RX8 cX8_faultPlace 6 (some .int) g p m c s ([.ref (zA g i0)] : List Value).toArray meth := M
  have hl : lv_has ls 6 [(0, .ref (zA g i0))] := hl
  generalize ([.ref (zA g i0)] : List Value).toArray = args at M ⊢
  have hx := M.1.1
  have hb := M.1.2.1
  unfold m_X8_faultPlace at hr
  refine lv_iconst (v := (0 : Int32)) hx hb dX8_faultPlace_0 (by decide) ?_
  refine lv_istore_n (lv' := [(1, .int (0 : Int32)), (0, .ref (zA g i0))]) hx hb dX8_faultPlace_1 rfl hl (by decide) rfl (fun ls hl => ?_)
  refine lv_iconst (v := (1 : Int32)) hx hb dX8_faultPlace_2 (by decide) ?_
  refine lv_istore_n (lv' := [(2, .int (1 : Int32)), (1, .int (0 : Int32)), (0, .ref (zA g i0))]) hx hb dX8_faultPlace_3 rfl hl (by decide) rfl (fun ls hl => ?_)
  refine lv_iconst (v := (0 : Int32)) hx hb dX8_faultPlace_4 (by decide) ?_
  refine lv_istore_n (lv' := [(3, .int (0 : Int32)), (2, .int (1 : Int32)), (1, .int (0 : Int32)), (0, .ref (zA g i0))]) hx hb dX8_faultPlace_5 rfl hl (by decide) rfl (fun ls hl => ?_)
  refine lv_iconst (v := (0 : Int32)) hx hb dX8_faultPlace_6 (by decide) ?_
  refine lv_istore (lv' := [(4, .int (0 : Int32)), (3, .int (0 : Int32)), (2, .int (1 : Int32)), (1, .int (0 : Int32)), (0, .ref (zA g i0))]) hx hb dX8_faultPlace_7 hl (by decide) rfl (fun ls hl => ?_)
  obtain ⟨x26, e_x26, hr⟩ := zb_some hr
  refine k_X8_faultPlace_9 M h0 fu _ _ _ _  _ e_x26 ls _ _ (lv_sub hl [4, 3, 2, 1, 0] rfl) I (fun q hq => ?_) (fun w27 hq ls H locs hl I => ?_)
  · subst hq
    exact Option.some.inj hr
  · subst hq
    dsimp only at hr
    refine lv_aload_n hx hb dX8_faultPlace_121 rfl (lv_at hl 0 rfl) ?_
    refine zgetI M I h0 zfl_X8_20 dX8_faultPlace_122 ?_
    obtain rfl := Option.some.inj hr
    exact zretI M I dX8_faultPlace_125
def l_X8_isPairOfRows_4 (fu : Nat) (σ : zmem) (i0 : Nat) : Nat → Int32 → Int32 → Option (Int32)
  | 0, _, _ => none
  | n + 1, v1, v2 => (if (σ.1 i0 1) ≤ v2 then some v1 else ((if ¬ v1 = 0 then some (1 : Int32) else (m_X1_at fu σ (i0 + 1) v2).bind fun x2 => (if ¬ x2 = (47 : Int32) then some (0 : Int32) else some (1 : Int32))) : Option (Int32)).bind fun x1 => l_X8_isPairOfRows_4 fu σ i0 n x1 (v2 + 1))
set_option maxHeartbeats 4000000 in
set_option maxRecDepth 100000 in
theorem k_X8_isPairOfRows_4 {l : Launch} {g : zgeo} {fu : Nat} {p : Program} {e : Env} {s : State} {m : MethodId} {args : Array Value} {below : List Frame} {meth : Method} {c : Code} (M : zMC RX8 cX8_isPairOfRows 3 (some .boolean) g p m c s args meth) {σ : zmem} {i0 : Nat} (h0 : zkd i0 = (8, 0)) {Q : State → Prop} : ∀ (n : Nat) (v1 : Int32) (v2 : Int32) (o : Int32), l_X8_isPairOfRows_4 fu σ i0 n v1 v2 = some o → ∀ (ls : Array Slot) (H : Heap) (locs : List Loc), lv_has ls 3 [(0, .ref (zA g i0)), (1, .int v1), (2, .int v2)] → zIV g σ (zAA g) s.heap H locs → (∀ (ls : Array Slot) (H : Heap) (locs : List Loc), lv_has ls 3 [(0, .ref (zA g i0)), (1, .int o)] → zIV g σ (zAA g) s.heap H locs → W p l e (zrm 2 46) s m args below meth c H locs 0 0 Q (F0 m 41 ls [])) → W p l e (zrm 2 46) s m args below meth c H locs 0 0 Q (F0 m 4 ls []) := by
  have hx := M.1.1
  have hb := M.1.2.1
  intro n
  induction n with
  | zero =>
    intro v1 v2 o hr ls H locs hl I KF
    have hr : (none : Option (Int32)) = some o := hr
    cases hr
  | succ n ih =>
    intro v1 v2 o hr ls H locs hl I KF
    rw [l_X8_isPairOfRows_4] at hr
    refine lv_iload_n hx hb dX8_isPairOfRows_4 rfl (lv_at hl 2 rfl) ?_
    refine lv_aload_n hx hb dX8_isPairOfRows_5 rfl (lv_at hl 0 rfl) ?_
    refine zgetI M I h0 zfl_X8_20 dX8_isPairOfRows_6 ?_
    refine lv_icmp_ge (tgt := 41) hx hb dX8_isPairOfRows_9 (by decide) (fun c5 => ?_) (fun c5 => ?_)
    · replace hr := zif_t hr c5
      obtain rfl := Option.some.inj hr
      exact KF ls _ _ (lv_sub hl [0, 1] rfl) I
    · replace hr := zif_f hr c5
      refine lv_iload_n hx hb dX8_isPairOfRows_12 rfl (lv_at hl 1 rfl) ?_
      obtain ⟨x1, e_x1, hr⟩ := zb_some hr
      have K_x1 : ∀ (ls : Array Slot) (H : Heap) (locs : List Loc), lv_has ls 3 [(0, .ref (zA g i0)), (2, .int v2)] → zIV g σ (zAA g) s.heap H locs → W p l e (zrm 2 46) s m args below meth c H locs 0 0 Q (F0 m 34 ls [.int x1]) := by
        intro ls H locs hl I
        refine lv_istore_n (lv' := [(1, .int x1), (0, .ref (zA g i0)), (2, .int v2)]) hx hb dX8_isPairOfRows_34 rfl hl (by decide) rfl (fun ls hl => ?_)
        refine lv_iinc (lv' := [(2, .int (v2 + 1)), (1, .int x1), (0, .ref (zA g i0))]) (k := 2) (v := (v2 + 1)) hx hb dX8_isPairOfRows_35 hl rfl (zi_1 _) (by decide) rfl (fun ls hl => ?_)
        refine lv_goto (tgt := 4) hx hb dX8_isPairOfRows_38 (by decide) ?_
        exact ih _ _  _ hr ls _ _ (lv_sub hl [2, 1, 0] rfl) I KF
      refine lv_if_ne (tgt := 29) hx hb dX8_isPairOfRows_13 (by decide) (fun c4 => ?_) (fun c4 => ?_)
      · replace e_x1 := zif_t e_x1 c4
        refine lv_iconst (v := (1 : Int32)) hx hb dX8_isPairOfRows_29 (by decide) ?_
        refine lv_goto (tgt := 34) hx hb dX8_isPairOfRows_30 (by decide) ?_
        obtain rfl := Option.some.inj e_x1
        exact K_x1 ls _ _ (lv_sub hl [0, 2] rfl) I
      · replace e_x1 := zif_f e_x1 (fun hq => hq c4)
        refine lv_aload_n hx hb dX8_isPairOfRows_16 rfl (lv_at hl 0 rfl) ?_
        refine zgetR (j := (i0 + 1)) M I h0 zfl_X8_14 dX8_isPairOfRows_17 rfl ?_
        refine lv_iload_n hx hb dX8_isPairOfRows_20 rfl (lv_at hl 2 rfl) ?_
        obtain ⟨x2, e_x2, e_x1⟩ := zb_some e_x1
        refine zcallI M I (zrunV (as := [.int v2]) M I (c_X1_at l g fu (zs_8_0 h0) e_x2) (zs_8_0 h0) zK1.1 (by decide) zlv_X8_24 ⟨Nat.le_of_ble_eq_true rfl, Nat.le_of_ble_eq_true rfl⟩ ⟨Nat.zero_le _, Nat.zero_le _⟩ rfl rfl (Nat.le_of_ble_eq_true rfl) hl.1 dX8_isPairOfRows_21) (fun H locs I => ?_)
        refine lv_bipush (v := (47 : Int32)) hx hb dX8_isPairOfRows_24 (by decide) ?_
        refine lv_icmp_ne (tgt := 33) hx hb dX8_isPairOfRows_26 (by decide) (fun c3 => ?_) (fun c3 => ?_)
        · replace e_x1 := zif_t e_x1 c3
          refine lv_iconst (v := (0 : Int32)) hx hb dX8_isPairOfRows_33 (by decide) ?_
          obtain rfl := Option.some.inj e_x1
          exact K_x1 ls _ _ (lv_sub hl [0, 2] rfl) I
        · replace e_x1 := zif_f e_x1 (fun hq => hq c3)
          refine lv_iconst (v := (1 : Int32)) hx hb dX8_isPairOfRows_29 (by decide) ?_
          refine lv_goto (tgt := 34) hx hb dX8_isPairOfRows_30 (by decide) ?_
          obtain rfl := Option.some.inj e_x1
          exact K_x1 ls _ _ (lv_sub hl [0, 2] rfl) I
def m_X8_isPairOfRows (fu : Nat) (σ : zmem) (i0 : Nat) : Option (Int32) := (l_X8_isPairOfRows_4 fu σ i0 fu (0 : Int32) (0 : Int32)).bind fun x6 => (if x6 = 0 then some (0 : Int32) else (m_X8_faultPlace fu σ i0).bind fun x7 => (if ¬ x7 = (σ.1 i0 1) then some (0 : Int32) else some (1 : Int32)))
set_option maxHeartbeats 4000000 in
set_option maxRecDepth 100000 in
theorem c_X8_isPairOfRows (l : Launch) (g : zgeo) (fu : Nat) {σ : zmem} {i0 : Nat} {r : Int32} (h0 : zkd i0 = (8, 0)) (hr : m_X8_isPairOfRows fu σ i0 = some r) : zCt (zQI g r σ) l g yX8_isPairOfRows cX8_isPairOfRows 3 (some .boolean) 2 46 [.ref (zA g i0)] σ := by
  refine zopen (by decide) (Nat.le_of_ble_eq_true rfl) ?_
  intro p e s m below meth c M ls hl I
  have M : zMC RX8 cX8_isPairOfRows 3 (some .boolean) g p m c s ([.ref (zA g i0)] : List Value).toArray meth := M
  have hl : lv_has ls 3 [(0, .ref (zA g i0))] := hl
  generalize ([.ref (zA g i0)] : List Value).toArray = args at M ⊢
  have hx := M.1.1
  have hb := M.1.2.1
  unfold m_X8_isPairOfRows at hr
  refine lv_iconst (v := (0 : Int32)) hx hb dX8_isPairOfRows_0 (by decide) ?_
  refine lv_istore_n (lv' := [(1, .int (0 : Int32)), (0, .ref (zA g i0))]) hx hb dX8_isPairOfRows_1 rfl hl (by decide) rfl (fun ls hl => ?_)
  refine lv_iconst (v := (0 : Int32)) hx hb dX8_isPairOfRows_2 (by decide) ?_
  refine lv_istore_n (lv' := [(2, .int (0 : Int32)), (1, .int (0 : Int32)), (0, .ref (zA g i0))]) hx hb dX8_isPairOfRows_3 rfl hl (by decide) rfl (fun ls hl => ?_)
  obtain ⟨x6, e_x6, hr⟩ := zb_some hr
  refine k_X8_isPairOfRows_4 M h0 fu _ _  _ e_x6 ls _ _ (lv_sub hl [2, 1, 0] rfl) I (fun ls H locs hl I => ?_)
  refine lv_iload_n hx hb dX8_isPairOfRows_41 rfl (lv_at hl 1 rfl) ?_
  refine lv_if_eq (tgt := 60) hx hb dX8_isPairOfRows_42 (by decide) (fun c9 => ?_) (fun c9 => ?_)
  · replace hr := zif_t hr c9
    refine lv_iconst (v := (0 : Int32)) hx hb dX8_isPairOfRows_60 (by decide) ?_
    obtain rfl := Option.some.inj hr
    exact zretZ M I (Or.inl rfl) dX8_isPairOfRows_61
  · replace hr := zif_f hr c9
    refine lv_aload_n hx hb dX8_isPairOfRows_45 rfl (lv_at hl 0 rfl) ?_
    obtain ⟨x7, e_x7, hr⟩ := zb_some hr
    refine zcallI M I (zrunV (as := []) M I (c_X8_faultPlace l g fu h0 e_x7) h0 zK8.1 (by decide) zlv_X8_39 ⟨Nat.le_of_ble_eq_true rfl, Nat.le_of_ble_eq_true rfl⟩ ⟨Nat.zero_le _, Nat.zero_le _⟩ rfl rfl (Nat.le_of_ble_eq_true rfl) hl.1 dX8_isPairOfRows_46) (fun H locs I => ?_)
    refine lv_aload_n hx hb dX8_isPairOfRows_49 rfl (lv_at hl 0 rfl) ?_
    refine zgetI M I h0 zfl_X8_20 dX8_isPairOfRows_50 ?_
    refine lv_icmp_ne (tgt := 60) hx hb dX8_isPairOfRows_53 (by decide) (fun c8 => ?_) (fun c8 => ?_)
    · replace hr := zif_t hr c8
      refine lv_iconst (v := (0 : Int32)) hx hb dX8_isPairOfRows_60 (by decide) ?_
      obtain rfl := Option.some.inj hr
      exact zretZ M I (Or.inl rfl) dX8_isPairOfRows_61
    · replace hr := zif_f hr (fun hq => hq c8)
      refine lv_iconst (v := (1 : Int32)) hx hb dX8_isPairOfRows_56 (by decide) ?_
      refine lv_goto (tgt := 61) hx hb dX8_isPairOfRows_57 (by decide) ?_
      obtain rfl := Option.some.inj hr
      exact zretZ M I (Or.inr rfl) dX8_isPairOfRows_61
def l_X8_repeatLast_13 (fu : Nat) (i0 : Nat) (a1 : Int32) (a2 : Int32) : Nat → Int32 → zmem → Option (zmem)
  | 0, _, _ => none
  | n + 1, v3, σ => (if a1 ≤ v3 then some σ else (m_X6_extend fu σ i0 a2).bind fun x3 => l_X8_repeatLast_13 fu i0 a1 a2 n (v3 + 1) x3)
set_option maxHeartbeats 4000000 in
set_option maxRecDepth 100000 in
theorem k_X8_repeatLast_13 {l : Launch} {g : zgeo} {fu : Nat} {p : Program} {e : Env} {s : State} {m : MethodId} {args : Array Value} {below : List Frame} {meth : Method} {c : Code} (M : zMC RX8 cX8_repeatLast 4 none g p m c s args meth) {i0 : Nat} {a1 : Int32} {a2 : Int32} (h0 : zkd i0 = (6, 0)) {Q : State → Prop} : ∀ (n : Nat) (v3 : Int32) (σ : zmem) (o : zmem), l_X8_repeatLast_13 fu i0 a1 a2 n v3 σ = some o → ∀ (ls : Array Slot) (H : Heap) (locs : List Loc), lv_has ls 4 [(0, .ref (zA g i0)), (1, .int a1), (2, .int a2), (3, .int v3)] → zIV g σ (zAA g) s.heap H locs → (∀ (ls : Array Slot) (H : Heap) (locs : List Loc), lv_has ls 4 [] → zIV g o (zAA g) s.heap H locs → W p l e (zrm 2 43) s m args below meth c H locs 0 0 Q (F0 m 29 ls [])) → W p l e (zrm 2 43) s m args below meth c H locs 0 0 Q (F0 m 13 ls []) := by
  have hx := M.1.1
  have hb := M.1.2.1
  intro n
  induction n with
  | zero =>
    intro v3 σ o hr ls H locs hl I KF
    have hr : (none : Option (zmem)) = some o := hr
    cases hr
  | succ n ih =>
    intro v3 σ o hr ls H locs hl I KF
    rw [l_X8_repeatLast_13] at hr
    refine lv_iload_n hx hb dX8_repeatLast_13 rfl (lv_at hl 3 rfl) ?_
    refine lv_iload_n hx hb dX8_repeatLast_14 rfl (lv_at hl 1 rfl) ?_
    refine lv_icmp_ge (tgt := 29) hx hb dX8_repeatLast_15 (by decide) (fun c4 => ?_) (fun c4 => ?_)
    · replace hr := zif_t hr c4
      obtain rfl := Option.some.inj hr
      exact KF ls _ _ (lv_sub hl [] rfl) I
    · replace hr := zif_f hr c4
      refine lv_aload_n hx hb dX8_repeatLast_18 rfl (lv_at hl 0 rfl) ?_
      refine lv_iload_n hx hb dX8_repeatLast_19 rfl (lv_at hl 2 rfl) ?_
      obtain ⟨x3, e_x3, hr⟩ := zb_some hr
      refine zcallU M I (zrunV (as := [.int a2]) M I (c_X6_extend l g fu h0 e_x3) h0 zK6.1 (by decide) zlv_X8_57 ⟨Nat.le_of_ble_eq_true rfl, Nat.le_of_ble_eq_true rfl⟩ ⟨Nat.zero_le _, Nat.zero_le _⟩ rfl rfl (Nat.le_of_ble_eq_true rfl) hl.1 dX8_repeatLast_20) (fun H locs I => ?_)
      refine lv_iinc (lv' := [(3, .int (v3 + 1)), (0, .ref (zA g i0)), (1, .int a1), (2, .int a2)]) (k := 3) (v := (v3 + 1)) hx hb dX8_repeatLast_23 hl rfl (zi_1 _) (by decide) rfl (fun ls hl => ?_)
      refine lv_goto (tgt := 13) hx hb dX8_repeatLast_26 (by decide) ?_
      exact ih _ _  _ hr ls _ _ (lv_sub hl [1, 2, 3, 0] rfl) I KF
def m_X8_repeatLast (fu : Nat) (σ : zmem) (i0 : Nat) (a1 : Int32) : Option (zmem) := (m_X6_size fu σ i0).bind fun x1 => (m_X6_signAt fu σ i0 (x1 - (1 : Int32))).bind fun x2 => (l_X8_repeatLast_13 fu i0 a1 x2 fu (0 : Int32) σ).bind fun x5 => some x5
set_option maxHeartbeats 4000000 in
set_option maxRecDepth 100000 in
theorem c_X8_repeatLast (l : Launch) (g : zgeo) (fu : Nat) {σ : zmem} {i0 : Nat} {a1 : Int32} {r : zmem} (h0 : zkd i0 = (6, 0)) (hr : m_X8_repeatLast fu σ i0 a1 = some r) : zCt (zQV g r) l g yX8_repeatLast cX8_repeatLast 4 none 2 43 [.ref (zA g i0), .int a1] σ := by
  refine zopen (by decide) (Nat.le_of_ble_eq_true rfl) ?_
  intro p e s m below meth c M ls hl I
  have M : zMC RX8 cX8_repeatLast 4 none g p m c s ([.ref (zA g i0), .int a1] : List Value).toArray meth := M
  have hl : lv_has ls 4 [(0, .ref (zA g i0)), (1, .int a1)] := hl
  generalize ([.ref (zA g i0), .int a1] : List Value).toArray = args at M ⊢
  have hx := M.1.1
  have hb := M.1.2.1
  unfold m_X8_repeatLast at hr
  refine lv_aload_n hx hb dX8_repeatLast_0 rfl (lv_at hl 0 rfl) ?_
  refine lv_aload_n hx hb dX8_repeatLast_1 rfl (lv_at hl 0 rfl) ?_
  obtain ⟨x1, e_x1, hr⟩ := zb_some hr
  refine zcallI M I (zrunV (as := []) M I (c_X6_size l g fu h0 e_x1) h0 zK6.1 (by decide) zlv_X8_64 ⟨Nat.le_of_ble_eq_true rfl, Nat.le_of_ble_eq_true rfl⟩ ⟨Nat.zero_le _, Nat.zero_le _⟩ rfl rfl (Nat.le_of_ble_eq_true rfl) hl.1 dX8_repeatLast_2) (fun H locs I => ?_)
  refine lv_iconst (v := (1 : Int32)) hx hb dX8_repeatLast_5 (by decide) ?_
  refine lv_isub hx hb dX8_repeatLast_6 ?_
  obtain ⟨x2, e_x2, hr⟩ := zb_some hr
  refine zcallI M I (zrunV (as := [.int (x1 - (1 : Int32))]) M I (c_X6_signAt l g fu h0 e_x2) h0 zK6.1 (by decide) zlv_X8_67 ⟨Nat.le_of_ble_eq_true rfl, Nat.le_of_ble_eq_true rfl⟩ ⟨Nat.zero_le _, Nat.zero_le _⟩ rfl rfl (Nat.le_of_ble_eq_true rfl) hl.1 dX8_repeatLast_7) (fun H locs I => ?_)
  refine lv_istore_n (lv' := [(2, .int x2), (0, .ref (zA g i0)), (1, .int a1)]) hx hb dX8_repeatLast_10 rfl hl (by decide) rfl (fun ls hl => ?_)
  refine lv_iconst (v := (0 : Int32)) hx hb dX8_repeatLast_11 (by decide) ?_
  refine lv_istore_n (lv' := [(3, .int (0 : Int32)), (2, .int x2), (0, .ref (zA g i0)), (1, .int a1)]) hx hb dX8_repeatLast_12 rfl hl (by decide) rfl (fun ls hl => ?_)
  obtain ⟨x5, e_x5, hr⟩ := zb_some hr
  refine k_X8_repeatLast_13 M h0 fu _ _  _ e_x5 ls _ _ (lv_sub hl [2, 3, 1, 0] rfl) I (fun ls H locs hl I => ?_)
  obtain rfl := Option.some.inj hr
  exact zretV M I dX8_repeatLast_29
def l_X8_writeRows_21 (fu : Nat) (i0 : Nat) (i1 : Nat) : Nat → Nat → Int32 → zmem → Option (zmem)
  | 0, _, _, _ => none
  | n + 1, v2, v3, σ => (if (σ.1 i0 1) ≤ v3 then some σ else (m_X1_at fu σ (i0 + 1) v3).bind fun x3 => (m_X8_isLetter fu σ x3).bind fun x4 => ((if x4 = 0 then (m_X8_isNumber fu σ x3).bind fun x6 => (if x6 = 0 then some ((i1 + 3), σ) else (m_X8_repeatLast fu σ v2 ((x3 - (48 : Int32)) - (1 : Int32))).bind fun x7 => some (v2, x7)) else (m_X6_extend fu σ v2 (x3 - (97 : Int32))).bind fun x9 => some (v2, x9)) : Option (Nat × zmem)).bind fun x5 => l_X8_writeRows_21 fu i0 i1 n x5.1 (v3 + 1) x5.2)
set_option maxHeartbeats 4000000 in
set_option maxRecDepth 100000 in
theorem k_X8_writeRows_21 {l : Launch} {g : zgeo} {fu : Nat} {p : Program} {e : Env} {s : State} {m : MethodId} {args : Array Value} {below : List Frame} {meth : Method} {c : Code} (M : zMC RX8 cX8_writeRows 5 none g p m c s args meth) {i0 : Nat} {i1 : Nat} (h0 : zkd i0 = (8, 0)) (h1 : zkd i1 = (7, 0)) {Q : State → Prop} : ∀ (n : Nat) (v2 : Nat) (v3 : Int32) (σ : zmem) (h2 : zkd v2 = (6, 0)) (o : zmem), l_X8_writeRows_21 fu i0 i1 n v2 v3 σ = some o → ∀ (ls : Array Slot) (H : Heap) (locs : List Loc), lv_has ls 5 [(0, .ref (zA g i0)), (1, .ref (zA g i1)), (2, .ref (zA g v2)), (3, .int v3)] → zIV g σ (zAA g) s.heap H locs → (∀ (ls : Array Slot) (H : Heap) (locs : List Loc), lv_has ls 5 [] → zIV g o (zAA g) s.heap H locs → W p l e (zrm 3 66) s m args below meth c H locs 0 0 Q (F0 m 92 ls [])) → W p l e (zrm 3 66) s m args below meth c H locs 0 0 Q (F0 m 21 ls []) := by
  have hx := M.1.1
  have hb := M.1.2.1
  intro n
  induction n with
  | zero =>
    intro v2 v3 σ h2 o hr ls H locs hl I KF
    have hr : (none : Option (zmem)) = some o := hr
    cases hr
  | succ n ih =>
    intro v2 v3 σ h2 o hr ls H locs hl I KF
    rw [l_X8_writeRows_21] at hr
    refine lv_iload_n hx hb dX8_writeRows_21 rfl (lv_at hl 3 rfl) ?_
    refine lv_aload_n hx hb dX8_writeRows_22 rfl (lv_at hl 0 rfl) ?_
    refine zgetI M I h0 zfl_X8_20 dX8_writeRows_23 ?_
    refine lv_icmp_ge (tgt := 92) hx hb dX8_writeRows_26 (by decide) (fun c11 => ?_) (fun c11 => ?_)
    · replace hr := zif_t hr c11
      obtain rfl := Option.some.inj hr
      exact KF ls _ _ (lv_sub hl [] rfl) I
    · replace hr := zif_f hr c11
      refine lv_aload_n hx hb dX8_writeRows_29 rfl (lv_at hl 0 rfl) ?_
      refine zgetR (j := (i0 + 1)) M I h0 zfl_X8_14 dX8_writeRows_30 rfl ?_
      refine lv_iload_n hx hb dX8_writeRows_33 rfl (lv_at hl 3 rfl) ?_
      obtain ⟨x3, e_x3, hr⟩ := zb_some hr
      refine zcallI M I (zrunV (as := [.int v3]) M I (c_X1_at l g fu (zs_8_0 h0) e_x3) (zs_8_0 h0) zK1.1 (by decide) zlv_X8_24 ⟨Nat.le_of_ble_eq_true rfl, Nat.le_of_ble_eq_true rfl⟩ ⟨Nat.zero_le _, Nat.zero_le _⟩ rfl rfl (Nat.le_of_ble_eq_true rfl) hl.1 dX8_writeRows_34) (fun H locs I => ?_)
      refine lv_istore (lv' := [(4, .int x3), (0, .ref (zA g i0)), (1, .ref (zA g i1)), (2, .ref (zA g v2)), (3, .int v3)]) hx hb dX8_writeRows_37 hl (by decide) rfl (fun ls hl => ?_)
      refine lv_iload hx hb dX8_writeRows_39 (lv_at hl 0 rfl) ?_
      obtain ⟨x4, e_x4, hr⟩ := zb_some hr
      refine zcallI M I (zrunS (as := [.int x3]) M I (c_X8_isLetter l g fu e_x4) zls_X8_32 ⟨Nat.le_of_ble_eq_true rfl, Nat.le_of_ble_eq_true rfl⟩ ⟨Nat.zero_le _, Nat.zero_le _⟩ rfl rfl (Nat.le_of_ble_eq_true rfl) hl.1 dX8_writeRows_41) (fun H locs I => ?_)
      obtain ⟨x5, e_x5, hr⟩ := zb_some hr
      have K_x5 : ∀ (hj2 : zkd x5.1 = (6, 0)) (ls : Array Slot) (H : Heap) (locs : List Loc), lv_has ls 5 [(0, .ref (zA g i0)), (1, .ref (zA g i1)), (2, .ref (zA g x5.1)), (3, .int v3)] → zIV g x5.2 (zAA g) s.heap H locs → W p l e (zrm 3 66) s m args below meth c H locs 0 0 Q (F0 m 86 ls []) := by
        intro hj2 ls H locs hl I
        refine lv_iinc (lv' := [(3, .int (v3 + 1)), (0, .ref (zA g i0)), (1, .ref (zA g i1)), (2, .ref (zA g x5.1))]) (k := 3) (v := (v3 + 1)) hx hb dX8_writeRows_86 hl rfl (zi_1 _) (by decide) rfl (fun ls hl => ?_)
        refine lv_goto (tgt := 21) hx hb dX8_writeRows_89 (by decide) ?_
        exact ih _ _ _ hj2 _ hr ls _ _ (lv_sub hl [1, 2, 3, 0] rfl) I KF
      refine lv_if_eq (tgt := 59) hx hb dX8_writeRows_44 (by decide) (fun c10 => ?_) (fun c10 => ?_)
      · replace e_x5 := zif_t e_x5 c10
        refine lv_iload hx hb dX8_writeRows_59 (lv_at hl 0 rfl) ?_
        obtain ⟨x6, e_x6, e_x5⟩ := zb_some e_x5
        refine zcallI M I (zrunS (as := [.int x3]) M I (c_X8_isNumber l g fu e_x6) zls_X8_36 ⟨Nat.le_of_ble_eq_true rfl, Nat.le_of_ble_eq_true rfl⟩ ⟨Nat.zero_le _, Nat.zero_le _⟩ rfl rfl (Nat.le_of_ble_eq_true rfl) hl.1 dX8_writeRows_61) (fun H locs I => ?_)
        refine lv_if_eq (tgt := 81) hx hb dX8_writeRows_64 (by decide) (fun c8 => ?_) (fun c8 => ?_)
        · replace e_x5 := zif_t e_x5 c8
          refine lv_aload_n hx hb dX8_writeRows_81 rfl (lv_at hl 2 rfl) ?_
          refine zgetR (j := (i1 + 3)) M I h1 zfl_X8_54 dX8_writeRows_82 rfl ?_
          refine lv_astore_n (lv' := [(2, .ref (zA g (i1 + 3))), (4, .int x3), (0, .ref (zA g i0)), (1, .ref (zA g i1)), (3, .int v3)]) hx hb dX8_writeRows_85 rfl hl (by decide) rfl (fun ls hl => ?_)
          obtain rfl := Option.some.inj e_x5
          exact K_x5 (zs_7_1 h1) ls _ _ (lv_sub hl [2, 3, 0, 4] rfl) I
        · replace e_x5 := zif_f e_x5 c8
          refine lv_aload_n hx hb dX8_writeRows_67 rfl (lv_at hl 3 rfl) ?_
          refine lv_iload hx hb dX8_writeRows_68 (lv_at hl 0 rfl) ?_
          refine lv_bipush (v := (48 : Int32)) hx hb dX8_writeRows_70 (by decide) ?_
          refine lv_isub hx hb dX8_writeRows_72 ?_
          refine lv_iconst (v := (1 : Int32)) hx hb dX8_writeRows_73 (by decide) ?_
          refine lv_isub hx hb dX8_writeRows_74 ?_
          obtain ⟨x7, e_x7, e_x5⟩ := zb_some e_x5
          refine zcallU M I (zrunS (as := [.ref (zA g v2), .int ((x3 - (48 : Int32)) - (1 : Int32))]) M I (c_X8_repeatLast l g fu h2 e_x7) zls_X8_60 ⟨Nat.le_of_ble_eq_true rfl, Nat.le_of_ble_eq_true rfl⟩ ⟨Nat.zero_le _, Nat.zero_le _⟩ rfl rfl (Nat.le_of_ble_eq_true rfl) hl.1 dX8_writeRows_75) (fun H locs I => ?_)
          refine lv_goto (tgt := 86) hx hb dX8_writeRows_78 (by decide) ?_
          obtain rfl := Option.some.inj e_x5
          exact K_x5 h2 ls _ _ (lv_sub hl [1, 2, 3, 4] rfl) I
      · replace e_x5 := zif_f e_x5 c10
        refine lv_aload_n hx hb dX8_writeRows_47 rfl (lv_at hl 3 rfl) ?_
        refine lv_iload hx hb dX8_writeRows_48 (lv_at hl 0 rfl) ?_
        refine lv_bipush (v := (97 : Int32)) hx hb dX8_writeRows_50 (by decide) ?_
        refine lv_isub hx hb dX8_writeRows_52 ?_
        obtain ⟨x9, e_x9, e_x5⟩ := zb_some e_x5
        refine zcallU M I (zrunV (as := [.int (x3 - (97 : Int32))]) M I (c_X6_extend l g fu h2 e_x9) h2 zK6.1 (by decide) zlv_X8_57 ⟨Nat.le_of_ble_eq_true rfl, Nat.le_of_ble_eq_true rfl⟩ ⟨Nat.zero_le _, Nat.zero_le _⟩ rfl rfl (Nat.le_of_ble_eq_true rfl) hl.1 dX8_writeRows_53) (fun H locs I => ?_)
        refine lv_goto (tgt := 86) hx hb dX8_writeRows_56 (by decide) ?_
        obtain rfl := Option.some.inj e_x5
        exact K_x5 h2 ls _ _ (lv_sub hl [1, 2, 3, 4] rfl) I
def m_X8_writeRows (fu : Nat) (σ : zmem) (i0 : Nat) (i1 : Nat) : Option (zmem) := (m_X6_clear fu σ (i1 + 1)).bind fun x1 => (m_X6_clear fu x1 (i1 + 3)).bind fun x2 => (l_X8_writeRows_21 fu i0 i1 fu (i1 + 1) (0 : Int32) x2).bind fun x12 => some x12
set_option maxHeartbeats 4000000 in
set_option maxRecDepth 100000 in
theorem c_X8_writeRows (l : Launch) (g : zgeo) (fu : Nat) {σ : zmem} {i0 : Nat} {i1 : Nat} {r : zmem} (h0 : zkd i0 = (8, 0)) (h1 : zkd i1 = (7, 0)) (hr : m_X8_writeRows fu σ i0 i1 = some r) : zCt (zQV g r) l g yX8_writeRows cX8_writeRows 5 none 3 66 [.ref (zA g i0), .ref (zA g i1)] σ := by
  refine zopen (by decide) (Nat.le_of_ble_eq_true rfl) ?_
  intro p e s m below meth c M ls hl I
  have M : zMC RX8 cX8_writeRows 5 none g p m c s ([.ref (zA g i0), .ref (zA g i1)] : List Value).toArray meth := M
  have hl : lv_has ls 5 [(0, .ref (zA g i0)), (1, .ref (zA g i1))] := hl
  generalize ([.ref (zA g i0), .ref (zA g i1)] : List Value).toArray = args at M ⊢
  have hx := M.1.1
  have hb := M.1.2.1
  unfold m_X8_writeRows at hr
  refine lv_aload_n hx hb dX8_writeRows_0 rfl (lv_at hl 1 rfl) ?_
  refine zgetR (j := (i1 + 1)) M I h1 zfl_X8_43 dX8_writeRows_1 rfl ?_
  obtain ⟨x1, e_x1, hr⟩ := zb_some hr
  refine zcallU M I (zrunV (as := []) M I (c_X6_clear l g fu (zs_7_0 h1) e_x1) (zs_7_0 h1) zK6.1 (by decide) zlv_X8_49 ⟨Nat.le_of_ble_eq_true rfl, Nat.le_of_ble_eq_true rfl⟩ ⟨Nat.zero_le _, Nat.zero_le _⟩ rfl rfl (Nat.le_of_ble_eq_true rfl) hl.1 dX8_writeRows_4) (fun H locs I => ?_)
  refine lv_aload_n hx hb dX8_writeRows_7 rfl (lv_at hl 1 rfl) ?_
  refine zgetR (j := (i1 + 3)) M I h1 zfl_X8_54 dX8_writeRows_8 rfl ?_
  obtain ⟨x2, e_x2, hr⟩ := zb_some hr
  refine zcallU M I (zrunV (as := []) M I (c_X6_clear l g fu (zs_7_1 h1) e_x2) (zs_7_1 h1) zK6.1 (by decide) zlv_X8_49 ⟨Nat.le_of_ble_eq_true rfl, Nat.le_of_ble_eq_true rfl⟩ ⟨Nat.zero_le _, Nat.zero_le _⟩ rfl rfl (Nat.le_of_ble_eq_true rfl) hl.1 dX8_writeRows_11) (fun H locs I => ?_)
  refine lv_aload_n hx hb dX8_writeRows_14 rfl (lv_at hl 1 rfl) ?_
  refine zgetR (j := (i1 + 1)) M I h1 zfl_X8_43 dX8_writeRows_15 rfl ?_
  refine lv_astore_n (lv' := [(2, .ref (zA g (i1 + 1))), (0, .ref (zA g i0)), (1, .ref (zA g i1))]) hx hb dX8_writeRows_18 rfl hl (by decide) rfl (fun ls hl => ?_)
  refine lv_iconst (v := (0 : Int32)) hx hb dX8_writeRows_19 (by decide) ?_
  refine lv_istore_n (lv' := [(3, .int (0 : Int32)), (2, .ref (zA g (i1 + 1))), (0, .ref (zA g i0)), (1, .ref (zA g i1))]) hx hb dX8_writeRows_20 rfl hl (by decide) rfl (fun ls hl => ?_)
  obtain ⟨x12, e_x12, hr⟩ := zb_some hr
  refine k_X8_writeRows_21 M h0 h1 fu _ _ _ (zs_7_0 h1) _ e_x12 ls _ _ (lv_sub hl [2, 3, 1, 0] rfl) I (fun ls H locs hl I => ?_)
  obtain rfl := Option.some.inj hr
  exact zretV M I dX8_writeRows_92
def m_X7_takeRows (fu : Nat) (σ : zmem) (i0 : Nat) (i1 : Nat) : Option (zmem) := (m_X6_takeRow fu σ (i0 + 1) (i1 + 1)).bind fun x1 => (m_X6_takeRow fu x1 (i0 + 3) (i1 + 3)).bind fun x2 => some x2
set_option maxHeartbeats 4000000 in
set_option maxRecDepth 100000 in
theorem c_X7_takeRows (l : Launch) (g : zgeo) (fu : Nat) {σ : zmem} {i0 : Nat} {i1 : Nat} {r : zmem} (h0 : zkd i0 = (7, 0)) (h1 : zkd i1 = (7, 0)) (hr : m_X7_takeRows fu σ i0 i1 = some r) : zCt (zQV g r) l g yX7_takeRows cX7_takeRows 2 none 2 44 [.ref (zA g i0), .ref (zA g i1)] σ := by
  refine zopen (by decide) (Nat.le_of_ble_eq_true rfl) ?_
  intro p e s m below meth c M ls hl I
  have M : zMC RX7 cX7_takeRows 2 none g p m c s ([.ref (zA g i0), .ref (zA g i1)] : List Value).toArray meth := M
  have hl : lv_has ls 2 [(0, .ref (zA g i0)), (1, .ref (zA g i1))] := hl
  generalize ([.ref (zA g i0), .ref (zA g i1)] : List Value).toArray = args at M ⊢
  have hx := M.1.1
  have hb := M.1.2.1
  unfold m_X7_takeRows at hr
  refine lv_aload_n hx hb dX7_takeRows_0 rfl (lv_at hl 0 rfl) ?_
  refine zgetR (j := (i0 + 1)) M I h0 zfl_X7_12 dX7_takeRows_1 rfl ?_
  refine lv_aload_n hx hb dX7_takeRows_4 rfl (lv_at hl 1 rfl) ?_
  refine zgetR (j := (i1 + 1)) M I h1 zfl_X7_12 dX7_takeRows_5 rfl ?_
  obtain ⟨x1, e_x1, hr⟩ := zb_some hr
  refine zcallU M I (zrunV (as := [.ref (zA g (i1 + 1))]) M I (c_X6_takeRow l g fu (zs_7_0 h0) (zs_7_0 h1) e_x1) (zs_7_0 h0) zK6.1 (by decide) zlv_X7_49 ⟨Nat.le_of_ble_eq_true rfl, Nat.le_of_ble_eq_true rfl⟩ ⟨Nat.zero_le _, Nat.zero_le _⟩ rfl rfl (Nat.le_of_ble_eq_true rfl) hl.1 dX7_takeRows_8) (fun H locs I => ?_)
  refine lv_aload_n hx hb dX7_takeRows_11 rfl (lv_at hl 0 rfl) ?_
  refine zgetR (j := (i0 + 3)) M I h0 zfl_X7_18 dX7_takeRows_12 rfl ?_
  refine lv_aload_n hx hb dX7_takeRows_15 rfl (lv_at hl 1 rfl) ?_
  refine zgetR (j := (i1 + 3)) M I h1 zfl_X7_18 dX7_takeRows_16 rfl ?_
  obtain ⟨x2, e_x2, hr⟩ := zb_some hr
  refine zcallU M I (zrunV (as := [.ref (zA g (i1 + 3))]) M I (c_X6_takeRow l g fu (zs_7_1 h0) (zs_7_1 h1) e_x2) (zs_7_1 h0) zK6.1 (by decide) zlv_X7_49 ⟨Nat.le_of_ble_eq_true rfl, Nat.le_of_ble_eq_true rfl⟩ ⟨Nat.zero_le _, Nat.zero_le _⟩ rfl rfl (Nat.le_of_ble_eq_true rfl) hl.1 dX7_takeRows_19) (fun H locs I => ?_)
  obtain rfl := Option.some.inj hr
  exact zretV M I dX7_takeRows_22
def m_X7_signs (fu : Nat) (σ : zmem) (i0 : Nat) : Option (Int32) := (m_X6_size fu σ (i0 + 1)).bind fun x1 => (m_X6_size fu σ (i0 + 3)).bind fun x2 => some (x1 + x2)
set_option maxHeartbeats 4000000 in
set_option maxRecDepth 100000 in
theorem c_X7_signs (l : Launch) (g : zgeo) (fu : Nat) {σ : zmem} {i0 : Nat} {r : Int32} (h0 : zkd i0 = (7, 0)) (hr : m_X7_signs fu σ i0 = some r) : zCt (zQI g r σ) l g yX7_signs cX7_signs 1 (some .int) 1 20 [.ref (zA g i0)] σ := by
  refine zopen (by decide) (Nat.le_of_ble_eq_true rfl) ?_
  intro p e s m below meth c M ls hl I
  have M : zMC RX7 cX7_signs 1 (some .int) g p m c s ([.ref (zA g i0)] : List Value).toArray meth := M
  have hl : lv_has ls 1 [(0, .ref (zA g i0))] := hl
  generalize ([.ref (zA g i0)] : List Value).toArray = args at M ⊢
  have hx := M.1.1
  have hb := M.1.2.1
  unfold m_X7_signs at hr
  refine lv_aload_n hx hb dX7_signs_0 rfl (lv_at hl 0 rfl) ?_
  refine zgetR (j := (i0 + 1)) M I h0 zfl_X7_12 dX7_signs_1 rfl ?_
  obtain ⟨x1, e_x1, hr⟩ := zb_some hr
  refine zcallI M I (zrunV (as := []) M I (c_X6_size l g fu (zs_7_0 h0) e_x1) (zs_7_0 h0) zK6.1 (by decide) zlv_X7_34 ⟨Nat.le_of_ble_eq_true rfl, Nat.le_of_ble_eq_true rfl⟩ ⟨Nat.zero_le _, Nat.zero_le _⟩ rfl rfl (Nat.le_of_ble_eq_true rfl) hl.1 dX7_signs_4) (fun H locs I => ?_)
  refine lv_aload_n hx hb dX7_signs_7 rfl (lv_at hl 0 rfl) ?_
  refine zgetR (j := (i0 + 3)) M I h0 zfl_X7_18 dX7_signs_8 rfl ?_
  obtain ⟨x2, e_x2, hr⟩ := zb_some hr
  refine zcallI M I (zrunV (as := []) M I (c_X6_size l g fu (zs_7_1 h0) e_x2) (zs_7_1 h0) zK6.1 (by decide) zlv_X7_34 ⟨Nat.le_of_ble_eq_true rfl, Nat.le_of_ble_eq_true rfl⟩ ⟨Nat.zero_le _, Nat.zero_le _⟩ rfl rfl (Nat.le_of_ble_eq_true rfl) hl.1 dX7_signs_11) (fun H locs I => ?_)
  refine lv_iadd hx hb dX7_signs_14 ?_
  obtain rfl := Option.some.inj hr
  exact zretI M I dX7_signs_15
def m_X4_size (fu : Nat) (σ : zmem) (i0 : Nat) : Option (Int32) := some (σ.1 i0 1)
set_option maxHeartbeats 4000000 in
set_option maxRecDepth 100000 in
theorem c_X4_size (l : Launch) (g : zgeo) (fu : Nat) {σ : zmem} {i0 : Nat} {r : Int32} (h0 : zkd i0 = (4, 0)) (hr : m_X4_size fu σ i0 = some r) : zCt (zQI g r σ) l g yX4_size cX4_size 1 (some .int) 0 0 [.ref (zA g i0)] σ := by
  refine zopen (by decide) (Nat.le_of_ble_eq_true rfl) ?_
  intro p e s m below meth c M ls hl I
  have M : zMC RX4 cX4_size 1 (some .int) g p m c s ([.ref (zA g i0)] : List Value).toArray meth := M
  have hl : lv_has ls 1 [(0, .ref (zA g i0))] := hl
  generalize ([.ref (zA g i0)] : List Value).toArray = args at M ⊢
  have hx := M.1.1
  have hb := M.1.2.1
  unfold m_X4_size at hr
  refine lv_aload_n hx hb dX4_size_0 rfl (lv_at hl 0 rfl) ?_
  refine zgetI M I h0 zfl_X4_22 dX4_size_1 ?_
  obtain rfl := Option.some.inj hr
  exact zretI M I dX4_size_4
def l_X7_readFrom_28 (fu : Nat) (i0 : Nat) (i1 : Nat) (a2 : Int32) : Nat → Int32 → zmem → Option (zmem)
  | 0, _, _ => none
  | n + 1, v3, σ => (if (24 : Int32) ≤ v3 then some σ else (m_X1_at fu σ i1 ((a2 + (2 : Int32)) + v3)).bind fun x3 => (m_X6_write fu σ (i0 + 1) v3 x3).bind fun x4 => (m_X1_at fu x4 i1 (((a2 + (2 : Int32)) + (24 : Int32)) + v3)).bind fun x5 => (m_X6_write fu x4 (i0 + 3) v3 x5).bind fun x6 => l_X7_readFrom_28 fu i0 i1 a2 n (v3 + 1) x6)
set_option maxHeartbeats 4000000 in
set_option maxRecDepth 100000 in
theorem k_X7_readFrom_28 {l : Launch} {g : zgeo} {fu : Nat} {p : Program} {e : Env} {s : State} {m : MethodId} {args : Array Value} {below : List Frame} {meth : Method} {c : Code} (M : zMC RX7 cX7_readFrom 4 none g p m c s args meth) {i0 : Nat} {i1 : Nat} {a2 : Int32} (h0 : zkd i0 = (7, 0)) (h1 : zkd i1 = (1, 0)) {Q : State → Prop} : ∀ (n : Nat) (v3 : Int32) (σ : zmem) (o : zmem), l_X7_readFrom_28 fu i0 i1 a2 n v3 σ = some o → ∀ (ls : Array Slot) (H : Heap) (locs : List Loc), lv_has ls 4 [(0, .ref (zA g i0)), (1, .ref (zA g i1)), (2, .int a2), (3, .int v3)] → zIV g σ (zAA g) s.heap H locs → (∀ (ls : Array Slot) (H : Heap) (locs : List Loc), lv_has ls 4 [(0, .ref (zA g i0)), (1, .ref (zA g i1)), (2, .int a2)] → zIV g o (zAA g) s.heap H locs → W p l e (zrm 1 22) s m args below meth c H locs 0 0 Q (F0 m 77 ls [])) → W p l e (zrm 1 22) s m args below meth c H locs 0 0 Q (F0 m 28 ls []) := by
  have hx := M.1.1
  have hb := M.1.2.1
  intro n
  induction n with
  | zero =>
    intro v3 σ o hr ls H locs hl I KF
    have hr : (none : Option (zmem)) = some o := hr
    cases hr
  | succ n ih =>
    intro v3 σ o hr ls H locs hl I KF
    rw [l_X7_readFrom_28] at hr
    refine lv_iload_n hx hb dX7_readFrom_28 rfl (lv_at hl 3 rfl) ?_
    refine lv_bipush (v := (24 : Int32)) hx hb dX7_readFrom_29 (by decide) ?_
    refine lv_icmp_ge (tgt := 77) hx hb dX7_readFrom_31 (by decide) (fun c7 => ?_) (fun c7 => ?_)
    · replace hr := zif_t hr c7
      obtain rfl := Option.some.inj hr
      exact KF ls _ _ (lv_sub hl [0, 1, 2] rfl) I
    · replace hr := zif_f hr c7
      refine lv_aload_n hx hb dX7_readFrom_34 rfl (lv_at hl 0 rfl) ?_
      refine zgetR (j := (i0 + 1)) M I h0 zfl_X7_12 dX7_readFrom_35 rfl ?_
      refine lv_iload_n hx hb dX7_readFrom_38 rfl (lv_at hl 3 rfl) ?_
      refine lv_aload_n hx hb dX7_readFrom_39 rfl (lv_at hl 1 rfl) ?_
      refine lv_iload_n hx hb dX7_readFrom_40 rfl (lv_at hl 2 rfl) ?_
      refine lv_iconst (v := (2 : Int32)) hx hb dX7_readFrom_41 (by decide) ?_
      refine lv_iadd hx hb dX7_readFrom_42 ?_
      refine lv_iload_n hx hb dX7_readFrom_43 rfl (lv_at hl 3 rfl) ?_
      refine lv_iadd hx hb dX7_readFrom_44 ?_
      obtain ⟨x3, e_x3, hr⟩ := zb_some hr
      refine zcallI M I (zrunV (as := [.int ((a2 + (2 : Int32)) + v3)]) M I (c_X1_at l g fu h1 e_x3) h1 zK1.1 (by decide) zlv_X7_57 ⟨Nat.le_of_ble_eq_true rfl, Nat.le_of_ble_eq_true rfl⟩ ⟨Nat.zero_le _, Nat.zero_le _⟩ rfl rfl (Nat.le_of_ble_eq_true rfl) hl.1 dX7_readFrom_45) (fun H locs I => ?_)
      obtain ⟨x4, e_x4, hr⟩ := zb_some hr
      refine zcallU M I (zrunV (as := [.int v3, .int x3]) M I (c_X6_write l g fu (zs_7_0 h0) e_x4) (zs_7_0 h0) zK6.1 (by decide) zlv_X7_46 ⟨Nat.le_of_ble_eq_true rfl, Nat.le_of_ble_eq_true rfl⟩ ⟨Nat.zero_le _, Nat.zero_le _⟩ rfl rfl (Nat.le_of_ble_eq_true rfl) hl.1 dX7_readFrom_48) (fun H locs I => ?_)
      refine lv_aload_n hx hb dX7_readFrom_51 rfl (lv_at hl 0 rfl) ?_
      refine zgetR (j := (i0 + 3)) M I h0 zfl_X7_18 dX7_readFrom_52 rfl ?_
      refine lv_iload_n hx hb dX7_readFrom_55 rfl (lv_at hl 3 rfl) ?_
      refine lv_aload_n hx hb dX7_readFrom_56 rfl (lv_at hl 1 rfl) ?_
      refine lv_iload_n hx hb dX7_readFrom_57 rfl (lv_at hl 2 rfl) ?_
      refine lv_iconst (v := (2 : Int32)) hx hb dX7_readFrom_58 (by decide) ?_
      refine lv_iadd hx hb dX7_readFrom_59 ?_
      refine lv_bipush (v := (24 : Int32)) hx hb dX7_readFrom_60 (by decide) ?_
      refine lv_iadd hx hb dX7_readFrom_62 ?_
      refine lv_iload_n hx hb dX7_readFrom_63 rfl (lv_at hl 3 rfl) ?_
      refine lv_iadd hx hb dX7_readFrom_64 ?_
      obtain ⟨x5, e_x5, hr⟩ := zb_some hr
      refine zcallI M I (zrunV (as := [.int (((a2 + (2 : Int32)) + (24 : Int32)) + v3)]) M I (c_X1_at l g fu h1 e_x5) h1 zK1.1 (by decide) zlv_X7_57 ⟨Nat.le_of_ble_eq_true rfl, Nat.le_of_ble_eq_true rfl⟩ ⟨Nat.zero_le _, Nat.zero_le _⟩ rfl rfl (Nat.le_of_ble_eq_true rfl) hl.1 dX7_readFrom_65) (fun H locs I => ?_)
      obtain ⟨x6, e_x6, hr⟩ := zb_some hr
      refine zcallU M I (zrunV (as := [.int v3, .int x5]) M I (c_X6_write l g fu (zs_7_1 h0) e_x6) (zs_7_1 h0) zK6.1 (by decide) zlv_X7_46 ⟨Nat.le_of_ble_eq_true rfl, Nat.le_of_ble_eq_true rfl⟩ ⟨Nat.zero_le _, Nat.zero_le _⟩ rfl rfl (Nat.le_of_ble_eq_true rfl) hl.1 dX7_readFrom_68) (fun H locs I => ?_)
      refine lv_iinc (lv' := [(3, .int (v3 + 1)), (0, .ref (zA g i0)), (1, .ref (zA g i1)), (2, .int a2)]) (k := 3) (v := (v3 + 1)) hx hb dX7_readFrom_71 hl rfl (zi_1 _) (by decide) rfl (fun ls hl => ?_)
      refine lv_goto (tgt := 28) hx hb dX7_readFrom_74 (by decide) ?_
      exact ih _ _  _ hr ls _ _ (lv_sub hl [1, 2, 3, 0] rfl) I KF
def l_X7_readFrom_79 (fu : Nat) (i0 : Nat) (i1 : Nat) (a2 : Int32) : Nat → Int32 → zmem → Option (zmem)
  | 0, _, _ => none
  | n + 1, v3, σ => (if (4 : Int32) ≤ v3 then some σ else (m_X1_at fu σ i1 (((a2 + (2 : Int32)) + (48 : Int32)) + v3)).bind fun x9 => (m_X1_store fu σ (i0 + 5) v3 x9).bind fun x10 => l_X7_readFrom_79 fu i0 i1 a2 n (v3 + 1) x10)
set_option maxHeartbeats 4000000 in
set_option maxRecDepth 100000 in
theorem k_X7_readFrom_79 {l : Launch} {g : zgeo} {fu : Nat} {p : Program} {e : Env} {s : State} {m : MethodId} {args : Array Value} {below : List Frame} {meth : Method} {c : Code} (M : zMC RX7 cX7_readFrom 4 none g p m c s args meth) {i0 : Nat} {i1 : Nat} {a2 : Int32} (h0 : zkd i0 = (7, 0)) (h1 : zkd i1 = (1, 0)) {Q : State → Prop} : ∀ (n : Nat) (v3 : Int32) (σ : zmem) (o : zmem), l_X7_readFrom_79 fu i0 i1 a2 n v3 σ = some o → ∀ (ls : Array Slot) (H : Heap) (locs : List Loc), lv_has ls 4 [(0, .ref (zA g i0)), (1, .ref (zA g i1)), (2, .int a2), (3, .int v3)] → zIV g σ (zAA g) s.heap H locs → (∀ (ls : Array Slot) (H : Heap) (locs : List Loc), lv_has ls 4 [] → zIV g o (zAA g) s.heap H locs → W p l e (zrm 1 22) s m args below meth c H locs 0 0 Q (F0 m 110 ls [])) → W p l e (zrm 1 22) s m args below meth c H locs 0 0 Q (F0 m 79 ls []) := by
  have hx := M.1.1
  have hb := M.1.2.1
  intro n
  induction n with
  | zero =>
    intro v3 σ o hr ls H locs hl I KF
    have hr : (none : Option (zmem)) = some o := hr
    cases hr
  | succ n ih =>
    intro v3 σ o hr ls H locs hl I KF
    rw [l_X7_readFrom_79] at hr
    refine lv_iload_n hx hb dX7_readFrom_79 rfl (lv_at hl 3 rfl) ?_
    refine lv_iconst (v := (4 : Int32)) hx hb dX7_readFrom_80 (by decide) ?_
    refine lv_icmp_ge (tgt := 110) hx hb dX7_readFrom_81 (by decide) (fun c11 => ?_) (fun c11 => ?_)
    · replace hr := zif_t hr c11
      obtain rfl := Option.some.inj hr
      exact KF ls _ _ (lv_sub hl [] rfl) I
    · replace hr := zif_f hr c11
      refine lv_aload_n hx hb dX7_readFrom_84 rfl (lv_at hl 0 rfl) ?_
      refine zgetR (j := (i0 + 5)) M I h0 zfl_X7_26 dX7_readFrom_85 rfl ?_
      refine lv_iload_n hx hb dX7_readFrom_88 rfl (lv_at hl 3 rfl) ?_
      refine lv_aload_n hx hb dX7_readFrom_89 rfl (lv_at hl 1 rfl) ?_
      refine lv_iload_n hx hb dX7_readFrom_90 rfl (lv_at hl 2 rfl) ?_
      refine lv_iconst (v := (2 : Int32)) hx hb dX7_readFrom_91 (by decide) ?_
      refine lv_iadd hx hb dX7_readFrom_92 ?_
      refine lv_bipush (v := (48 : Int32)) hx hb dX7_readFrom_93 (by decide) ?_
      refine lv_iadd hx hb dX7_readFrom_95 ?_
      refine lv_iload_n hx hb dX7_readFrom_96 rfl (lv_at hl 3 rfl) ?_
      refine lv_iadd hx hb dX7_readFrom_97 ?_
      obtain ⟨x9, e_x9, hr⟩ := zb_some hr
      refine zcallI M I (zrunV (as := [.int (((a2 + (2 : Int32)) + (48 : Int32)) + v3)]) M I (c_X1_at l g fu h1 e_x9) h1 zK1.1 (by decide) zlv_X7_57 ⟨Nat.le_of_ble_eq_true rfl, Nat.le_of_ble_eq_true rfl⟩ ⟨Nat.zero_le _, Nat.zero_le _⟩ rfl rfl (Nat.le_of_ble_eq_true rfl) hl.1 dX7_readFrom_98) (fun H locs I => ?_)
      obtain ⟨x10, e_x10, hr⟩ := zb_some hr
      refine zcallU M I (zrunV (as := [.int v3, .int x9]) M I (c_X1_store l g fu (zs_7_2 h0) e_x10) (zs_7_2 h0) zK1.1 (by decide) zlv_X7_30 ⟨Nat.le_of_ble_eq_true rfl, Nat.le_of_ble_eq_true rfl⟩ ⟨Nat.zero_le _, Nat.zero_le _⟩ rfl rfl (Nat.le_of_ble_eq_true rfl) hl.1 dX7_readFrom_101) (fun H locs I => ?_)
      refine lv_iinc (lv' := [(3, .int (v3 + 1)), (0, .ref (zA g i0)), (1, .ref (zA g i1)), (2, .int a2)]) (k := 3) (v := (v3 + 1)) hx hb dX7_readFrom_104 hl rfl (zi_1 _) (by decide) rfl (fun ls hl => ?_)
      refine lv_goto (tgt := 79) hx hb dX7_readFrom_107 (by decide) ?_
      exact ih _ _  _ hr ls _ _ (lv_sub hl [1, 2, 3, 0] rfl) I KF
def m_X7_readFrom (fu : Nat) (σ : zmem) (i0 : Nat) (i1 : Nat) (a2 : Int32) : Option (zmem) := (m_X1_at fu σ i1 a2).bind fun x1 => (m_X1_at fu (zst σ (i0 + 1) 1 x1) i1 (a2 + (1 : Int32))).bind fun x2 => (l_X7_readFrom_28 fu i0 i1 a2 fu (0 : Int32) (zst (zst σ (i0 + 1) 1 x1) (i0 + 3) 1 x2)).bind fun x8 => (l_X7_readFrom_79 fu i0 i1 a2 fu (0 : Int32) x8).bind fun x12 => some x12
set_option maxHeartbeats 4000000 in
set_option maxRecDepth 100000 in
theorem c_X7_readFrom (l : Launch) (g : zgeo) (fu : Nat) {σ : zmem} {i0 : Nat} {i1 : Nat} {a2 : Int32} {r : zmem} (h0 : zkd i0 = (7, 0)) (h1 : zkd i1 = (1, 0)) (hr : m_X7_readFrom fu σ i0 i1 a2 = some r) : zCt (zQV g r) l g yX7_readFrom cX7_readFrom 4 none 1 22 [.ref (zA g i0), .ref (zA g i1), .int a2] σ := by
  refine zopen (by decide) (Nat.le_of_ble_eq_true rfl) ?_
  intro p e s m below meth c M ls hl I
  have M : zMC RX7 cX7_readFrom 4 none g p m c s ([.ref (zA g i0), .ref (zA g i1), .int a2] : List Value).toArray meth := M
  have hl : lv_has ls 4 [(0, .ref (zA g i0)), (1, .ref (zA g i1)), (2, .int a2)] := hl
  generalize ([.ref (zA g i0), .ref (zA g i1), .int a2] : List Value).toArray = args at M ⊢
  have hx := M.1.1
  have hb := M.1.2.1
  unfold m_X7_readFrom at hr
  refine lv_aload_n hx hb dX7_readFrom_0 rfl (lv_at hl 0 rfl) ?_
  refine zgetR (j := (i0 + 1)) M I h0 zfl_X7_12 dX7_readFrom_1 rfl ?_
  refine lv_aload_n hx hb dX7_readFrom_4 rfl (lv_at hl 1 rfl) ?_
  refine lv_iload_n hx hb dX7_readFrom_5 rfl (lv_at hl 2 rfl) ?_
  obtain ⟨x1, e_x1, hr⟩ := zb_some hr
  refine zcallI M I (zrunV (as := [.int a2]) M I (c_X1_at l g fu h1 e_x1) h1 zK1.1 (by decide) zlv_X7_57 ⟨Nat.le_of_ble_eq_true rfl, Nat.le_of_ble_eq_true rfl⟩ ⟨Nat.zero_le _, Nat.zero_le _⟩ rfl rfl (Nat.le_of_ble_eq_true rfl) hl.1 dX7_readFrom_6) (fun H locs I => ?_)
  refine zputN M I (zs_7_0 h0) dX7_readFrom_9 (fun H locs I => ?_)
  refine lv_aload_n hx hb dX7_readFrom_12 rfl (lv_at hl 0 rfl) ?_
  refine zgetR (j := (i0 + 3)) M I h0 zfl_X7_18 dX7_readFrom_13 rfl ?_
  refine lv_aload_n hx hb dX7_readFrom_16 rfl (lv_at hl 1 rfl) ?_
  refine lv_iload_n hx hb dX7_readFrom_17 rfl (lv_at hl 2 rfl) ?_
  refine lv_iconst (v := (1 : Int32)) hx hb dX7_readFrom_18 (by decide) ?_
  refine lv_iadd hx hb dX7_readFrom_19 ?_
  obtain ⟨x2, e_x2, hr⟩ := zb_some hr
  refine zcallI M I (zrunV (as := [.int (a2 + (1 : Int32))]) M I (c_X1_at l g fu h1 e_x2) h1 zK1.1 (by decide) zlv_X7_57 ⟨Nat.le_of_ble_eq_true rfl, Nat.le_of_ble_eq_true rfl⟩ ⟨Nat.zero_le _, Nat.zero_le _⟩ rfl rfl (Nat.le_of_ble_eq_true rfl) hl.1 dX7_readFrom_20) (fun H locs I => ?_)
  refine zputN M I (zs_7_1 h0) dX7_readFrom_23 (fun H locs I => ?_)
  refine lv_iconst (v := (0 : Int32)) hx hb dX7_readFrom_26 (by decide) ?_
  refine lv_istore_n (lv' := [(3, .int (0 : Int32)), (0, .ref (zA g i0)), (1, .ref (zA g i1)), (2, .int a2)]) hx hb dX7_readFrom_27 rfl hl (by decide) rfl (fun ls hl => ?_)
  obtain ⟨x8, e_x8, hr⟩ := zb_some hr
  refine k_X7_readFrom_28 M h0 h1 fu _ _  _ e_x8 ls _ _ (lv_sub hl [1, 2, 3, 0] rfl) I (fun ls H locs hl I => ?_)
  refine lv_iconst (v := (0 : Int32)) hx hb dX7_readFrom_77 (by decide) ?_
  refine lv_istore_n (lv' := [(3, .int (0 : Int32)), (0, .ref (zA g i0)), (1, .ref (zA g i1)), (2, .int a2)]) hx hb dX7_readFrom_78 rfl hl (by decide) rfl (fun ls hl => ?_)
  obtain ⟨x12, e_x12, hr⟩ := zb_some hr
  refine k_X7_readFrom_79 M h0 h1 fu _ _  _ e_x12 ls _ _ (lv_sub hl [1, 2, 3, 0] rfl) I (fun ls H locs hl I => ?_)
  obtain rfl := Option.some.inj hr
  exact zretV M I dX7_readFrom_110
def m_X4_giveBack (fu : Nat) (σ : zmem) (i0 : Nat) (i1 : Nat) : Option (zmem) := (if (σ.1 i0 1) ≤ 0 then some σ else (m_X7_readFrom fu (zst σ i0 1 ((σ.1 i0 1) - (1 : Int32))) i1 (i0 + 1) (((zst σ i0 1 ((σ.1 i0 1) - (1 : Int32))).1 i0 1) * (54 : Int32))).bind fun x1 => some x1)
set_option maxHeartbeats 4000000 in
set_option maxRecDepth 100000 in
theorem c_X4_giveBack (l : Launch) (g : zgeo) (fu : Nat) {σ : zmem} {i0 : Nat} {i1 : Nat} {r : zmem} (h0 : zkd i0 = (4, 0)) (h1 : zkd i1 = (7, 0)) (hr : m_X4_giveBack fu σ i0 i1 = some r) : zCt (zQV g r) l g yX4_giveBack cX4_giveBack 2 none 2 45 [.ref (zA g i0), .ref (zA g i1)] σ := by
  refine zopen (by decide) (Nat.le_of_ble_eq_true rfl) ?_
  intro p e s m below meth c M ls hl I
  have M : zMC RX4 cX4_giveBack 2 none g p m c s ([.ref (zA g i0), .ref (zA g i1)] : List Value).toArray meth := M
  have hl : lv_has ls 2 [(0, .ref (zA g i0)), (1, .ref (zA g i1))] := hl
  generalize ([.ref (zA g i0), .ref (zA g i1)] : List Value).toArray = args at M ⊢
  have hx := M.1.1
  have hb := M.1.2.1
  unfold m_X4_giveBack at hr
  refine lv_aload_n hx hb dX4_giveBack_0 rfl (lv_at hl 0 rfl) ?_
  refine zgetI M I h0 zfl_X4_22 dX4_giveBack_1 ?_
  refine lv_if_le (tgt := 32) hx hb dX4_giveBack_4 (by decide) (fun c2 => ?_) (fun c2 => ?_)
  · replace hr := zif_t hr c2
    obtain rfl := Option.some.inj hr
    exact zretV M I dX4_giveBack_32
  · replace hr := zif_f hr c2
    refine lv_aload_n hx hb dX4_giveBack_7 rfl (lv_at hl 0 rfl) ?_
    refine lv_dup hx hb dX4_giveBack_8 rfl ?_
    refine zgetI M I h0 zfl_X4_22 dX4_giveBack_9 ?_
    refine lv_iconst (v := (1 : Int32)) hx hb dX4_giveBack_12 (by decide) ?_
    refine lv_isub hx hb dX4_giveBack_13 ?_
    refine zputI M I h0 zfw_X4_22 dX4_giveBack_14 (fun H locs I => ?_)
    refine lv_aload_n hx hb dX4_giveBack_17 rfl (lv_at hl 1 rfl) ?_
    refine lv_aload_n hx hb dX4_giveBack_18 rfl (lv_at hl 0 rfl) ?_
    refine zgetR (j := (i0 + 1)) M I h0 zfl_X4_16 dX4_giveBack_19 rfl ?_
    refine lv_aload_n hx hb dX4_giveBack_22 rfl (lv_at hl 0 rfl) ?_
    refine zgetI M I h0 zfl_X4_22 dX4_giveBack_23 ?_
    refine lv_bipush (v := (54 : Int32)) hx hb dX4_giveBack_26 (by decide) ?_
    refine lv_imul hx hb dX4_giveBack_28 ?_
    obtain ⟨x1, e_x1, hr⟩ := zb_some hr
    refine zcallU M I (zrunV (as := [.ref (zA g (i0 + 1)), .int (((zst σ i0 1 ((σ.1 i0 1) - (1 : Int32))).1 i0 1) * (54 : Int32))]) M I (c_X7_readFrom l g fu h1 (zs_4_0 h0) e_x1) h1 zK7.1 (by decide) zlv_X4_41 ⟨Nat.le_of_ble_eq_true rfl, Nat.le_of_ble_eq_true rfl⟩ ⟨Nat.zero_le _, Nat.zero_le _⟩ rfl rfl (Nat.le_of_ble_eq_true rfl) hl.1 dX4_giveBack_29) (fun H locs I => ?_)
    obtain rfl := Option.some.inj hr
    exact zretV M I dX4_giveBack_32
def l_X7_takeAll_7 (fu : Nat) (i0 : Nat) (i1 : Nat) : Nat → Int32 → zmem → Option (zmem)
  | 0, _, _ => none
  | n + 1, v2, σ => (if (4 : Int32) ≤ v2 then some σ else (m_X1_at fu σ (i1 + 5) v2).bind fun x2 => (m_X1_store fu σ (i0 + 5) v2 x2).bind fun x3 => l_X7_takeAll_7 fu i0 i1 n (v2 + 1) x3)
set_option maxHeartbeats 4000000 in
set_option maxRecDepth 100000 in
theorem k_X7_takeAll_7 {l : Launch} {g : zgeo} {fu : Nat} {p : Program} {e : Env} {s : State} {m : MethodId} {args : Array Value} {below : List Frame} {meth : Method} {c : Code} (M : zMC RX7 cX7_takeAll 3 none g p m c s args meth) {i0 : Nat} {i1 : Nat} (h0 : zkd i0 = (7, 0)) (h1 : zkd i1 = (7, 0)) {Q : State → Prop} : ∀ (n : Nat) (v2 : Int32) (σ : zmem) (o : zmem), l_X7_takeAll_7 fu i0 i1 n v2 σ = some o → ∀ (ls : Array Slot) (H : Heap) (locs : List Loc), lv_has ls 3 [(0, .ref (zA g i0)), (1, .ref (zA g i1)), (2, .int v2)] → zIV g σ (zAA g) s.heap H locs → (∀ (ls : Array Slot) (H : Heap) (locs : List Loc), lv_has ls 3 [] → zIV g o (zAA g) s.heap H locs → W p l e (zrm 3 65) s m args below meth c H locs 0 0 Q (F0 m 34 ls [])) → W p l e (zrm 3 65) s m args below meth c H locs 0 0 Q (F0 m 7 ls []) := by
  have hx := M.1.1
  have hb := M.1.2.1
  intro n
  induction n with
  | zero =>
    intro v2 σ o hr ls H locs hl I KF
    have hr : (none : Option (zmem)) = some o := hr
    cases hr
  | succ n ih =>
    intro v2 σ o hr ls H locs hl I KF
    rw [l_X7_takeAll_7] at hr
    refine lv_iload_n hx hb dX7_takeAll_7 rfl (lv_at hl 2 rfl) ?_
    refine lv_iconst (v := (4 : Int32)) hx hb dX7_takeAll_8 (by decide) ?_
    refine lv_icmp_ge (tgt := 34) hx hb dX7_takeAll_9 (by decide) (fun c4 => ?_) (fun c4 => ?_)
    · replace hr := zif_t hr c4
      obtain rfl := Option.some.inj hr
      exact KF ls _ _ (lv_sub hl [] rfl) I
    · replace hr := zif_f hr c4
      refine lv_aload_n hx hb dX7_takeAll_12 rfl (lv_at hl 0 rfl) ?_
      refine zgetR (j := (i0 + 5)) M I h0 zfl_X7_26 dX7_takeAll_13 rfl ?_
      refine lv_iload_n hx hb dX7_takeAll_16 rfl (lv_at hl 2 rfl) ?_
      refine lv_aload_n hx hb dX7_takeAll_17 rfl (lv_at hl 1 rfl) ?_
      refine zgetR (j := (i1 + 5)) M I h1 zfl_X7_26 dX7_takeAll_18 rfl ?_
      refine lv_iload_n hx hb dX7_takeAll_21 rfl (lv_at hl 2 rfl) ?_
      obtain ⟨x2, e_x2, hr⟩ := zb_some hr
      refine zcallI M I (zrunV (as := [.int v2]) M I (c_X1_at l g fu (zs_7_2 h1) e_x2) (zs_7_2 h1) zK1.1 (by decide) zlv_X7_57 ⟨Nat.le_of_ble_eq_true rfl, Nat.le_of_ble_eq_true rfl⟩ ⟨Nat.zero_le _, Nat.zero_le _⟩ rfl rfl (Nat.le_of_ble_eq_true rfl) hl.1 dX7_takeAll_22) (fun H locs I => ?_)
      obtain ⟨x3, e_x3, hr⟩ := zb_some hr
      refine zcallU M I (zrunV (as := [.int v2, .int x2]) M I (c_X1_store l g fu (zs_7_2 h0) e_x3) (zs_7_2 h0) zK1.1 (by decide) zlv_X7_30 ⟨Nat.le_of_ble_eq_true rfl, Nat.le_of_ble_eq_true rfl⟩ ⟨Nat.zero_le _, Nat.zero_le _⟩ rfl rfl (Nat.le_of_ble_eq_true rfl) hl.1 dX7_takeAll_25) (fun H locs I => ?_)
      refine lv_iinc (lv' := [(2, .int (v2 + 1)), (0, .ref (zA g i0)), (1, .ref (zA g i1))]) (k := 2) (v := (v2 + 1)) hx hb dX7_takeAll_28 hl rfl (zi_1 _) (by decide) rfl (fun ls hl => ?_)
      refine lv_goto (tgt := 7) hx hb dX7_takeAll_31 (by decide) ?_
      exact ih _ _  _ hr ls _ _ (lv_sub hl [1, 2, 0] rfl) I KF
def m_X7_takeAll (fu : Nat) (σ : zmem) (i0 : Nat) (i1 : Nat) : Option (zmem) := (m_X7_takeRows fu σ i0 i1).bind fun x1 => (l_X7_takeAll_7 fu i0 i1 fu (0 : Int32) x1).bind fun x5 => some x5
set_option maxHeartbeats 4000000 in
set_option maxRecDepth 100000 in
theorem c_X7_takeAll (l : Launch) (g : zgeo) (fu : Nat) {σ : zmem} {i0 : Nat} {i1 : Nat} {r : zmem} (h0 : zkd i0 = (7, 0)) (h1 : zkd i1 = (7, 0)) (hr : m_X7_takeAll fu σ i0 i1 = some r) : zCt (zQV g r) l g yX7_takeAll cX7_takeAll 3 none 3 65 [.ref (zA g i0), .ref (zA g i1)] σ := by
  refine zopen (by decide) (Nat.le_of_ble_eq_true rfl) ?_
  intro p e s m below meth c M ls hl I
  have M : zMC RX7 cX7_takeAll 3 none g p m c s ([.ref (zA g i0), .ref (zA g i1)] : List Value).toArray meth := M
  have hl : lv_has ls 3 [(0, .ref (zA g i0)), (1, .ref (zA g i1))] := hl
  generalize ([.ref (zA g i0), .ref (zA g i1)] : List Value).toArray = args at M ⊢
  have hx := M.1.1
  have hb := M.1.2.1
  unfold m_X7_takeAll at hr
  refine lv_aload_n hx hb dX7_takeAll_0 rfl (lv_at hl 0 rfl) ?_
  refine lv_aload_n hx hb dX7_takeAll_1 rfl (lv_at hl 1 rfl) ?_
  obtain ⟨x1, e_x1, hr⟩ := zb_some hr
  refine zcallU M I (zrunV (as := [.ref (zA g i1)]) M I (c_X7_takeRows l g fu h0 h1 e_x1) h0 zK7.1 (by decide) zlv_X7_53 ⟨Nat.le_of_ble_eq_true rfl, Nat.le_of_ble_eq_true rfl⟩ ⟨Nat.zero_le _, Nat.zero_le _⟩ rfl rfl (Nat.le_of_ble_eq_true rfl) hl.1 dX7_takeAll_2) (fun H locs I => ?_)
  refine lv_iconst (v := (0 : Int32)) hx hb dX7_takeAll_5 (by decide) ?_
  refine lv_istore_n (lv' := [(2, .int (0 : Int32)), (0, .ref (zA g i0)), (1, .ref (zA g i1))]) hx hb dX7_takeAll_6 rfl hl (by decide) rfl (fun ls hl => ?_)
  obtain ⟨x5, e_x5, hr⟩ := zb_some hr
  refine k_X7_takeAll_7 M h0 h1 fu _ _  _ e_x5 ls _ _ (lv_sub hl [1, 2, 0] rfl) I (fun ls H locs hl I => ?_)
  obtain rfl := Option.some.inj hr
  exact zretV M I dX7_takeAll_34
def m_X8_codeAt (fu : Nat) (σ : zmem) (i0 : Nat) (a1 : Int32) : Option (Int32) := (m_X1_at fu σ (i0 + 1) a1).bind fun x1 => some x1
set_option maxHeartbeats 4000000 in
set_option maxRecDepth 100000 in
theorem c_X8_codeAt (l : Launch) (g : zgeo) (fu : Nat) {σ : zmem} {i0 : Nat} {a1 : Int32} {r : Int32} (h0 : zkd i0 = (8, 0)) (hr : m_X8_codeAt fu σ i0 a1 = some r) : zCt (zQI g r σ) l g yX8_codeAt cX8_codeAt 2 (some .int) 1 21 [.ref (zA g i0), .int a1] σ := by
  refine zopen (by decide) (Nat.le_of_ble_eq_true rfl) ?_
  intro p e s m below meth c M ls hl I
  have M : zMC RX8 cX8_codeAt 2 (some .int) g p m c s ([.ref (zA g i0), .int a1] : List Value).toArray meth := M
  have hl : lv_has ls 2 [(0, .ref (zA g i0)), (1, .int a1)] := hl
  generalize ([.ref (zA g i0), .int a1] : List Value).toArray = args at M ⊢
  have hx := M.1.1
  have hb := M.1.2.1
  unfold m_X8_codeAt at hr
  refine lv_aload_n hx hb dX8_codeAt_0 rfl (lv_at hl 0 rfl) ?_
  refine zgetR (j := (i0 + 1)) M I h0 zfl_X8_14 dX8_codeAt_1 rfl ?_
  refine lv_iload_n hx hb dX8_codeAt_4 rfl (lv_at hl 1 rfl) ?_
  obtain ⟨x1, e_x1, hr⟩ := zb_some hr
  refine zcallI M I (zrunV (as := [.int a1]) M I (c_X1_at l g fu (zs_8_0 h0) e_x1) (zs_8_0 h0) zK1.1 (by decide) zlv_X8_24 ⟨Nat.le_of_ble_eq_true rfl, Nat.le_of_ble_eq_true rfl⟩ ⟨Nat.zero_le _, Nat.zero_le _⟩ rfl rfl (Nat.le_of_ble_eq_true rfl) hl.1 dX8_codeAt_5) (fun H locs I => ?_)
  obtain rfl := Option.some.inj hr
  exact zretI M I dX8_codeAt_8
