def l_X5_forget_12 (fu : Nat) (i0 : Nat) : Nat → Int32 → zmem → Option (zmem)
  | 0, _, _ => none
  | n + 1, v1, σ => (if (24 : Int32) ≤ v1 then some σ else (m_X1_store fu σ (i0 + 24) v1 (-1 : Int32)).bind fun x1 => (m_X1_store fu x1 (i0 + 26) v1 (-1 : Int32)).bind fun x2 => l_X5_forget_12 fu i0 n (v1 + 1) x2)
set_option maxHeartbeats 4000000 in
set_option maxRecDepth 100000 in
theorem k_X5_forget_12 {l : Launch} {g : zgeo} {fu : Nat} {p : Program} {e : Env} {s : State} {m : MethodId} {args : Array Value} {below : List Frame} {meth : Method} {c : Code} (M : zMC RX5 cX5_forget 2 none g p m c s args meth) {i0 : Nat} (h0 : zkd i0 = (5, 0)) {Q : State → Prop} : ∀ (n : Nat) (v1 : Int32) (σ : zmem) (o : zmem), l_X5_forget_12 fu i0 n v1 σ = some o → ∀ (ls : Array Slot) (H : Heap) (locs : List Loc), lv_has ls 2 [(0, .ref (zA g i0)), (1, .int v1)] → zIV g σ (zAA g) s.heap H locs → (∀ (ls : Array Slot) (H : Heap) (locs : List Loc), lv_has ls 2 [] → zIV g o (zAA g) s.heap H locs → W p l e (zrm 1 22) s m args below meth c H locs 0 0 Q (F0 m 42 ls [])) → W p l e (zrm 1 22) s m args below meth c H locs 0 0 Q (F0 m 12 ls []) := by
  have hx := M.1.1
  have hb := M.1.2.1
  intro n
  induction n with
  | zero =>
    intro v1 σ o hr ls H locs hl I KF
    have hr : (none : Option (zmem)) = some o := hr
    cases hr
  | succ n ih =>
    intro v1 σ o hr ls H locs hl I KF
    rw [l_X5_forget_12] at hr
    refine lv_iload_n hx hb dX5_forget_12 rfl (lv_at hl 1 rfl) ?_
    refine lv_bipush (v := (24 : Int32)) hx hb dX5_forget_13 (by decide) ?_
    refine lv_icmp_ge (tgt := 42) hx hb dX5_forget_15 (by decide) (fun c3 => ?_) (fun c3 => ?_)
    · replace hr := zif_t hr c3
      obtain rfl := Option.some.inj hr
      exact KF ls _ _ (lv_sub hl [] rfl) I
    · replace hr := zif_f hr c3
      refine lv_aload_n hx hb dX5_forget_18 rfl (lv_at hl 0 rfl) ?_
      refine zgetR (j := (i0 + 24)) M I h0 zfl_X5_48 dX5_forget_19 rfl ?_
      refine lv_iload_n hx hb dX5_forget_22 rfl (lv_at hl 1 rfl) ?_
      refine lv_iconst (v := (-1 : Int32)) hx hb dX5_forget_23 (by decide) ?_
      obtain ⟨x1, e_x1, hr⟩ := zb_some hr
      refine zcallU M I (zrunV (as := [.int v1, .int (-1 : Int32)]) M I (c_X1_store l g fu (zs_5_6 h0) e_x1) (zs_5_6 h0) zK1.1 (by decide) zlv_X5_106 ⟨Nat.le_of_ble_eq_true rfl, Nat.le_of_ble_eq_true rfl⟩ ⟨Nat.zero_le _, Nat.zero_le _⟩ rfl rfl (Nat.le_of_ble_eq_true rfl) hl.1 dX5_forget_24) (fun H locs I => ?_)
      refine lv_aload_n hx hb dX5_forget_27 rfl (lv_at hl 0 rfl) ?_
      refine zgetR (j := (i0 + 26)) M I h0 zfl_X5_51 dX5_forget_28 rfl ?_
      refine lv_iload_n hx hb dX5_forget_31 rfl (lv_at hl 1 rfl) ?_
      refine lv_iconst (v := (-1 : Int32)) hx hb dX5_forget_32 (by decide) ?_
      obtain ⟨x2, e_x2, hr⟩ := zb_some hr
      refine zcallU M I (zrunV (as := [.int v1, .int (-1 : Int32)]) M I (c_X1_store l g fu (zs_5_7 h0) e_x2) (zs_5_7 h0) zK1.1 (by decide) zlv_X5_106 ⟨Nat.le_of_ble_eq_true rfl, Nat.le_of_ble_eq_true rfl⟩ ⟨Nat.zero_le _, Nat.zero_le _⟩ rfl rfl (Nat.le_of_ble_eq_true rfl) hl.1 dX5_forget_33) (fun H locs I => ?_)
      refine lv_iinc (lv' := [(1, .int (v1 + 1)), (0, .ref (zA g i0))]) (k := 1) (v := (v1 + 1)) hx hb dX5_forget_36 hl rfl (zi_1 _) (by decide) rfl (fun ls hl => ?_)
      refine lv_goto (tgt := 12) hx hb dX5_forget_39 (by decide) ?_
      exact ih _ _  _ hr ls _ _ (lv_sub hl [1, 0] rfl) I KF
def m_X5_forget (fu : Nat) (σ : zmem) (i0 : Nat) : Option (zmem) := (l_X5_forget_12 fu i0 fu (0 : Int32) (zst (zst σ i0 2 (0 : Int32)) i0 3 (0 : Int32))).bind fun x4 => some x4
set_option maxHeartbeats 4000000 in
set_option maxRecDepth 100000 in
theorem c_X5_forget (l : Launch) (g : zgeo) (fu : Nat) {σ : zmem} {i0 : Nat} {r : zmem} (h0 : zkd i0 = (5, 0)) (hr : m_X5_forget fu σ i0 = some r) : zCt (zQV g r) l g yX5_forget cX5_forget 2 none 1 22 [.ref (zA g i0)] σ := by
  refine zopen (by decide) (Nat.le_of_ble_eq_true rfl) ?_
  intro p e s m below meth c M ls hl I
  have M : zMC RX5 cX5_forget 2 none g p m c s ([.ref (zA g i0)] : List Value).toArray meth := M
  have hl : lv_has ls 2 [(0, .ref (zA g i0))] := hl
  generalize ([.ref (zA g i0)] : List Value).toArray = args at M ⊢
  have hx := M.1.1
  have hb := M.1.2.1
  unfold m_X5_forget at hr
  refine lv_aload_n hx hb dX5_forget_0 rfl (lv_at hl 0 rfl) ?_
  refine lv_iconst (v := (0 : Int32)) hx hb dX5_forget_1 (by decide) ?_
  refine zputI M I h0 zfw_X5_25 dX5_forget_2 (fun H locs I => ?_)
  refine lv_aload_n hx hb dX5_forget_5 rfl (lv_at hl 0 rfl) ?_
  refine lv_iconst (v := (0 : Int32)) hx hb dX5_forget_6 (by decide) ?_
  refine zputI M I h0 zfw_X5_29 dX5_forget_7 (fun H locs I => ?_)
  refine lv_iconst (v := (0 : Int32)) hx hb dX5_forget_10 (by decide) ?_
  refine lv_istore_n (lv' := [(1, .int (0 : Int32)), (0, .ref (zA g i0))]) hx hb dX5_forget_11 rfl hl (by decide) rfl (fun ls hl => ?_)
  obtain ⟨x4, e_x4, hr⟩ := zb_some hr
  refine k_X5_forget_12 M h0 fu _ _  _ e_x4 ls _ _ (lv_sub hl [1, 0] rfl) I (fun ls H locs hl I => ?_)
  obtain rfl := Option.some.inj hr
  exact zretV M I dX5_forget_42
def m_X5_pairPlaces (fu : Nat) (σ : zmem) (i0 : Nat) (a1 : Int32) (a2 : Int32) : Option (zmem) := (m_X1_store fu σ (i0 + 24) a1 a2).bind fun x1 => (m_X1_store fu x1 (i0 + 26) a2 a1).bind fun x2 => some x2
set_option maxHeartbeats 4000000 in
set_option maxRecDepth 100000 in
theorem c_X5_pairPlaces (l : Launch) (g : zgeo) (fu : Nat) {σ : zmem} {i0 : Nat} {a1 : Int32} {a2 : Int32} {r : zmem} (h0 : zkd i0 = (5, 0)) (hr : m_X5_pairPlaces fu σ i0 a1 a2 = some r) : zCt (zQV g r) l g yX5_pairPlaces cX5_pairPlaces 3 none 1 22 [.ref (zA g i0), .int a1, .int a2] σ := by
  refine zopen (by decide) (Nat.le_of_ble_eq_true rfl) ?_
  intro p e s m below meth c M ls hl I
  have M : zMC RX5 cX5_pairPlaces 3 none g p m c s ([.ref (zA g i0), .int a1, .int a2] : List Value).toArray meth := M
  have hl : lv_has ls 3 [(0, .ref (zA g i0)), (1, .int a1), (2, .int a2)] := hl
  generalize ([.ref (zA g i0), .int a1, .int a2] : List Value).toArray = args at M ⊢
  have hx := M.1.1
  have hb := M.1.2.1
  unfold m_X5_pairPlaces at hr
  refine lv_aload_n hx hb dX5_pairPlaces_0 rfl (lv_at hl 0 rfl) ?_
  refine zgetR (j := (i0 + 24)) M I h0 zfl_X5_48 dX5_pairPlaces_1 rfl ?_
  refine lv_iload_n hx hb dX5_pairPlaces_4 rfl (lv_at hl 1 rfl) ?_
  refine lv_iload_n hx hb dX5_pairPlaces_5 rfl (lv_at hl 2 rfl) ?_
  obtain ⟨x1, e_x1, hr⟩ := zb_some hr
  refine zcallU M I (zrunV (as := [.int a1, .int a2]) M I (c_X1_store l g fu (zs_5_6 h0) e_x1) (zs_5_6 h0) zK1.1 (by decide) zlv_X5_106 ⟨Nat.le_of_ble_eq_true rfl, Nat.le_of_ble_eq_true rfl⟩ ⟨Nat.zero_le _, Nat.zero_le _⟩ rfl rfl (Nat.le_of_ble_eq_true rfl) hl.1 dX5_pairPlaces_6) (fun H locs I => ?_)
  refine lv_aload_n hx hb dX5_pairPlaces_9 rfl (lv_at hl 0 rfl) ?_
  refine zgetR (j := (i0 + 26)) M I h0 zfl_X5_51 dX5_pairPlaces_10 rfl ?_
  refine lv_iload_n hx hb dX5_pairPlaces_13 rfl (lv_at hl 2 rfl) ?_
  refine lv_iload_n hx hb dX5_pairPlaces_14 rfl (lv_at hl 1 rfl) ?_
  obtain ⟨x2, e_x2, hr⟩ := zb_some hr
  refine zcallU M I (zrunV (as := [.int a2, .int a1]) M I (c_X1_store l g fu (zs_5_7 h0) e_x2) (zs_5_7 h0) zK1.1 (by decide) zlv_X5_106 ⟨Nat.le_of_ble_eq_true rfl, Nat.le_of_ble_eq_true rfl⟩ ⟨Nat.zero_le _, Nat.zero_le _⟩ rfl rfl (Nat.le_of_ble_eq_true rfl) hl.1 dX5_pairPlaces_15) (fun H locs I => ?_)
  obtain rfl := Option.some.inj hr
  exact zretV M I dX5_pairPlaces_18
def l_X5_pairGap_20 (fu : Nat) (i0 : Nat) : Nat → Int32 → Int32 → Int32 → zmem → Option (zmem)
  | 0, _, _, _, _ => none
  | n + 1, v1, v2, v3, σ => (if v3 ≤ 0 then some σ else (if v1 ≤ 0 then some σ else (if v2 ≤ 0 then some σ else (m_X3_stepAt fu σ (i0 + 19) v1 v2).bind fun x1 => ((if ¬ x1 = (2 : Int32) then some (1 : Int32) else some (0 : Int32)) : Option (Int32)).bind fun x2 => ((if ¬ x1 = (1 : Int32) then some (1 : Int32) else some (0 : Int32)) : Option (Int32)).bind fun x3 => ((if ¬ x1 = 0 then some σ else (m_X5_pairPlaces fu σ i0 ((σ.1 (i0 + 19) 2) + (v1 - x2)) ((σ.1 (i0 + 19) 4) + (v2 - x3))).bind fun x5 => some x5) : Option (zmem)).bind fun x4 => l_X5_pairGap_20 fu i0 n (v1 - x2) (v2 - x3) (v3 - 1) x4)))
set_option maxHeartbeats 4000000 in
set_option maxRecDepth 100000 in
theorem k_X5_pairGap_20 {l : Launch} {g : zgeo} {fu : Nat} {p : Program} {e : Env} {s : State} {m : MethodId} {args : Array Value} {below : List Frame} {meth : Method} {c : Code} (M : zMC RX5 cX5_pairGap 5 none g p m c s args meth) {i0 : Nat} (h0 : zkd i0 = (5, 0)) {Q : State → Prop} : ∀ (n : Nat) (v1 : Int32) (v2 : Int32) (v3 : Int32) (σ : zmem) (o : zmem), l_X5_pairGap_20 fu i0 n v1 v2 v3 σ = some o → ∀ (ls : Array Slot) (H : Heap) (locs : List Loc), lv_has ls 5 [(0, .ref (zA g i0)), (1, .int v1), (2, .int v2), (3, .int v3)] → zIV g σ (zAA g) s.heap H locs → (∀ (ls : Array Slot) (H : Heap) (locs : List Loc), lv_has ls 5 [] → zIV g o (zAA g) s.heap H locs → W p l e (zrm 2 44) s m args below meth c H locs 0 0 Q (F0 m 104 ls [])) → W p l e (zrm 2 44) s m args below meth c H locs 0 0 Q (F0 m 20 ls []) := by
  have hx := M.1.1
  have hb := M.1.2.1
  intro n
  induction n with
  | zero =>
    intro v1 v2 v3 σ o hr ls H locs hl I KF
    have hr : (none : Option (zmem)) = some o := hr
    cases hr
  | succ n ih =>
    intro v1 v2 v3 σ o hr ls H locs hl I KF
    rw [l_X5_pairGap_20] at hr
    refine lv_iload_n hx hb dX5_pairGap_20 rfl (lv_at hl 3 rfl) ?_
    refine lv_if_le (tgt := 104) hx hb dX5_pairGap_21 (by decide) (fun c11 => ?_) (fun c11 => ?_)
    · replace hr := zif_t hr c11
      obtain rfl := Option.some.inj hr
      exact KF ls _ _ (lv_sub hl [] rfl) I
    · replace hr := zif_f hr c11
      refine lv_iload_n hx hb dX5_pairGap_24 rfl (lv_at hl 1 rfl) ?_
      refine lv_if_le (tgt := 104) hx hb dX5_pairGap_25 (by decide) (fun c10 => ?_) (fun c10 => ?_)
      · replace hr := zif_t hr c10
        obtain rfl := Option.some.inj hr
        exact KF ls _ _ (lv_sub hl [] rfl) I
      · replace hr := zif_f hr c10
        refine lv_iload_n hx hb dX5_pairGap_28 rfl (lv_at hl 2 rfl) ?_
        refine lv_if_le (tgt := 104) hx hb dX5_pairGap_29 (by decide) (fun c9 => ?_) (fun c9 => ?_)
        · replace hr := zif_t hr c9
          obtain rfl := Option.some.inj hr
          exact KF ls _ _ (lv_sub hl [] rfl) I
        · replace hr := zif_f hr c9
          refine lv_aload_n hx hb dX5_pairGap_32 rfl (lv_at hl 0 rfl) ?_
          refine zgetR (j := (i0 + 19)) M I h0 zfl_X5_35 dX5_pairGap_33 rfl ?_
          refine lv_iload_n hx hb dX5_pairGap_36 rfl (lv_at hl 1 rfl) ?_
          refine lv_iload_n hx hb dX5_pairGap_37 rfl (lv_at hl 2 rfl) ?_
          obtain ⟨x1, e_x1, hr⟩ := zb_some hr
          refine zcallI M I (zrunV (as := [.int v1, .int v2]) M I (c_X3_stepAt l g fu (zs_5_4 h0) e_x1) (zs_5_4 h0) zK3.1 (by decide) zlv_X5_141 ⟨Nat.le_of_ble_eq_true rfl, Nat.le_of_ble_eq_true rfl⟩ ⟨Nat.zero_le _, Nat.zero_le _⟩ rfl rfl (Nat.le_of_ble_eq_true rfl) hl.1 dX5_pairGap_38) (fun H locs I => ?_)
          refine lv_istore (lv' := [(4, .int x1), (0, .ref (zA g i0)), (1, .int v1), (2, .int v2), (3, .int v3)]) hx hb dX5_pairGap_41 hl (by decide) rfl (fun ls hl => ?_)
          refine lv_iload_n hx hb dX5_pairGap_43 rfl (lv_at hl 2 rfl) ?_
          refine lv_iload hx hb dX5_pairGap_44 (lv_at hl 0 rfl) ?_
          refine lv_iconst (v := (2 : Int32)) hx hb dX5_pairGap_46 (by decide) ?_
          obtain ⟨x2, e_x2, hr⟩ := zb_some hr
          have K_x2 : ∀ (ls : Array Slot) (H : Heap) (locs : List Loc), lv_has ls 5 [(0, .ref (zA g i0)), (2, .int v2), (3, .int v3), (4, .int x1)] → zIV g σ (zAA g) s.heap H locs → W p l e (zrm 2 44) s m args below meth c H locs 0 0 Q (F0 m 55 ls [.int x2, .int v1]) := by
            intro ls H locs hl I
            refine lv_isub hx hb dX5_pairGap_55 ?_
            refine lv_istore_n (lv' := [(1, .int (v1 - x2)), (0, .ref (zA g i0)), (2, .int v2), (3, .int v3), (4, .int x1)]) hx hb dX5_pairGap_56 rfl hl (by decide) rfl (fun ls hl => ?_)
            refine lv_iload_n hx hb dX5_pairGap_57 rfl (lv_at hl 2 rfl) ?_
            refine lv_iload hx hb dX5_pairGap_58 (lv_at hl 4 rfl) ?_
            refine lv_iconst (v := (1 : Int32)) hx hb dX5_pairGap_60 (by decide) ?_
            obtain ⟨x3, e_x3, hr⟩ := zb_some hr
            have K_x3 : ∀ (ls : Array Slot) (H : Heap) (locs : List Loc), lv_has ls 5 [(0, .ref (zA g i0)), (1, .int (v1 - x2)), (3, .int v3), (4, .int x1)] → zIV g σ (zAA g) s.heap H locs → W p l e (zrm 2 44) s m args below meth c H locs 0 0 Q (F0 m 69 ls [.int x3, .int v2]) := by
              intro ls H locs hl I
              refine lv_isub hx hb dX5_pairGap_69 ?_
              refine lv_istore_n (lv' := [(2, .int (v2 - x3)), (0, .ref (zA g i0)), (1, .int (v1 - x2)), (3, .int v3), (4, .int x1)]) hx hb dX5_pairGap_70 rfl hl (by decide) rfl (fun ls hl => ?_)
              refine lv_iload hx hb dX5_pairGap_71 (lv_at hl 4 rfl) ?_
              obtain ⟨x4, e_x4, hr⟩ := zb_some hr
              have K_x4 : ∀ (ls : Array Slot) (H : Heap) (locs : List Loc), lv_has ls 5 [(0, .ref (zA g i0)), (1, .int (v1 - x2)), (2, .int (v2 - x3)), (3, .int v3)] → zIV g x4 (zAA g) s.heap H locs → W p l e (zrm 2 44) s m args below meth c H locs 0 0 Q (F0 m 98 ls []) := by
                intro ls H locs hl I
                refine lv_iinc (lv' := [(3, .int (v3 - 1)), (0, .ref (zA g i0)), (1, .int (v1 - x2)), (2, .int (v2 - x3))]) (k := 3) (v := (v3 - 1)) hx hb dX5_pairGap_98 hl rfl (zi_m1 _) (by decide) rfl (fun ls hl => ?_)
                refine lv_goto (tgt := 20) hx hb dX5_pairGap_101 (by decide) ?_
                exact ih _ _ _ _  _ hr ls _ _ (lv_sub hl [1, 2, 3, 0] rfl) I KF
              refine lv_if_ne (tgt := 98) hx hb dX5_pairGap_73 (by decide) (fun c6 => ?_) (fun c6 => ?_)
              · replace e_x4 := zif_t e_x4 c6
                obtain rfl := Option.some.inj e_x4
                exact K_x4 ls _ _ (lv_sub hl [1, 2, 0, 3] rfl) I
              · replace e_x4 := zif_f e_x4 (fun hq => hq c6)
                refine lv_aload_n hx hb dX5_pairGap_76 rfl (lv_at hl 1 rfl) ?_
                refine lv_aload_n hx hb dX5_pairGap_77 rfl (lv_at hl 1 rfl) ?_
                refine zgetR (j := (i0 + 19)) M I h0 zfl_X5_35 dX5_pairGap_78 rfl ?_
                refine zgetI M I (zs_5_4 h0) zfl_X5_144 dX5_pairGap_81 ?_
                refine lv_iload_n hx hb dX5_pairGap_84 rfl (lv_at hl 2 rfl) ?_
                refine lv_iadd hx hb dX5_pairGap_85 ?_
                refine lv_aload_n hx hb dX5_pairGap_86 rfl (lv_at hl 1 rfl) ?_
                refine zgetR (j := (i0 + 19)) M I h0 zfl_X5_35 dX5_pairGap_87 rfl ?_
                refine zgetI M I (zs_5_4 h0) zfl_X5_147 dX5_pairGap_90 ?_
                refine lv_iload_n hx hb dX5_pairGap_93 rfl (lv_at hl 0 rfl) ?_
                refine lv_iadd hx hb dX5_pairGap_94 ?_
                obtain ⟨x5, e_x5, e_x4⟩ := zb_some e_x4
                refine zcallU M I (zrunV (as := [.int ((σ.1 (i0 + 19) 2) + (v1 - x2)), .int ((σ.1 (i0 + 19) 4) + (v2 - x3))]) M I (c_X5_pairPlaces l g fu h0 e_x5) h0 zK5.1 (by decide) zlv_X5_109 ⟨Nat.le_of_ble_eq_true rfl, Nat.le_of_ble_eq_true rfl⟩ ⟨Nat.zero_le _, Nat.zero_le _⟩ rfl rfl (Nat.le_of_ble_eq_true rfl) hl.1 dX5_pairGap_95) (fun H locs I => ?_)
                obtain rfl := Option.some.inj e_x4
                exact K_x4 ls _ _ (lv_sub hl [1, 2, 0, 3] rfl) I
            refine lv_icmp_ne (tgt := 68) hx hb dX5_pairGap_61 (by decide) (fun c7 => ?_) (fun c7 => ?_)
            · replace e_x3 := zif_t e_x3 c7
              refine lv_iconst (v := (1 : Int32)) hx hb dX5_pairGap_68 (by decide) ?_
              obtain rfl := Option.some.inj e_x3
              exact K_x3 ls _ _ (lv_sub hl [1, 0, 3, 4] rfl) I
            · replace e_x3 := zif_f e_x3 (fun hq => hq c7)
              refine lv_iconst (v := (0 : Int32)) hx hb dX5_pairGap_64 (by decide) ?_
              refine lv_goto (tgt := 69) hx hb dX5_pairGap_65 (by decide) ?_
              obtain rfl := Option.some.inj e_x3
              exact K_x3 ls _ _ (lv_sub hl [1, 0, 3, 4] rfl) I
          refine lv_icmp_ne (tgt := 54) hx hb dX5_pairGap_47 (by decide) (fun c8 => ?_) (fun c8 => ?_)
          · replace e_x2 := zif_t e_x2 c8
            refine lv_iconst (v := (1 : Int32)) hx hb dX5_pairGap_54 (by decide) ?_
            obtain rfl := Option.some.inj e_x2
            exact K_x2 ls _ _ (lv_sub hl [1, 3, 4, 0] rfl) I
          · replace e_x2 := zif_f e_x2 (fun hq => hq c8)
            refine lv_iconst (v := (0 : Int32)) hx hb dX5_pairGap_50 (by decide) ?_
            refine lv_goto (tgt := 55) hx hb dX5_pairGap_51 (by decide) ?_
            obtain rfl := Option.some.inj e_x2
            exact K_x2 ls _ _ (lv_sub hl [1, 3, 4, 0] rfl) I
def m_X5_pairGap (fu : Nat) (σ : zmem) (i0 : Nat) : Option (zmem) := (l_X5_pairGap_20 fu i0 fu (σ.1 (i0 + 19) 3) (σ.1 (i0 + 19) 5) ((σ.1 (i0 + 19) 3) + (σ.1 (i0 + 19) 5)) σ).bind fun x12 => some x12
set_option maxHeartbeats 4000000 in
set_option maxRecDepth 100000 in
theorem c_X5_pairGap (l : Launch) (g : zgeo) (fu : Nat) {σ : zmem} {i0 : Nat} {r : zmem} (h0 : zkd i0 = (5, 0)) (hr : m_X5_pairGap fu σ i0 = some r) : zCt (zQV g r) l g yX5_pairGap cX5_pairGap 5 none 2 44 [.ref (zA g i0)] σ := by
  refine zopen (by decide) (Nat.le_of_ble_eq_true rfl) ?_
  intro p e s m below meth c M ls hl I
  have M : zMC RX5 cX5_pairGap 5 none g p m c s ([.ref (zA g i0)] : List Value).toArray meth := M
  have hl : lv_has ls 5 [(0, .ref (zA g i0))] := hl
  generalize ([.ref (zA g i0)] : List Value).toArray = args at M ⊢
  have hx := M.1.1
  have hb := M.1.2.1
  unfold m_X5_pairGap at hr
  refine lv_aload_n hx hb dX5_pairGap_0 rfl (lv_at hl 0 rfl) ?_
  refine zgetR (j := (i0 + 19)) M I h0 zfl_X5_35 dX5_pairGap_1 rfl ?_
  refine zgetI M I (zs_5_4 h0) zfl_X5_135 dX5_pairGap_4 ?_
  refine lv_istore_n (lv' := [(1, .int (σ.1 (i0 + 19) 3)), (0, .ref (zA g i0))]) hx hb dX5_pairGap_7 rfl hl (by decide) rfl (fun ls hl => ?_)
  refine lv_aload_n hx hb dX5_pairGap_8 rfl (lv_at hl 1 rfl) ?_
  refine zgetR (j := (i0 + 19)) M I h0 zfl_X5_35 dX5_pairGap_9 rfl ?_
  refine zgetI M I (zs_5_4 h0) zfl_X5_138 dX5_pairGap_12 ?_
  refine lv_istore_n (lv' := [(2, .int (σ.1 (i0 + 19) 5)), (1, .int (σ.1 (i0 + 19) 3)), (0, .ref (zA g i0))]) hx hb dX5_pairGap_15 rfl hl (by decide) rfl (fun ls hl => ?_)
  refine lv_iload_n hx hb dX5_pairGap_16 rfl (lv_at hl 1 rfl) ?_
  refine lv_iload_n hx hb dX5_pairGap_17 rfl (lv_at hl 0 rfl) ?_
  refine lv_iadd hx hb dX5_pairGap_18 ?_
  refine lv_istore_n (lv' := [(3, .int ((σ.1 (i0 + 19) 3) + (σ.1 (i0 + 19) 5))), (2, .int (σ.1 (i0 + 19) 5)), (1, .int (σ.1 (i0 + 19) 3)), (0, .ref (zA g i0))]) hx hb dX5_pairGap_19 rfl hl (by decide) rfl (fun ls hl => ?_)
  obtain ⟨x12, e_x12, hr⟩ := zb_some hr
  refine k_X5_pairGap_20 M h0 fu _ _ _ _  _ e_x12 ls _ _ (lv_sub hl [3, 2, 1, 0] rfl) I (fun ls H locs hl I => ?_)
  obtain rfl := Option.some.inj hr
  exact zretV M I dX5_pairGap_104
def m_X5_closeGap (fu : Nat) (σ : zmem) (i0 : Nat) (i1 : Nat) (a2 : Int32) (a3 : Int32) (a4 : Int32) (a5 : Int32) : Option (zmem) := (m_X3_layParts fu σ (i0 + 19) a2 (a3 - a2) a4 (a5 - a4)).bind fun x1 => (m_X1_at fu x1 (i1 + 5) (3 : Int32)).bind fun x2 => (m_X3_fill fu x1 (i0 + 19) i1 (zmax x2 (zabs ((a3 - a2) - (a5 - a4))))).bind fun x3 => (m_X5_pairGap fu x3.2 i0).bind fun x4 => (m_X1_store fu x4 (i0 + 22) ((x4.1 i0 2) * (5 : Int32)) a2).bind fun x5 => (m_X1_store fu x5 (i0 + 22) (((x4.1 i0 2) * (5 : Int32)) + (1 : Int32)) (a3 - a2)).bind fun x6 => (m_X1_store fu x6 (i0 + 22) (((x4.1 i0 2) * (5 : Int32)) + (2 : Int32)) a4).bind fun x7 => (m_X1_store fu x7 (i0 + 22) (((x4.1 i0 2) * (5 : Int32)) + (3 : Int32)) (a5 - a4)).bind fun x8 => (m_X1_store fu x8 (i0 + 22) (((x4.1 i0 2) * (5 : Int32)) + (4 : Int32)) x3.1).bind fun x9 => some (zst (zst x9 i0 2 ((x9.1 i0 2) + (1 : Int32))) i0 3 (((zst x9 i0 2 ((x9.1 i0 2) + (1 : Int32))).1 i0 3) + x3.1))
set_option maxHeartbeats 4000000 in
set_option maxRecDepth 100000 in
theorem c_X5_closeGap (l : Launch) (g : zgeo) (fu : Nat) {σ : zmem} {i0 : Nat} {i1 : Nat} {a2 : Int32} {a3 : Int32} {a4 : Int32} {a5 : Int32} {r : zmem} (h0 : zkd i0 = (5, 0)) (h1 : zkd i1 = (7, 0)) (hr : m_X5_closeGap fu σ i0 i1 a2 a3 a4 a5 = some r) : zCt (zQV g r) l g yX5_closeGap cX5_closeGap 11 none 3 77 [.ref (zA g i0), .ref (zA g i1), .int a2, .int a3, .int a4, .int a5] σ := by
  refine zopen (by decide) (Nat.le_of_ble_eq_true rfl) ?_
  intro p e s m below meth c M ls hl I
  have M : zMC RX5 cX5_closeGap 11 none g p m c s ([.ref (zA g i0), .ref (zA g i1), .int a2, .int a3, .int a4, .int a5] : List Value).toArray meth := M
  have hl : lv_has ls 11 [(0, .ref (zA g i0)), (1, .ref (zA g i1)), (2, .int a2), (3, .int a3), (4, .int a4), (5, .int a5)] := hl
  generalize ([.ref (zA g i0), .ref (zA g i1), .int a2, .int a3, .int a4, .int a5] : List Value).toArray = args at M ⊢
  have hx := M.1.1
  have hb := M.1.2.1
  unfold m_X5_closeGap at hr
  refine lv_iload_n hx hb dX5_closeGap_0 rfl (lv_at hl 3 rfl) ?_
  refine lv_iload_n hx hb dX5_closeGap_1 rfl (lv_at hl 2 rfl) ?_
  refine lv_isub hx hb dX5_closeGap_2 ?_
  refine lv_istore (lv' := [(6, .int (a3 - a2)), (0, .ref (zA g i0)), (1, .ref (zA g i1)), (2, .int a2), (3, .int a3), (4, .int a4), (5, .int a5)]) hx hb dX5_closeGap_3 hl (by decide) rfl (fun ls hl => ?_)
  refine lv_iload hx hb dX5_closeGap_5 (lv_at hl 6 rfl) ?_
  refine lv_iload hx hb dX5_closeGap_7 (lv_at hl 5 rfl) ?_
  refine lv_isub hx hb dX5_closeGap_9 ?_
  refine lv_istore (lv' := [(7, .int (a5 - a4)), (6, .int (a3 - a2)), (0, .ref (zA g i0)), (1, .ref (zA g i1)), (2, .int a2), (3, .int a3), (4, .int a4), (5, .int a5)]) hx hb dX5_closeGap_10 hl (by decide) rfl (fun ls hl => ?_)
  refine lv_aload_n hx hb dX5_closeGap_12 rfl (lv_at hl 2 rfl) ?_
  refine zgetR (j := (i0 + 19)) M I h0 zfl_X5_35 dX5_closeGap_13 rfl ?_
  refine lv_iload_n hx hb dX5_closeGap_16 rfl (lv_at hl 4 rfl) ?_
  refine lv_iload hx hb dX5_closeGap_17 (lv_at hl 1 rfl) ?_
  refine lv_iload hx hb dX5_closeGap_19 (lv_at hl 6 rfl) ?_
  refine lv_iload hx hb dX5_closeGap_21 (lv_at hl 0 rfl) ?_
  obtain ⟨x1, e_x1, hr⟩ := zb_some hr
  refine zcallU M I (zrunV (as := [.int a2, .int (a3 - a2), .int a4, .int (a5 - a4)]) M I (c_X3_layParts l g fu (zs_5_4 h0) e_x1) (zs_5_4 h0) zK3.1 (by decide) zlv_X5_112 ⟨Nat.le_of_ble_eq_true rfl, Nat.le_of_ble_eq_true rfl⟩ ⟨Nat.zero_le _, Nat.zero_le _⟩ rfl rfl (Nat.le_of_ble_eq_true rfl) hl.1 dX5_closeGap_23) (fun H locs I => ?_)
  refine lv_aload_n hx hb dX5_closeGap_26 rfl (lv_at hl 3 rfl) ?_
  refine zgetR (j := (i1 + 5)) M I h1 zfl_X5_116 dX5_closeGap_27 rfl ?_
  refine lv_iconst (v := (3 : Int32)) hx hb dX5_closeGap_30 (by decide) ?_
  obtain ⟨x2, e_x2, hr⟩ := zb_some hr
  refine zcallI M I (zrunV (as := [.int (3 : Int32)]) M I (c_X1_at l g fu (zs_7_2 h1) e_x2) (zs_7_2 h1) zK1.1 (by decide) zlv_X5_73 ⟨Nat.le_of_ble_eq_true rfl, Nat.le_of_ble_eq_true rfl⟩ ⟨Nat.zero_le _, Nat.zero_le _⟩ rfl rfl (Nat.le_of_ble_eq_true rfl) hl.1 dX5_closeGap_31) (fun H locs I => ?_)
  refine lv_iload hx hb dX5_closeGap_34 (lv_at hl 1 rfl) ?_
  refine lv_iload hx hb dX5_closeGap_36 (lv_at hl 0 rfl) ?_
  refine lv_isub hx hb dX5_closeGap_38 ?_
  refine va_mabs (own := RX5) hx hb (M.1.2.2.1.trans hl.1.symm) M.1.2.2.2.1 (M.1.2.2.2.2 _ (zin (i := 491) (by decide +kernel) rfl)) (M.1.2.2.2.2 _ (zin (i := 492) (by decide +kernel) rfl)) (M.1.2.2.2.2 _ (zin (i := 86) (by decide +kernel) rfl)) (M.1.2.2.2.2 _ (zin (i := 493) (by decide +kernel) rfl)) (Nat.le_of_ble_eq_true rfl) (Nat.le_of_ble_eq_true rfl) (Nat.zero_le _) (Nat.zero_le _) dX5_closeGap_39 ?_
  refine va_mmax (own := RX5) hx hb (M.1.2.2.1.trans hl.1.symm) M.1.2.2.2.1 (M.1.2.2.2.2 _ (zin (i := 494) (by decide +kernel) rfl)) (M.1.2.2.2.2 _ (zin (i := 434) (by decide +kernel) rfl)) (M.1.2.2.2.2 _ (zin (i := 86) (by decide +kernel) rfl)) (M.1.2.2.2.2 _ (zin (i := 435) (by decide +kernel) rfl)) (Nat.le_of_ble_eq_true rfl) (Nat.le_of_ble_eq_true rfl) (Nat.zero_le _) (Nat.zero_le _) dX5_closeGap_42 ?_
  refine lv_istore (lv' := [(8, .int (zmax x2 (zabs ((a3 - a2) - (a5 - a4))))), (7, .int (a5 - a4)), (6, .int (a3 - a2)), (0, .ref (zA g i0)), (1, .ref (zA g i1)), (2, .int a2), (3, .int a3), (4, .int a4), (5, .int a5)]) hx hb dX5_closeGap_45 hl (by decide) rfl (fun ls hl => ?_)
  refine lv_aload_n hx hb dX5_closeGap_47 rfl (lv_at hl 3 rfl) ?_
  refine zgetR (j := (i0 + 19)) M I h0 zfl_X5_35 dX5_closeGap_48 rfl ?_
  refine lv_aload_n hx hb dX5_closeGap_51 rfl (lv_at hl 4 rfl) ?_
  refine lv_iload hx hb dX5_closeGap_52 (lv_at hl 0 rfl) ?_
  obtain ⟨x3, e_x3, hr⟩ := zb_some hr
  refine zcallI M I (zrunV (as := [.ref (zA g i1), .int (zmax x2 (zabs ((a3 - a2) - (a5 - a4))))]) M I (c_X3_fill l g fu (zs_5_4 h0) h1 e_x3) (zs_5_4 h0) zK3.1 (by decide) zlv_X5_128 ⟨Nat.le_of_ble_eq_true rfl, Nat.le_of_ble_eq_true rfl⟩ ⟨Nat.zero_le _, Nat.zero_le _⟩ rfl rfl (Nat.le_of_ble_eq_true rfl) hl.1 dX5_closeGap_54) (fun H locs I => ?_)
  refine lv_istore (lv' := [(9, .int x3.1), (8, .int (zmax x2 (zabs ((a3 - a2) - (a5 - a4))))), (7, .int (a5 - a4)), (6, .int (a3 - a2)), (0, .ref (zA g i0)), (1, .ref (zA g i1)), (2, .int a2), (3, .int a3), (4, .int a4), (5, .int a5)]) hx hb dX5_closeGap_57 hl (by decide) rfl (fun ls hl => ?_)
  refine lv_aload_n hx hb dX5_closeGap_59 rfl (lv_at hl 4 rfl) ?_
  obtain ⟨x4, e_x4, hr⟩ := zb_some hr
  refine zcallU M I (zrunV (as := []) M I (c_X5_pairGap l g fu h0 e_x4) h0 zK5.1 (by decide) zlv_X5_132 ⟨Nat.le_of_ble_eq_true rfl, Nat.le_of_ble_eq_true rfl⟩ ⟨Nat.zero_le _, Nat.zero_le _⟩ rfl rfl (Nat.le_of_ble_eq_true rfl) hl.1 dX5_closeGap_60) (fun H locs I => ?_)
  refine lv_aload_n hx hb dX5_closeGap_63 rfl (lv_at hl 4 rfl) ?_
  refine zgetI M I h0 zfl_X5_25 dX5_closeGap_64 ?_
  refine lv_iconst (v := (5 : Int32)) hx hb dX5_closeGap_67 (by decide) ?_
  refine lv_imul hx hb dX5_closeGap_68 ?_
  refine lv_istore (lv' := [(10, .int ((x4.1 i0 2) * (5 : Int32))), (9, .int x3.1), (8, .int (zmax x2 (zabs ((a3 - a2) - (a5 - a4))))), (7, .int (a5 - a4)), (6, .int (a3 - a2)), (0, .ref (zA g i0)), (1, .ref (zA g i1)), (2, .int a2), (3, .int a3), (4, .int a4), (5, .int a5)]) hx hb dX5_closeGap_69 hl (by decide) rfl (fun ls hl => ?_)
  refine lv_aload_n hx hb dX5_closeGap_71 rfl (lv_at hl 5 rfl) ?_
  refine zgetR (j := (i0 + 22)) M I h0 zfl_X5_44 dX5_closeGap_72 rfl ?_
  refine lv_iload hx hb dX5_closeGap_75 (lv_at hl 0 rfl) ?_
  refine lv_iload_n hx hb dX5_closeGap_77 rfl (lv_at hl 7 rfl) ?_
  obtain ⟨x5, e_x5, hr⟩ := zb_some hr
  refine zcallU M I (zrunV (as := [.int ((x4.1 i0 2) * (5 : Int32)), .int a2]) M I (c_X1_store l g fu (zs_5_5 h0) e_x5) (zs_5_5 h0) zK1.1 (by decide) zlv_X5_106 ⟨Nat.le_of_ble_eq_true rfl, Nat.le_of_ble_eq_true rfl⟩ ⟨Nat.zero_le _, Nat.zero_le _⟩ rfl rfl (Nat.le_of_ble_eq_true rfl) hl.1 dX5_closeGap_78) (fun H locs I => ?_)
  refine lv_aload_n hx hb dX5_closeGap_81 rfl (lv_at hl 5 rfl) ?_
  refine zgetR (j := (i0 + 22)) M I h0 zfl_X5_44 dX5_closeGap_82 rfl ?_
  refine lv_iload hx hb dX5_closeGap_85 (lv_at hl 0 rfl) ?_
  refine lv_iconst (v := (1 : Int32)) hx hb dX5_closeGap_87 (by decide) ?_
  refine lv_iadd hx hb dX5_closeGap_88 ?_
  refine lv_iload hx hb dX5_closeGap_89 (lv_at hl 4 rfl) ?_
  obtain ⟨x6, e_x6, hr⟩ := zb_some hr
  refine zcallU M I (zrunV (as := [.int (((x4.1 i0 2) * (5 : Int32)) + (1 : Int32)), .int (a3 - a2)]) M I (c_X1_store l g fu (zs_5_5 h0) e_x6) (zs_5_5 h0) zK1.1 (by decide) zlv_X5_106 ⟨Nat.le_of_ble_eq_true rfl, Nat.le_of_ble_eq_true rfl⟩ ⟨Nat.zero_le _, Nat.zero_le _⟩ rfl rfl (Nat.le_of_ble_eq_true rfl) hl.1 dX5_closeGap_91) (fun H locs I => ?_)
  refine lv_aload_n hx hb dX5_closeGap_94 rfl (lv_at hl 5 rfl) ?_
  refine zgetR (j := (i0 + 22)) M I h0 zfl_X5_44 dX5_closeGap_95 rfl ?_
  refine lv_iload hx hb dX5_closeGap_98 (lv_at hl 0 rfl) ?_
  refine lv_iconst (v := (2 : Int32)) hx hb dX5_closeGap_100 (by decide) ?_
  refine lv_iadd hx hb dX5_closeGap_101 ?_
  refine lv_iload hx hb dX5_closeGap_102 (lv_at hl 9 rfl) ?_
  obtain ⟨x7, e_x7, hr⟩ := zb_some hr
  refine zcallU M I (zrunV (as := [.int (((x4.1 i0 2) * (5 : Int32)) + (2 : Int32)), .int a4]) M I (c_X1_store l g fu (zs_5_5 h0) e_x7) (zs_5_5 h0) zK1.1 (by decide) zlv_X5_106 ⟨Nat.le_of_ble_eq_true rfl, Nat.le_of_ble_eq_true rfl⟩ ⟨Nat.zero_le _, Nat.zero_le _⟩ rfl rfl (Nat.le_of_ble_eq_true rfl) hl.1 dX5_closeGap_104) (fun H locs I => ?_)
  refine lv_aload_n hx hb dX5_closeGap_107 rfl (lv_at hl 5 rfl) ?_
  refine zgetR (j := (i0 + 22)) M I h0 zfl_X5_44 dX5_closeGap_108 rfl ?_
  refine lv_iload hx hb dX5_closeGap_111 (lv_at hl 0 rfl) ?_
  refine lv_iconst (v := (3 : Int32)) hx hb dX5_closeGap_113 (by decide) ?_
  refine lv_iadd hx hb dX5_closeGap_114 ?_
  refine lv_iload hx hb dX5_closeGap_115 (lv_at hl 3 rfl) ?_
  obtain ⟨x8, e_x8, hr⟩ := zb_some hr
  refine zcallU M I (zrunV (as := [.int (((x4.1 i0 2) * (5 : Int32)) + (3 : Int32)), .int (a5 - a4)]) M I (c_X1_store l g fu (zs_5_5 h0) e_x8) (zs_5_5 h0) zK1.1 (by decide) zlv_X5_106 ⟨Nat.le_of_ble_eq_true rfl, Nat.le_of_ble_eq_true rfl⟩ ⟨Nat.zero_le _, Nat.zero_le _⟩ rfl rfl (Nat.le_of_ble_eq_true rfl) hl.1 dX5_closeGap_117) (fun H locs I => ?_)
  refine lv_aload_n hx hb dX5_closeGap_120 rfl (lv_at hl 5 rfl) ?_
  refine zgetR (j := (i0 + 22)) M I h0 zfl_X5_44 dX5_closeGap_121 rfl ?_
  refine lv_iload hx hb dX5_closeGap_124 (lv_at hl 0 rfl) ?_
  refine lv_iconst (v := (4 : Int32)) hx hb dX5_closeGap_126 (by decide) ?_
  refine lv_iadd hx hb dX5_closeGap_127 ?_
  refine lv_iload hx hb dX5_closeGap_128 (lv_at hl 1 rfl) ?_
  obtain ⟨x9, e_x9, hr⟩ := zb_some hr
  refine zcallU M I (zrunV (as := [.int (((x4.1 i0 2) * (5 : Int32)) + (4 : Int32)), .int x3.1]) M I (c_X1_store l g fu (zs_5_5 h0) e_x9) (zs_5_5 h0) zK1.1 (by decide) zlv_X5_106 ⟨Nat.le_of_ble_eq_true rfl, Nat.le_of_ble_eq_true rfl⟩ ⟨Nat.zero_le _, Nat.zero_le _⟩ rfl rfl (Nat.le_of_ble_eq_true rfl) hl.1 dX5_closeGap_130) (fun H locs I => ?_)
  refine lv_aload_n hx hb dX5_closeGap_133 rfl (lv_at hl 5 rfl) ?_
  refine lv_dup hx hb dX5_closeGap_134 rfl ?_
  refine zgetI M I h0 zfl_X5_25 dX5_closeGap_135 ?_
  refine lv_iconst (v := (1 : Int32)) hx hb dX5_closeGap_138 (by decide) ?_
  refine lv_iadd hx hb dX5_closeGap_139 ?_
  refine zputI M I h0 zfw_X5_25 dX5_closeGap_140 (fun H locs I => ?_)
  refine lv_aload_n hx hb dX5_closeGap_143 rfl (lv_at hl 5 rfl) ?_
  refine lv_dup hx hb dX5_closeGap_144 rfl ?_
  refine zgetI M I h0 zfl_X5_29 dX5_closeGap_145 ?_
  refine lv_iload hx hb dX5_closeGap_148 (lv_at hl 1 rfl) ?_
  refine lv_iadd hx hb dX5_closeGap_150 ?_
  refine zputI M I h0 zfw_X5_29 dX5_closeGap_151 (fun H locs I => ?_)
  obtain rfl := Option.some.inj hr
  exact zretV M I dX5_closeGap_154
def l_X5_pairWord_2 (fu : Nat) (i0 : Nat) (a1 : Int32) (a2 : Int32) : Nat → Int32 → zmem → Option (zmem)
  | 0, _, _ => none
  | n + 1, v3, σ => (if (σ.1 (i0 + 1) 3) ≤ v3 then some σ else (m_X5_pairPlaces fu σ i0 (a1 + v3) (a2 + v3)).bind fun x1 => l_X5_pairWord_2 fu i0 a1 a2 n (v3 + 1) x1)
set_option maxHeartbeats 4000000 in
set_option maxRecDepth 100000 in
theorem k_X5_pairWord_2 {l : Launch} {g : zgeo} {fu : Nat} {p : Program} {e : Env} {s : State} {m : MethodId} {args : Array Value} {below : List Frame} {meth : Method} {c : Code} (M : zMC RX5 cX5_pairWord 4 none g p m c s args meth) {i0 : Nat} {a1 : Int32} {a2 : Int32} (h0 : zkd i0 = (5, 0)) {Q : State → Prop} : ∀ (n : Nat) (v3 : Int32) (σ : zmem) (o : zmem), l_X5_pairWord_2 fu i0 a1 a2 n v3 σ = some o → ∀ (ls : Array Slot) (H : Heap) (locs : List Loc), lv_has ls 4 [(0, .ref (zA g i0)), (1, .int a1), (2, .int a2), (3, .int v3)] → zIV g σ (zAA g) s.heap H locs → (∀ (ls : Array Slot) (H : Heap) (locs : List Loc), lv_has ls 4 [] → zIV g o (zAA g) s.heap H locs → W p l e (zrm 2 44) s m args below meth c H locs 0 0 Q (F0 m 29 ls [])) → W p l e (zrm 2 44) s m args below meth c H locs 0 0 Q (F0 m 2 ls []) := by
  have hx := M.1.1
  have hb := M.1.2.1
  intro n
  induction n with
  | zero =>
    intro v3 σ o hr ls H locs hl I KF
    have hr : (none : Option (zmem)) = some o := hr
    cases hr
  | succ n ih =>
    intro v3 σ o hr ls H locs hl I KF
    rw [l_X5_pairWord_2] at hr
    refine lv_iload_n hx hb dX5_pairWord_2 rfl (lv_at hl 3 rfl) ?_
    refine lv_aload_n hx hb dX5_pairWord_3 rfl (lv_at hl 0 rfl) ?_
    refine zgetR (j := (i0 + 1)) M I h0 zfl_X5_12 dX5_pairWord_4 rfl ?_
    refine zgetI M I (zs_5_0 h0) zfl_X5_88 dX5_pairWord_7 ?_
    refine lv_icmp_ge (tgt := 29) hx hb dX5_pairWord_10 (by decide) (fun c2 => ?_) (fun c2 => ?_)
    · replace hr := zif_t hr c2
      obtain rfl := Option.some.inj hr
      exact KF ls _ _ (lv_sub hl [] rfl) I
    · replace hr := zif_f hr c2
      refine lv_aload_n hx hb dX5_pairWord_13 rfl (lv_at hl 0 rfl) ?_
      refine lv_iload_n hx hb dX5_pairWord_14 rfl (lv_at hl 1 rfl) ?_
      refine lv_iload_n hx hb dX5_pairWord_15 rfl (lv_at hl 3 rfl) ?_
      refine lv_iadd hx hb dX5_pairWord_16 ?_
      refine lv_iload_n hx hb dX5_pairWord_17 rfl (lv_at hl 2 rfl) ?_
      refine lv_iload_n hx hb dX5_pairWord_18 rfl (lv_at hl 3 rfl) ?_
      refine lv_iadd hx hb dX5_pairWord_19 ?_
      obtain ⟨x1, e_x1, hr⟩ := zb_some hr
      refine zcallU M I (zrunV (as := [.int (a1 + v3), .int (a2 + v3)]) M I (c_X5_pairPlaces l g fu h0 e_x1) h0 zK5.1 (by decide) zlv_X5_109 ⟨Nat.le_of_ble_eq_true rfl, Nat.le_of_ble_eq_true rfl⟩ ⟨Nat.zero_le _, Nat.zero_le _⟩ rfl rfl (Nat.le_of_ble_eq_true rfl) hl.1 dX5_pairWord_20) (fun H locs I => ?_)
      refine lv_iinc (lv' := [(3, .int (v3 + 1)), (0, .ref (zA g i0)), (1, .int a1), (2, .int a2)]) (k := 3) (v := (v3 + 1)) hx hb dX5_pairWord_23 hl rfl (zi_1 _) (by decide) rfl (fun ls hl => ?_)
      refine lv_goto (tgt := 2) hx hb dX5_pairWord_26 (by decide) ?_
      exact ih _ _  _ hr ls _ _ (lv_sub hl [1, 2, 3, 0] rfl) I KF
def m_X5_pairWord (fu : Nat) (σ : zmem) (i0 : Nat) (a1 : Int32) (a2 : Int32) : Option (zmem) := (l_X5_pairWord_2 fu i0 a1 a2 fu (0 : Int32) σ).bind fun x3 => some x3
set_option maxHeartbeats 4000000 in
set_option maxRecDepth 100000 in
theorem c_X5_pairWord (l : Launch) (g : zgeo) (fu : Nat) {σ : zmem} {i0 : Nat} {a1 : Int32} {a2 : Int32} {r : zmem} (h0 : zkd i0 = (5, 0)) (hr : m_X5_pairWord fu σ i0 a1 a2 = some r) : zCt (zQV g r) l g yX5_pairWord cX5_pairWord 4 none 2 44 [.ref (zA g i0), .int a1, .int a2] σ := by
  refine zopen (by decide) (Nat.le_of_ble_eq_true rfl) ?_
  intro p e s m below meth c M ls hl I
  have M : zMC RX5 cX5_pairWord 4 none g p m c s ([.ref (zA g i0), .int a1, .int a2] : List Value).toArray meth := M
  have hl : lv_has ls 4 [(0, .ref (zA g i0)), (1, .int a1), (2, .int a2)] := hl
  generalize ([.ref (zA g i0), .int a1, .int a2] : List Value).toArray = args at M ⊢
  have hx := M.1.1
  have hb := M.1.2.1
  unfold m_X5_pairWord at hr
  refine lv_iconst (v := (0 : Int32)) hx hb dX5_pairWord_0 (by decide) ?_
  refine lv_istore_n (lv' := [(3, .int (0 : Int32)), (0, .ref (zA g i0)), (1, .int a1), (2, .int a2)]) hx hb dX5_pairWord_1 rfl hl (by decide) rfl (fun ls hl => ?_)
  obtain ⟨x3, e_x3, hr⟩ := zb_some hr
  refine k_X5_pairWord_2 M h0 fu _ _  _ e_x3 ls _ _ (lv_sub hl [1, 2, 3, 0] rfl) I (fun ls H locs hl I => ?_)
  obtain rfl := Option.some.inj hr
  exact zretV M I dX5_pairWord_29
def l_X5_build_31 (fu : Nat) (i0 : Nat) (i1 : Nat) : Nat → Int32 → Int32 → Int32 → zmem → Option (Int32 × Int32 × zmem)
  | 0, _, _, _, _ => none
  | n + 1, v2, v3, v4, σ => (if (σ.1 (i0 + 10) 4) ≤ v4 then some (v2, v3, σ) else (m_X1_at fu σ (i0 + 11) v4).bind fun x4 => (m_X1_at fu σ (i0 + 2) x4).bind fun x5 => (m_X1_at fu σ (i0 + 11) v4).bind fun x6 => (m_X1_at fu σ (i0 + 4) x6).bind fun x7 => ((if v4 = 0 then (m_X5_closeGap fu σ i0 i1 v2 x5 v3 x7).bind fun x10 => some x10 else (if v2 < x5 then (m_X5_closeGap fu σ i0 i1 v2 x5 v3 x7).bind fun x11 => some x11 else (if x7 ≤ v3 then some σ else (m_X5_closeGap fu σ i0 i1 v2 x5 v3 x7).bind fun x12 => some x12))) : Option (zmem)).bind fun x8 => (m_X5_pairWord fu x8 i0 x5 x7).bind fun x9 => l_X5_build_31 fu i0 i1 n (x5 + (x9.1 (i0 + 1) 3)) (x7 + (x9.1 (i0 + 1) 3)) (v4 + 1) x9)
set_option maxHeartbeats 4000000 in
set_option maxRecDepth 100000 in
theorem k_X5_build_31 {l : Launch} {g : zgeo} {fu : Nat} {p : Program} {e : Env} {s : State} {m : MethodId} {args : Array Value} {below : List Frame} {meth : Method} {c : Code} (M : zMC RX5 cX5_build 7 (some .int) g p m c s args meth) {i0 : Nat} {i1 : Nat} (h0 : zkd i0 = (5, 0)) (h1 : zkd i1 = (7, 0)) {Q : State → Prop} : ∀ (n : Nat) (v2 : Int32) (v3 : Int32) (v4 : Int32) (σ : zmem) (o : Int32 × Int32 × zmem), l_X5_build_31 fu i0 i1 n v2 v3 v4 σ = some o → ∀ (ls : Array Slot) (H : Heap) (locs : List Loc), lv_has ls 7 [(0, .ref (zA g i0)), (1, .ref (zA g i1)), (2, .int v2), (3, .int v3), (4, .int v4)] → zIV g σ (zAA g) s.heap H locs → (∀ (ls : Array Slot) (H : Heap) (locs : List Loc), lv_has ls 7 [(0, .ref (zA g i0)), (1, .ref (zA g i1)), (2, .int o.1), (3, .int o.2.1)] → zIV g o.2.2 (zAA g) s.heap H locs → W p l e (zrm 4 107) s m args below meth c H locs 0 0 Q (F0 m 155 ls [])) → W p l e (zrm 4 107) s m args below meth c H locs 0 0 Q (F0 m 31 ls []) := by
  have hx := M.1.1
  have hb := M.1.2.1
  intro n
  induction n with
  | zero =>
    intro v2 v3 v4 σ o hr ls H locs hl I KF
    have hr : (none : Option (Int32 × Int32 × zmem)) = some o := hr
    cases hr
  | succ n ih =>
    intro v2 v3 v4 σ o hr ls H locs hl I KF
    rw [l_X5_build_31] at hr
    refine lv_iload hx hb dX5_build_31 (lv_at hl 4 rfl) ?_
    refine lv_aload_n hx hb dX5_build_33 rfl (lv_at hl 0 rfl) ?_
    refine zgetR (j := (i0 + 10)) M I h0 zfl_X5_21 dX5_build_34 rfl ?_
    refine zgetI M I (zs_5_1 h0) zfl_X5_64 dX5_build_37 ?_
    refine lv_icmp_ge (tgt := 155) hx hb dX5_build_40 (by decide) (fun c16 => ?_) (fun c16 => ?_)
    · replace hr := zif_t hr c16
      obtain rfl := Option.some.inj hr
      exact KF ls _ _ (lv_sub hl [0, 1, 2, 3] rfl) I
    · replace hr := zif_f hr c16
      refine lv_aload_n hx hb dX5_build_43 rfl (lv_at hl 0 rfl) ?_
      refine zgetR (j := (i0 + 1)) M I h0 zfl_X5_12 dX5_build_44 rfl ?_
      refine zgetR (j := (i0 + 2)) M I (zs_5_0 h0) zfl_X5_67 dX5_build_47 rfl ?_
      refine lv_aload_n hx hb dX5_build_50 rfl (lv_at hl 0 rfl) ?_
      refine zgetR (j := (i0 + 10)) M I h0 zfl_X5_21 dX5_build_51 rfl ?_
      refine zgetR (j := (i0 + 11)) M I (zs_5_1 h0) zfl_X5_70 dX5_build_54 rfl ?_
      refine lv_iload hx hb dX5_build_57 (lv_at hl 4 rfl) ?_
      obtain ⟨x4, e_x4, hr⟩ := zb_some hr
      refine zcallI M I (zrunV (as := [.int v4]) M I (c_X1_at l g fu (zs_2_0 (zs_5_1 h0)) e_x4) (zs_2_0 (zs_5_1 h0)) zK1.1 (by decide) zlv_X5_73 ⟨Nat.le_of_ble_eq_true rfl, Nat.le_of_ble_eq_true rfl⟩ ⟨Nat.zero_le _, Nat.zero_le _⟩ rfl rfl (Nat.le_of_ble_eq_true rfl) hl.1 dX5_build_59) (fun H locs I => ?_)
      obtain ⟨x5, e_x5, hr⟩ := zb_some hr
      refine zcallI M I (zrunV (as := [.int x4]) M I (c_X1_at l g fu (zs_0_0 (zs_5_0 h0)) e_x5) (zs_0_0 (zs_5_0 h0)) zK1.1 (by decide) zlv_X5_73 ⟨Nat.le_of_ble_eq_true rfl, Nat.le_of_ble_eq_true rfl⟩ ⟨Nat.zero_le _, Nat.zero_le _⟩ rfl rfl (Nat.le_of_ble_eq_true rfl) hl.1 dX5_build_62) (fun H locs I => ?_)
      refine lv_istore (lv' := [(5, .int x5), (0, .ref (zA g i0)), (1, .ref (zA g i1)), (2, .int v2), (3, .int v3), (4, .int v4)]) hx hb dX5_build_65 hl (by decide) rfl (fun ls hl => ?_)
      refine lv_aload_n hx hb dX5_build_67 rfl (lv_at hl 1 rfl) ?_
      refine zgetR (j := (i0 + 1)) M I h0 zfl_X5_12 dX5_build_68 rfl ?_
      refine zgetR (j := (i0 + 4)) M I (zs_5_0 h0) zfl_X5_77 dX5_build_71 rfl ?_
      refine lv_aload_n hx hb dX5_build_74 rfl (lv_at hl 1 rfl) ?_
      refine zgetR (j := (i0 + 10)) M I h0 zfl_X5_21 dX5_build_75 rfl ?_
      refine zgetR (j := (i0 + 11)) M I (zs_5_1 h0) zfl_X5_70 dX5_build_78 rfl ?_
      refine lv_iload hx hb dX5_build_81 (lv_at hl 5 rfl) ?_
      obtain ⟨x6, e_x6, hr⟩ := zb_some hr
      refine zcallI M I (zrunV (as := [.int v4]) M I (c_X1_at l g fu (zs_2_0 (zs_5_1 h0)) e_x6) (zs_2_0 (zs_5_1 h0)) zK1.1 (by decide) zlv_X5_73 ⟨Nat.le_of_ble_eq_true rfl, Nat.le_of_ble_eq_true rfl⟩ ⟨Nat.zero_le _, Nat.zero_le _⟩ rfl rfl (Nat.le_of_ble_eq_true rfl) hl.1 dX5_build_83) (fun H locs I => ?_)
      obtain ⟨x7, e_x7, hr⟩ := zb_some hr
      refine zcallI M I (zrunV (as := [.int x6]) M I (c_X1_at l g fu (zs_0_1 (zs_5_0 h0)) e_x7) (zs_0_1 (zs_5_0 h0)) zK1.1 (by decide) zlv_X5_73 ⟨Nat.le_of_ble_eq_true rfl, Nat.le_of_ble_eq_true rfl⟩ ⟨Nat.zero_le _, Nat.zero_le _⟩ rfl rfl (Nat.le_of_ble_eq_true rfl) hl.1 dX5_build_86) (fun H locs I => ?_)
      refine lv_istore (lv' := [(6, .int x7), (5, .int x5), (0, .ref (zA g i0)), (1, .ref (zA g i1)), (2, .int v2), (3, .int v3), (4, .int v4)]) hx hb dX5_build_89 hl (by decide) rfl (fun ls hl => ?_)
      refine lv_iload hx hb dX5_build_91 (lv_at hl 6 rfl) ?_
      obtain ⟨x8, e_x8, hr⟩ := zb_some hr
      have K_x8 : ∀ (ls : Array Slot) (H : Heap) (locs : List Loc), lv_has ls 7 [(0, .ref (zA g i0)), (1, .ref (zA g i1)), (4, .int v4), (5, .int x5), (6, .int x7)] → zIV g x8 (zAA g) s.heap H locs → W p l e (zrm 4 107) s m args below meth c H locs 0 0 Q (F0 m 119 ls []) := by
        intro ls H locs hl I
        refine lv_aload_n hx hb dX5_build_119 rfl (lv_at hl 0 rfl) ?_
        refine lv_iload hx hb dX5_build_120 (lv_at hl 3 rfl) ?_
        refine lv_iload hx hb dX5_build_122 (lv_at hl 4 rfl) ?_
        obtain ⟨x9, e_x9, hr⟩ := zb_some hr
        refine zcallU M I (zrunV (as := [.int x5, .int x7]) M I (c_X5_pairWord l g fu h0 e_x9) h0 zK5.1 (by decide) zlv_X5_84 ⟨Nat.le_of_ble_eq_true rfl, Nat.le_of_ble_eq_true rfl⟩ ⟨Nat.zero_le _, Nat.zero_le _⟩ rfl rfl (Nat.le_of_ble_eq_true rfl) hl.1 dX5_build_124) (fun H locs I => ?_)
        refine lv_iload hx hb dX5_build_127 (lv_at hl 3 rfl) ?_
        refine lv_aload_n hx hb dX5_build_129 rfl (lv_at hl 0 rfl) ?_
        refine zgetR (j := (i0 + 1)) M I h0 zfl_X5_12 dX5_build_130 rfl ?_
        refine zgetI M I (zs_5_0 h0) zfl_X5_88 dX5_build_133 ?_
        refine lv_iadd hx hb dX5_build_136 ?_
        refine lv_istore_n (lv' := [(2, .int (x5 + (x9.1 (i0 + 1) 3))), (0, .ref (zA g i0)), (1, .ref (zA g i1)), (4, .int v4), (5, .int x5), (6, .int x7)]) hx hb dX5_build_137 rfl hl (by decide) rfl (fun ls hl => ?_)
        refine lv_iload hx hb dX5_build_138 (lv_at hl 5 rfl) ?_
        refine lv_aload_n hx hb dX5_build_140 rfl (lv_at hl 1 rfl) ?_
        refine zgetR (j := (i0 + 1)) M I h0 zfl_X5_12 dX5_build_141 rfl ?_
        refine zgetI M I (zs_5_0 h0) zfl_X5_88 dX5_build_144 ?_
        refine lv_iadd hx hb dX5_build_147 ?_
        refine lv_istore_n (lv' := [(3, .int (x7 + (x9.1 (i0 + 1) 3))), (2, .int (x5 + (x9.1 (i0 + 1) 3))), (0, .ref (zA g i0)), (1, .ref (zA g i1)), (4, .int v4), (5, .int x5), (6, .int x7)]) hx hb dX5_build_148 rfl hl (by decide) rfl (fun ls hl => ?_)
        refine lv_iinc (lv' := [(4, .int (v4 + 1)), (3, .int (x7 + (x9.1 (i0 + 1) 3))), (2, .int (x5 + (x9.1 (i0 + 1) 3))), (0, .ref (zA g i0)), (1, .ref (zA g i1)), (5, .int x5), (6, .int x7)]) (k := 4) (v := (v4 + 1)) hx hb dX5_build_149 hl rfl (zi_1 _) (by decide) rfl (fun ls hl => ?_)
        refine lv_goto (tgt := 31) hx hb dX5_build_152 (by decide) ?_
        exact ih _ _ _ _  _ hr ls _ _ (lv_sub hl [3, 4, 2, 1, 0] rfl) I KF
      refine lv_if_eq (tgt := 108) hx hb dX5_build_93 (by decide) (fun c15 => ?_) (fun c15 => ?_)
      · replace e_x8 := zif_t e_x8 c15
        refine lv_aload_n hx hb dX5_build_108 rfl (lv_at hl 2 rfl) ?_
        refine lv_aload_n hx hb dX5_build_109 rfl (lv_at hl 3 rfl) ?_
        refine lv_iload_n hx hb dX5_build_110 rfl (lv_at hl 4 rfl) ?_
        refine lv_iload hx hb dX5_build_111 (lv_at hl 1 rfl) ?_
        refine lv_iload_n hx hb dX5_build_113 rfl (lv_at hl 5 rfl) ?_
        refine lv_iload hx hb dX5_build_114 (lv_at hl 0 rfl) ?_
        obtain ⟨x10, e_x10, e_x8⟩ := zb_some e_x8
        refine zcallU M I (zrunV (as := [.ref (zA g i1), .int v2, .int x5, .int v3, .int x7]) M I (c_X5_closeGap l g fu h0 h1 e_x10) h0 zK5.1 (by decide) zlv_X5_80 ⟨Nat.le_of_ble_eq_true rfl, Nat.le_of_ble_eq_true rfl⟩ ⟨Nat.zero_le _, Nat.zero_le _⟩ rfl rfl (Nat.le_of_ble_eq_true rfl) hl.1 dX5_build_116) (fun H locs I => ?_)
        obtain rfl := Option.some.inj e_x8
        exact K_x8 ls _ _ (lv_sub hl [2, 3, 6, 1, 0] rfl) I
      · replace e_x8 := zif_f e_x8 c15
        refine lv_iload hx hb dX5_build_96 (lv_at hl 1 rfl) ?_
        refine lv_iload_n hx hb dX5_build_98 rfl (lv_at hl 4 rfl) ?_
        refine lv_icmp_gt (tgt := 108) hx hb dX5_build_99 (by decide) (fun c14 => ?_) (fun c14 => ?_)
        · replace e_x8 := zif_t e_x8 c14
          refine lv_aload_n hx hb dX5_build_108 rfl (lv_at hl 2 rfl) ?_
          refine lv_aload_n hx hb dX5_build_109 rfl (lv_at hl 3 rfl) ?_
          refine lv_iload_n hx hb dX5_build_110 rfl (lv_at hl 4 rfl) ?_
          refine lv_iload hx hb dX5_build_111 (lv_at hl 1 rfl) ?_
          refine lv_iload_n hx hb dX5_build_113 rfl (lv_at hl 5 rfl) ?_
          refine lv_iload hx hb dX5_build_114 (lv_at hl 0 rfl) ?_
          obtain ⟨x11, e_x11, e_x8⟩ := zb_some e_x8
          refine zcallU M I (zrunV (as := [.ref (zA g i1), .int v2, .int x5, .int v3, .int x7]) M I (c_X5_closeGap l g fu h0 h1 e_x11) h0 zK5.1 (by decide) zlv_X5_80 ⟨Nat.le_of_ble_eq_true rfl, Nat.le_of_ble_eq_true rfl⟩ ⟨Nat.zero_le _, Nat.zero_le _⟩ rfl rfl (Nat.le_of_ble_eq_true rfl) hl.1 dX5_build_116) (fun H locs I => ?_)
          obtain rfl := Option.some.inj e_x8
          exact K_x8 ls _ _ (lv_sub hl [2, 3, 6, 1, 0] rfl) I
        · replace e_x8 := zif_f e_x8 c14
          refine lv_iload hx hb dX5_build_102 (lv_at hl 0 rfl) ?_
          refine lv_iload_n hx hb dX5_build_104 rfl (lv_at hl 5 rfl) ?_
          refine lv_icmp_le (tgt := 119) hx hb dX5_build_105 (by decide) (fun c13 => ?_) (fun c13 => ?_)
          · replace e_x8 := zif_t e_x8 c13
            obtain rfl := Option.some.inj e_x8
            exact K_x8 ls _ _ (lv_sub hl [2, 3, 6, 1, 0] rfl) I
          · replace e_x8 := zif_f e_x8 c13
            refine lv_aload_n hx hb dX5_build_108 rfl (lv_at hl 2 rfl) ?_
            refine lv_aload_n hx hb dX5_build_109 rfl (lv_at hl 3 rfl) ?_
            refine lv_iload_n hx hb dX5_build_110 rfl (lv_at hl 4 rfl) ?_
            refine lv_iload hx hb dX5_build_111 (lv_at hl 1 rfl) ?_
            refine lv_iload_n hx hb dX5_build_113 rfl (lv_at hl 5 rfl) ?_
            refine lv_iload hx hb dX5_build_114 (lv_at hl 0 rfl) ?_
            obtain ⟨x12, e_x12, e_x8⟩ := zb_some e_x8
            refine zcallU M I (zrunV (as := [.ref (zA g i1), .int v2, .int x5, .int v3, .int x7]) M I (c_X5_closeGap l g fu h0 h1 e_x12) h0 zK5.1 (by decide) zlv_X5_80 ⟨Nat.le_of_ble_eq_true rfl, Nat.le_of_ble_eq_true rfl⟩ ⟨Nat.zero_le _, Nat.zero_le _⟩ rfl rfl (Nat.le_of_ble_eq_true rfl) hl.1 dX5_build_116) (fun H locs I => ?_)
            obtain rfl := Option.some.inj e_x8
            exact K_x8 ls _ _ (lv_sub hl [2, 3, 6, 1, 0] rfl) I
def m_X5_build (fu : Nat) (σ : zmem) (i0 : Nat) (i1 : Nat) : Option (Int32 × zmem) := (m_X0_find fu σ (i0 + 1) i1 (0 : Int32)).bind fun x1 => (m_X2_find fu x1 (i0 + 10) (i0 + 1)).bind fun x2 => (m_X5_forget fu x2 i0).bind fun x3 => (l_X5_build_31 fu i0 i1 fu (0 : Int32) (0 : Int32) (0 : Int32) x3).bind fun x17 => (m_X6_size fu x17.2.2 (i1 + 1)).bind fun x18 => (m_X6_size fu x17.2.2 (i1 + 3)).bind fun x19 => (m_X5_closeGap fu x17.2.2 i0 i1 x17.1 x18 x17.2.1 x19).bind fun x20 => some ((x20.1 i0 3), x20)
set_option maxHeartbeats 4000000 in
set_option maxRecDepth 100000 in
theorem c_X5_build (l : Launch) (g : zgeo) (fu : Nat) {σ : zmem} {i0 : Nat} {i1 : Nat} {r : Int32 × zmem} (h0 : zkd i0 = (5, 0)) (h1 : zkd i1 = (7, 0)) (hr : m_X5_build fu σ i0 i1 = some r) : zCt (zQI g r.1 r.2) l g yX5_build cX5_build 7 (some .int) 4 107 [.ref (zA g i0), .ref (zA g i1)] σ := by
  refine zopen (by decide) (Nat.le_of_ble_eq_true rfl) ?_
  intro p e s m below meth c M ls hl I
  have M : zMC RX5 cX5_build 7 (some .int) g p m c s ([.ref (zA g i0), .ref (zA g i1)] : List Value).toArray meth := M
  have hl : lv_has ls 7 [(0, .ref (zA g i0)), (1, .ref (zA g i1))] := hl
  generalize ([.ref (zA g i0), .ref (zA g i1)] : List Value).toArray = args at M ⊢
  have hx := M.1.1
  have hb := M.1.2.1
  unfold m_X5_build at hr
  refine lv_aload_n hx hb dX5_build_0 rfl (lv_at hl 0 rfl) ?_
  refine zgetR (j := (i0 + 1)) M I h0 zfl_X5_12 dX5_build_1 rfl ?_
  refine lv_aload_n hx hb dX5_build_4 rfl (lv_at hl 1 rfl) ?_
  refine lv_iconst (v := (0 : Int32)) hx hb dX5_build_5 (by decide) ?_
  obtain ⟨x1, e_x1, hr⟩ := zb_some hr
  refine zcallU M I (zrunV (as := [.ref (zA g i1), .int (0 : Int32)]) M I (c_X0_find l g fu (zs_5_0 h0) h1 e_x1) (zs_5_0 h0) zK0.1 (by decide) zlv_X5_54 ⟨Nat.le_of_ble_eq_true rfl, Nat.le_of_ble_eq_true rfl⟩ ⟨Nat.zero_le _, Nat.zero_le _⟩ rfl rfl (Nat.le_of_ble_eq_true rfl) hl.1 dX5_build_6) (fun H locs I => ?_)
  refine lv_aload_n hx hb dX5_build_9 rfl (lv_at hl 0 rfl) ?_
  refine zgetR (j := (i0 + 10)) M I h0 zfl_X5_21 dX5_build_10 rfl ?_
  refine lv_aload_n hx hb dX5_build_13 rfl (lv_at hl 0 rfl) ?_
  refine zgetR (j := (i0 + 1)) M I h0 zfl_X5_12 dX5_build_14 rfl ?_
  obtain ⟨x2, e_x2, hr⟩ := zb_some hr
  refine zcallU M I (zrunV (as := [.ref (zA g (i0 + 1))]) M I (c_X2_find l g fu (zs_5_1 h0) (zs_5_0 h0) e_x2) (zs_5_1 h0) zK2.1 (by decide) zlv_X5_58 ⟨Nat.le_of_ble_eq_true rfl, Nat.le_of_ble_eq_true rfl⟩ ⟨Nat.zero_le _, Nat.zero_le _⟩ rfl rfl (Nat.le_of_ble_eq_true rfl) hl.1 dX5_build_17) (fun H locs I => ?_)
  refine lv_aload_n hx hb dX5_build_20 rfl (lv_at hl 0 rfl) ?_
  obtain ⟨x3, e_x3, hr⟩ := zb_some hr
  refine zcallU M I (zrunV (as := []) M I (c_X5_forget l g fu h0 e_x3) h0 zK5.1 (by decide) zlv_X5_61 ⟨Nat.le_of_ble_eq_true rfl, Nat.le_of_ble_eq_true rfl⟩ ⟨Nat.zero_le _, Nat.zero_le _⟩ rfl rfl (Nat.le_of_ble_eq_true rfl) hl.1 dX5_build_21) (fun H locs I => ?_)
  refine lv_iconst (v := (0 : Int32)) hx hb dX5_build_24 (by decide) ?_
  refine lv_istore_n (lv' := [(2, .int (0 : Int32)), (0, .ref (zA g i0)), (1, .ref (zA g i1))]) hx hb dX5_build_25 rfl hl (by decide) rfl (fun ls hl => ?_)
  refine lv_iconst (v := (0 : Int32)) hx hb dX5_build_26 (by decide) ?_
  refine lv_istore_n (lv' := [(3, .int (0 : Int32)), (2, .int (0 : Int32)), (0, .ref (zA g i0)), (1, .ref (zA g i1))]) hx hb dX5_build_27 rfl hl (by decide) rfl (fun ls hl => ?_)
  refine lv_iconst (v := (0 : Int32)) hx hb dX5_build_28 (by decide) ?_
  refine lv_istore (lv' := [(4, .int (0 : Int32)), (3, .int (0 : Int32)), (2, .int (0 : Int32)), (0, .ref (zA g i0)), (1, .ref (zA g i1))]) hx hb dX5_build_29 hl (by decide) rfl (fun ls hl => ?_)
  obtain ⟨x17, e_x17, hr⟩ := zb_some hr
  refine k_X5_build_31 M h0 h1 fu _ _ _ _  _ e_x17 ls _ _ (lv_sub hl [3, 4, 2, 1, 0] rfl) I (fun ls H locs hl I => ?_)
  refine lv_aload_n hx hb dX5_build_155 rfl (lv_at hl 0 rfl) ?_
  refine lv_aload_n hx hb dX5_build_156 rfl (lv_at hl 1 rfl) ?_
  refine lv_iload_n hx hb dX5_build_157 rfl (lv_at hl 2 rfl) ?_
  refine lv_aload_n hx hb dX5_build_158 rfl (lv_at hl 1 rfl) ?_
  refine zgetR (j := (i1 + 1)) M I h1 zfl_X5_91 dX5_build_159 rfl ?_
  obtain ⟨x18, e_x18, hr⟩ := zb_some hr
  refine zcallI M I (zrunV (as := []) M I (c_X6_size l g fu (zs_7_0 h1) e_x18) (zs_7_0 h1) zK6.1 (by decide) zlv_X5_97 ⟨Nat.le_of_ble_eq_true rfl, Nat.le_of_ble_eq_true rfl⟩ ⟨Nat.zero_le _, Nat.zero_le _⟩ rfl rfl (Nat.le_of_ble_eq_true rfl) hl.1 dX5_build_162) (fun H locs I => ?_)
  refine lv_iload_n hx hb dX5_build_165 rfl (lv_at hl 3 rfl) ?_
  refine lv_aload_n hx hb dX5_build_166 rfl (lv_at hl 1 rfl) ?_
  refine zgetR (j := (i1 + 3)) M I h1 zfl_X5_103 dX5_build_167 rfl ?_
  obtain ⟨x19, e_x19, hr⟩ := zb_some hr
  refine zcallI M I (zrunV (as := []) M I (c_X6_size l g fu (zs_7_1 h1) e_x19) (zs_7_1 h1) zK6.1 (by decide) zlv_X5_97 ⟨Nat.le_of_ble_eq_true rfl, Nat.le_of_ble_eq_true rfl⟩ ⟨Nat.zero_le _, Nat.zero_le _⟩ rfl rfl (Nat.le_of_ble_eq_true rfl) hl.1 dX5_build_170) (fun H locs I => ?_)
  obtain ⟨x20, e_x20, hr⟩ := zb_some hr
  refine zcallU M I (zrunV (as := [.ref (zA g i1), .int x17.1, .int x18, .int x17.2.1, .int x19]) M I (c_X5_closeGap l g fu h0 h1 e_x20) h0 zK5.1 (by decide) zlv_X5_80 ⟨Nat.le_of_ble_eq_true rfl, Nat.le_of_ble_eq_true rfl⟩ ⟨Nat.zero_le _, Nat.zero_le _⟩ rfl rfl (Nat.le_of_ble_eq_true rfl) hl.1 dX5_build_173) (fun H locs I => ?_)
  refine lv_aload_n hx hb dX5_build_176 rfl (lv_at hl 0 rfl) ?_
  refine zgetI M I h0 zfl_X5_29 dX5_build_177 ?_
  obtain rfl := Option.some.inj hr
  exact zretI M I dX5_build_180
def l_X9_find_23 (fu : Nat) (i0 : Nat) : Nat → Int32 → Int32 → zmem → Option (zmem)
  | 0, _, _, _ => none
  | n + 1, v2, v3, σ => (if (σ.1 (i0 + 1) 2) ≤ v3 then some σ else ((if v3 ≤ 0 then some (0 : Int32) else (m_X1_at fu σ (i0 + 4) v3).bind fun x8 => (m_X1_at fu σ (i0 + 4) (v3 - (1 : Int32))).bind fun x9 => (if x9 ≤ x8 then some (0 : Int32) else some (1 : Int32))) : Option (Int32)).bind fun x2 => ((if x2 = 0 then some (1 : Int32) else some (v2 + (1 : Int32))) : Option (Int32)).bind fun x3 => ((if x2 = 0 then some (1 : Int32) else some (0 : Int32)) : Option (Int32)).bind fun x4 => (m_X1_store fu (zst (zst σ i0 1 ((σ.1 i0 1) + x4)) i0 2 (zmax ((zst σ i0 1 ((σ.1 i0 1) + x4)).1 i0 2) x3)) (i0 + 10) v3 (((zst (zst σ i0 1 ((σ.1 i0 1) + x4)) i0 2 (zmax ((zst σ i0 1 ((σ.1 i0 1) + x4)).1 i0 2) x3)).1 i0 1) - (1 : Int32))).bind fun x5 => l_X9_find_23 fu i0 n x3 (v3 + 1) x5)
set_option maxHeartbeats 4000000 in
set_option maxRecDepth 100000 in
theorem k_X9_find_23 {l : Launch} {g : zgeo} {fu : Nat} {p : Program} {e : Env} {s : State} {m : MethodId} {args : Array Value} {below : List Frame} {meth : Method} {c : Code} (M : zMC RX9 cX9_find 5 none g p m c s args meth) {i0 : Nat} (h0 : zkd i0 = (9, 0)) {Q : State → Prop} : ∀ (n : Nat) (v2 : Int32) (v3 : Int32) (σ : zmem) (o : zmem), l_X9_find_23 fu i0 n v2 v3 σ = some o → ∀ (ls : Array Slot) (H : Heap) (locs : List Loc), lv_has ls 5 [(0, .ref (zA g i0)), (2, .int v2), (3, .int v3)] → zIV g σ (zAA g) s.heap H locs → (∀ (ls : Array Slot) (H : Heap) (locs : List Loc), lv_has ls 5 [] → zIV g o (zAA g) s.heap H locs → W p l e (zrm 4 99) s m args below meth c H locs 0 0 Q (F0 m 136 ls [])) → W p l e (zrm 4 99) s m args below meth c H locs 0 0 Q (F0 m 23 ls []) := by
  have hx := M.1.1
  have hb := M.1.2.1
  intro n
  induction n with
  | zero =>
    intro v2 v3 σ o hr ls H locs hl I KF
    have hr : (none : Option (zmem)) = some o := hr
    cases hr
  | succ n ih =>
    intro v2 v3 σ o hr ls H locs hl I KF
    rw [l_X9_find_23] at hr
    refine lv_iload_n hx hb dX9_find_23 rfl (lv_at hl 2 rfl) ?_
    refine lv_aload_n hx hb dX9_find_24 rfl (lv_at hl 0 rfl) ?_
    refine zgetR (j := (i0 + 1)) M I h0 zfl_X9_12 dX9_find_25 rfl ?_
    refine zgetI M I (zs_9_0 h0) zfl_X9_38 dX9_find_28 ?_
    refine lv_icmp_ge (tgt := 136) hx hb dX9_find_31 (by decide) (fun c12 => ?_) (fun c12 => ?_)
    · replace hr := zif_t hr c12
      obtain rfl := Option.some.inj hr
      exact KF ls _ _ (lv_sub hl [] rfl) I
    · replace hr := zif_f hr c12
      refine lv_iload_n hx hb dX9_find_34 rfl (lv_at hl 2 rfl) ?_
      obtain ⟨x2, e_x2, hr⟩ := zb_some hr
      have K_x2 : ∀ (ls : Array Slot) (H : Heap) (locs : List Loc), lv_has ls 5 [(0, .ref (zA g i0)), (2, .int v2), (3, .int v3)] → zIV g σ (zAA g) s.heap H locs → W p l e (zrm 4 99) s m args below meth c H locs 0 0 Q (F0 m 70 ls [.int x2]) := by
        intro ls H locs hl I
        refine lv_istore (lv' := [(4, .int x2), (0, .ref (zA g i0)), (2, .int v2), (3, .int v3)]) hx hb dX9_find_70 hl (by decide) rfl (fun ls hl => ?_)
        refine lv_iload hx hb dX9_find_72 (lv_at hl 0 rfl) ?_
        obtain ⟨x3, e_x3, hr⟩ := zb_some hr
        have K_x3 : ∀ (ls : Array Slot) (H : Heap) (locs : List Loc), lv_has ls 5 [(0, .ref (zA g i0)), (3, .int v3), (4, .int x2)] → zIV g σ (zAA g) s.heap H locs → W p l e (zrm 4 99) s m args below meth c H locs 0 0 Q (F0 m 84 ls [.int x3]) := by
          intro ls H locs hl I
          refine lv_istore_n (lv' := [(2, .int x3), (0, .ref (zA g i0)), (3, .int v3), (4, .int x2)]) hx hb dX9_find_84 rfl hl (by decide) rfl (fun ls hl => ?_)
          refine lv_aload_n hx hb dX9_find_85 rfl (lv_at hl 1 rfl) ?_
          refine lv_dup hx hb dX9_find_86 rfl ?_
          refine zgetI M I h0 zfl_X9_18 dX9_find_87 ?_
          refine lv_iload hx hb dX9_find_90 (lv_at hl 3 rfl) ?_
          obtain ⟨x4, e_x4, hr⟩ := zb_some hr
          have K_x4 : ∀ (ls : Array Slot) (H : Heap) (locs : List Loc), lv_has ls 5 [(0, .ref (zA g i0)), (2, .int x3), (3, .int v3)] → zIV g σ (zAA g) s.heap H locs → W p l e (zrm 4 99) s m args below meth c H locs 0 0 Q (F0 m 100 ls [.int x4, .int (σ.1 i0 1), .ref (zA g i0)]) := by
            intro ls H locs hl I
            refine lv_iadd hx hb dX9_find_100 ?_
            refine zputI M I h0 zfw_X9_18 dX9_find_101 (fun H locs I => ?_)
            refine lv_aload_n hx hb dX9_find_104 rfl (lv_at hl 0 rfl) ?_
            refine lv_aload_n hx hb dX9_find_105 rfl (lv_at hl 0 rfl) ?_
            refine zgetI M I h0 zfl_X9_22 dX9_find_106 ?_
            refine lv_iload_n hx hb dX9_find_109 rfl (lv_at hl 1 rfl) ?_
            refine va_mmax (own := RX9) hx hb (M.1.2.2.1.trans hl.1.symm) M.1.2.2.2.1 (M.1.2.2.2.2 _ (zin (i := 544) (by decide +kernel) rfl)) (M.1.2.2.2.2 _ (zin (i := 434) (by decide +kernel) rfl)) (M.1.2.2.2.2 _ (zin (i := 86) (by decide +kernel) rfl)) (M.1.2.2.2.2 _ (zin (i := 435) (by decide +kernel) rfl)) (Nat.le_of_ble_eq_true rfl) (Nat.le_of_ble_eq_true rfl) (Nat.zero_le _) (Nat.zero_le _) dX9_find_110 ?_
            refine zputI M I h0 zfw_X9_22 dX9_find_113 (fun H locs I => ?_)
            refine lv_aload_n hx hb dX9_find_116 rfl (lv_at hl 0 rfl) ?_
            refine zgetR (j := (i0 + 10)) M I h0 zfl_X9_30 dX9_find_117 rfl ?_
            refine lv_iload_n hx hb dX9_find_120 rfl (lv_at hl 2 rfl) ?_
            refine lv_aload_n hx hb dX9_find_121 rfl (lv_at hl 0 rfl) ?_
            refine zgetI M I h0 zfl_X9_18 dX9_find_122 ?_
            refine lv_iconst (v := (1 : Int32)) hx hb dX9_find_125 (by decide) ?_
            refine lv_isub hx hb dX9_find_126 ?_
            obtain ⟨x5, e_x5, hr⟩ := zb_some hr
            refine zcallU M I (zrunV (as := [.int v3, .int (((zst (zst σ i0 1 ((σ.1 i0 1) + x4)) i0 2 (zmax ((zst σ i0 1 ((σ.1 i0 1) + x4)).1 i0 2) x3)).1 i0 1) - (1 : Int32))]) M I (c_X1_store l g fu (zs_9_3 h0) e_x5) (zs_9_3 h0) zK1.1 (by decide) zlv_X9_54 ⟨Nat.le_of_ble_eq_true rfl, Nat.le_of_ble_eq_true rfl⟩ ⟨Nat.zero_le _, Nat.zero_le _⟩ rfl rfl (Nat.le_of_ble_eq_true rfl) hl.1 dX9_find_127) (fun H locs I => ?_)
            refine lv_iinc (lv' := [(3, .int (v3 + 1)), (0, .ref (zA g i0)), (2, .int x3)]) (k := 2) (v := (v3 + 1)) hx hb dX9_find_130 hl rfl (zi_1 _) (by decide) rfl (fun ls hl => ?_)
            refine lv_goto (tgt := 23) hx hb dX9_find_133 (by decide) ?_
            exact ih _ _ _  _ hr ls _ _ (lv_sub hl [1, 2, 0] rfl) I KF
          refine lv_if_eq (tgt := 99) hx hb dX9_find_92 (by decide) (fun c6 => ?_) (fun c6 => ?_)
          · replace e_x4 := zif_t e_x4 c6
            refine lv_iconst (v := (1 : Int32)) hx hb dX9_find_99 (by decide) ?_
            obtain rfl := Option.some.inj e_x4
            exact K_x4 ls _ _ (lv_sub hl [1, 0, 2] rfl) I
          · replace e_x4 := zif_f e_x4 c6
            refine lv_iconst (v := (0 : Int32)) hx hb dX9_find_95 (by decide) ?_
            refine lv_goto (tgt := 100) hx hb dX9_find_96 (by decide) ?_
            obtain rfl := Option.some.inj e_x4
            exact K_x4 ls _ _ (lv_sub hl [1, 0, 2] rfl) I
        refine lv_if_eq (tgt := 83) hx hb dX9_find_74 (by decide) (fun c7 => ?_) (fun c7 => ?_)
        · replace e_x3 := zif_t e_x3 c7
          refine lv_iconst (v := (1 : Int32)) hx hb dX9_find_83 (by decide) ?_
          obtain rfl := Option.some.inj e_x3
          exact K_x3 ls _ _ (lv_sub hl [1, 3, 0] rfl) I
        · replace e_x3 := zif_f e_x3 c7
          refine lv_iload_n hx hb dX9_find_77 rfl (lv_at hl 2 rfl) ?_
          refine lv_iconst (v := (1 : Int32)) hx hb dX9_find_78 (by decide) ?_
          refine lv_iadd hx hb dX9_find_79 ?_
          refine lv_goto (tgt := 84) hx hb dX9_find_80 (by decide) ?_
          obtain rfl := Option.some.inj e_x3
          exact K_x3 ls _ _ (lv_sub hl [1, 3, 0] rfl) I
      refine lv_if_le (tgt := 69) hx hb dX9_find_35 (by decide) (fun c11 => ?_) (fun c11 => ?_)
      · replace e_x2 := zif_t e_x2 c11
        refine lv_iconst (v := (0 : Int32)) hx hb dX9_find_69 (by decide) ?_
        obtain rfl := Option.some.inj e_x2
        exact K_x2 ls _ _ hl I
      · replace e_x2 := zif_f e_x2 c11
        refine lv_aload_n hx hb dX9_find_38 rfl (lv_at hl 0 rfl) ?_
        refine zgetR (j := (i0 + 1)) M I h0 zfl_X9_12 dX9_find_39 rfl ?_
        refine zgetR (j := (i0 + 4)) M I (zs_9_0 h0) zfl_X9_41 dX9_find_42 rfl ?_
        refine lv_iload_n hx hb dX9_find_45 rfl (lv_at hl 2 rfl) ?_
        obtain ⟨x8, e_x8, e_x2⟩ := zb_some e_x2
        refine zcallI M I (zrunV (as := [.int v3]) M I (c_X1_at l g fu (zs_0_1 (zs_9_0 h0)) e_x8) (zs_0_1 (zs_9_0 h0)) zK1.1 (by decide) zlv_X9_44 ⟨Nat.le_of_ble_eq_true rfl, Nat.le_of_ble_eq_true rfl⟩ ⟨Nat.zero_le _, Nat.zero_le _⟩ rfl rfl (Nat.le_of_ble_eq_true rfl) hl.1 dX9_find_46) (fun H locs I => ?_)
        refine lv_aload_n hx hb dX9_find_49 rfl (lv_at hl 0 rfl) ?_
        refine zgetR (j := (i0 + 1)) M I h0 zfl_X9_12 dX9_find_50 rfl ?_
        refine zgetR (j := (i0 + 4)) M I (zs_9_0 h0) zfl_X9_41 dX9_find_53 rfl ?_
        refine lv_iload_n hx hb dX9_find_56 rfl (lv_at hl 2 rfl) ?_
        refine lv_iconst (v := (1 : Int32)) hx hb dX9_find_57 (by decide) ?_
        refine lv_isub hx hb dX9_find_58 ?_
        obtain ⟨x9, e_x9, e_x2⟩ := zb_some e_x2
        refine zcallI M I (zrunV (as := [.int (v3 - (1 : Int32))]) M I (c_X1_at l g fu (zs_0_1 (zs_9_0 h0)) e_x9) (zs_0_1 (zs_9_0 h0)) zK1.1 (by decide) zlv_X9_44 ⟨Nat.le_of_ble_eq_true rfl, Nat.le_of_ble_eq_true rfl⟩ ⟨Nat.zero_le _, Nat.zero_le _⟩ rfl rfl (Nat.le_of_ble_eq_true rfl) hl.1 dX9_find_59) (fun H locs I => ?_)
        refine lv_icmp_ge (tgt := 69) hx hb dX9_find_62 (by decide) (fun c10 => ?_) (fun c10 => ?_)
        · replace e_x2 := zif_t e_x2 c10
          refine lv_iconst (v := (0 : Int32)) hx hb dX9_find_69 (by decide) ?_
          obtain rfl := Option.some.inj e_x2
          exact K_x2 ls _ _ hl I
        · replace e_x2 := zif_f e_x2 c10
          refine lv_iconst (v := (1 : Int32)) hx hb dX9_find_65 (by decide) ?_
          refine lv_goto (tgt := 70) hx hb dX9_find_66 (by decide) ?_
          obtain rfl := Option.some.inj e_x2
          exact K_x2 ls _ _ hl I
def m_X9_find (fu : Nat) (σ : zmem) (i0 : Nat) (i1 : Nat) : Option (zmem) := (m_X0_find fu σ (i0 + 1) i1 (1 : Int32)).bind fun x1 => (l_X9_find_23 fu i0 fu (0 : Int32) (0 : Int32) (zst (zst x1 i0 1 (0 : Int32)) i0 2 (0 : Int32))).bind fun x13 => some x13
set_option maxHeartbeats 4000000 in
set_option maxRecDepth 100000 in
theorem c_X9_find (l : Launch) (g : zgeo) (fu : Nat) {σ : zmem} {i0 : Nat} {i1 : Nat} {r : zmem} (h0 : zkd i0 = (9, 0)) (h1 : zkd i1 = (7, 0)) (hr : m_X9_find fu σ i0 i1 = some r) : zCt (zQV g r) l g yX9_find cX9_find 5 none 4 99 [.ref (zA g i0), .ref (zA g i1)] σ := by
  refine zopen (by decide) (Nat.le_of_ble_eq_true rfl) ?_
  intro p e s m below meth c M ls hl I
  have M : zMC RX9 cX9_find 5 none g p m c s ([.ref (zA g i0), .ref (zA g i1)] : List Value).toArray meth := M
  have hl : lv_has ls 5 [(0, .ref (zA g i0)), (1, .ref (zA g i1))] := hl
  generalize ([.ref (zA g i0), .ref (zA g i1)] : List Value).toArray = args at M ⊢
  have hx := M.1.1
  have hb := M.1.2.1
  unfold m_X9_find at hr
  refine lv_aload_n hx hb dX9_find_0 rfl (lv_at hl 0 rfl) ?_
  refine zgetR (j := (i0 + 1)) M I h0 zfl_X9_12 dX9_find_1 rfl ?_
  refine lv_aload_n hx hb dX9_find_4 rfl (lv_at hl 1 rfl) ?_
  refine lv_iconst (v := (1 : Int32)) hx hb dX9_find_5 (by decide) ?_
  obtain ⟨x1, e_x1, hr⟩ := zb_some hr
  refine zcallU M I (zrunV (as := [.ref (zA g i1), .int (1 : Int32)]) M I (c_X0_find l g fu (zs_9_0 h0) h1 e_x1) (zs_9_0 h0) zK0.1 (by decide) zlv_X9_34 ⟨Nat.le_of_ble_eq_true rfl, Nat.le_of_ble_eq_true rfl⟩ ⟨Nat.zero_le _, Nat.zero_le _⟩ rfl rfl (Nat.le_of_ble_eq_true rfl) hl.1 dX9_find_6) (fun H locs I => ?_)
  refine lv_aload_n hx hb dX9_find_9 rfl (lv_at hl 0 rfl) ?_
  refine lv_iconst (v := (0 : Int32)) hx hb dX9_find_10 (by decide) ?_
  refine zputI M I h0 zfw_X9_18 dX9_find_11 (fun H locs I => ?_)
  refine lv_aload_n hx hb dX9_find_14 rfl (lv_at hl 0 rfl) ?_
  refine lv_iconst (v := (0 : Int32)) hx hb dX9_find_15 (by decide) ?_
  refine zputI M I h0 zfw_X9_22 dX9_find_16 (fun H locs I => ?_)
  refine lv_iconst (v := (0 : Int32)) hx hb dX9_find_19 (by decide) ?_
  refine lv_istore_n (lv' := [(2, .int (0 : Int32)), (0, .ref (zA g i0)), (1, .ref (zA g i1))]) hx hb dX9_find_20 rfl hl (by decide) rfl (fun ls hl => ?_)
  refine lv_iconst (v := (0 : Int32)) hx hb dX9_find_21 (by decide) ?_
  refine lv_istore_n (lv' := [(3, .int (0 : Int32)), (2, .int (0 : Int32)), (0, .ref (zA g i0)), (1, .ref (zA g i1))]) hx hb dX9_find_22 rfl hl (by decide) rfl (fun ls hl => ?_)
  obtain ⟨x13, e_x13, hr⟩ := zb_some hr
  refine k_X9_find_23 M h0 fu _ _ _  _ e_x13 ls _ _ (lv_sub hl [2, 1, 0] rfl) I (fun ls H locs hl I => ?_)
  obtain rfl := Option.some.inj hr
  exact zretV M I dX9_find_136
def m_X5_anchorProperty (fu : Nat) (σ : zmem) (i0 : Nat) (a1 : Int32) (a2 : Int32) : Option (Int32) := (if a2 = (0 : Int32) then (m_X1_at fu σ (i0 + 2) a1).bind fun x2 => some x2 else (if a2 = (1 : Int32) then (m_X1_at fu σ (i0 + 4) a1).bind fun x4 => some x4 else (if a2 = (2 : Int32) then (m_X1_at fu σ (i0 + 13) a1).bind fun x6 => some x6 else (m_X1_at fu σ (i0 + 15) a1).bind fun x7 => some x7)))
set_option maxHeartbeats 4000000 in
set_option maxRecDepth 100000 in
theorem c_X5_anchorProperty (l : Launch) (g : zgeo) (fu : Nat) {σ : zmem} {i0 : Nat} {a1 : Int32} {a2 : Int32} {r : Int32} (h0 : zkd i0 = (5, 0)) (hr : m_X5_anchorProperty fu σ i0 a1 a2 = some r) : zCt (zQI g r σ) l g yX5_anchorProperty cX5_anchorProperty 3 (some .int) 1 21 [.ref (zA g i0), .int a1, .int a2] σ := by
  refine zopen (by decide) (Nat.le_of_ble_eq_true rfl) ?_
  intro p e s m below meth c M ls hl I
  have M : zMC RX5 cX5_anchorProperty 3 (some .int) g p m c s ([.ref (zA g i0), .int a1, .int a2] : List Value).toArray meth := M
  have hl : lv_has ls 3 [(0, .ref (zA g i0)), (1, .int a1), (2, .int a2)] := hl
  generalize ([.ref (zA g i0), .int a1, .int a2] : List Value).toArray = args at M ⊢
  have hx := M.1.1
  have hb := M.1.2.1
  unfold m_X5_anchorProperty at hr
  refine lv_iload_n hx hb dX5_anchorProperty_0 rfl (lv_at hl 2 rfl) ?_
  by_cases c1 : a2 = (0 : Int32)
  · replace hr := zif_t hr c1
    refine lv_tableIn (tgt := 28) hx hb dX5_anchorProperty_1 (by rw [c1]; decide) (by rw [c1]; decide) (by rw [c1]; try rfl) (by decide) ?_
    refine lv_aload_n hx hb dX5_anchorProperty_28 rfl (lv_at hl 0 rfl) ?_
    refine zgetR (j := (i0 + 1)) M I h0 zfl_X5_12 dX5_anchorProperty_29 rfl ?_
    refine zgetR (j := (i0 + 2)) M I (zs_5_0 h0) zfl_X5_67 dX5_anchorProperty_32 rfl ?_
    refine lv_iload_n hx hb dX5_anchorProperty_35 rfl (lv_at hl 1 rfl) ?_
    obtain ⟨x2, e_x2, hr⟩ := zb_some hr
    refine zcallI M I (zrunV (as := [.int a1]) M I (c_X1_at l g fu (zs_0_0 (zs_5_0 h0)) e_x2) (zs_0_0 (zs_5_0 h0)) zK1.1 (by decide) zlv_X5_73 ⟨Nat.le_of_ble_eq_true rfl, Nat.le_of_ble_eq_true rfl⟩ ⟨Nat.zero_le _, Nat.zero_le _⟩ rfl rfl (Nat.le_of_ble_eq_true rfl) hl.1 dX5_anchorProperty_36) (fun H locs I => ?_)
    obtain rfl := Option.some.inj hr
    exact zretI M I dX5_anchorProperty_39
  · replace hr := zif_f hr c1
    by_cases c3 : a2 = (1 : Int32)
    · replace hr := zif_t hr c3
      refine lv_tableIn (tgt := 40) hx hb dX5_anchorProperty_1 (by rw [c3]; decide) (by rw [c3]; decide) (by rw [c3]; try rfl) (by decide) ?_
      refine lv_aload_n hx hb dX5_anchorProperty_40 rfl (lv_at hl 0 rfl) ?_
      refine zgetR (j := (i0 + 1)) M I h0 zfl_X5_12 dX5_anchorProperty_41 rfl ?_
      refine zgetR (j := (i0 + 4)) M I (zs_5_0 h0) zfl_X5_77 dX5_anchorProperty_44 rfl ?_
      refine lv_iload_n hx hb dX5_anchorProperty_47 rfl (lv_at hl 1 rfl) ?_
      obtain ⟨x4, e_x4, hr⟩ := zb_some hr
      refine zcallI M I (zrunV (as := [.int a1]) M I (c_X1_at l g fu (zs_0_1 (zs_5_0 h0)) e_x4) (zs_0_1 (zs_5_0 h0)) zK1.1 (by decide) zlv_X5_73 ⟨Nat.le_of_ble_eq_true rfl, Nat.le_of_ble_eq_true rfl⟩ ⟨Nat.zero_le _, Nat.zero_le _⟩ rfl rfl (Nat.le_of_ble_eq_true rfl) hl.1 dX5_anchorProperty_48) (fun H locs I => ?_)
      obtain rfl := Option.some.inj hr
      exact zretI M I dX5_anchorProperty_51
    · replace hr := zif_f hr c3
      by_cases c5 : a2 = (2 : Int32)
      · replace hr := zif_t hr c5
        refine lv_tableIn (tgt := 52) hx hb dX5_anchorProperty_1 (by rw [c5]; decide) (by rw [c5]; decide) (by rw [c5]; try rfl) (by decide) ?_
        refine lv_aload_n hx hb dX5_anchorProperty_52 rfl (lv_at hl 0 rfl) ?_
        refine zgetR (j := (i0 + 10)) M I h0 zfl_X5_21 dX5_anchorProperty_53 rfl ?_
        refine zgetR (j := (i0 + 13)) M I (zs_5_1 h0) zfl_X5_150 dX5_anchorProperty_56 rfl ?_
        refine lv_iload_n hx hb dX5_anchorProperty_59 rfl (lv_at hl 1 rfl) ?_
        obtain ⟨x6, e_x6, hr⟩ := zb_some hr
        refine zcallI M I (zrunV (as := [.int a1]) M I (c_X1_at l g fu (zs_2_1 (zs_5_1 h0)) e_x6) (zs_2_1 (zs_5_1 h0)) zK1.1 (by decide) zlv_X5_73 ⟨Nat.le_of_ble_eq_true rfl, Nat.le_of_ble_eq_true rfl⟩ ⟨Nat.zero_le _, Nat.zero_le _⟩ rfl rfl (Nat.le_of_ble_eq_true rfl) hl.1 dX5_anchorProperty_60) (fun H locs I => ?_)
        obtain rfl := Option.some.inj hr
        exact zretI M I dX5_anchorProperty_63
      · replace hr := zif_f hr c5
        refine lv_tableOut (tgt := 64) hx hb dX5_anchorProperty_1 (ztab_3 c1 c3 c5) (by decide) ?_
        refine lv_aload_n hx hb dX5_anchorProperty_64 rfl (lv_at hl 0 rfl) ?_
        refine zgetR (j := (i0 + 10)) M I h0 zfl_X5_21 dX5_anchorProperty_65 rfl ?_
        refine zgetR (j := (i0 + 15)) M I (zs_5_1 h0) zfl_X5_153 dX5_anchorProperty_68 rfl ?_
        refine lv_iload_n hx hb dX5_anchorProperty_71 rfl (lv_at hl 1 rfl) ?_
        obtain ⟨x7, e_x7, hr⟩ := zb_some hr
        refine zcallI M I (zrunV (as := [.int a1]) M I (c_X1_at l g fu (zs_2_2 (zs_5_1 h0)) e_x7) (zs_2_2 (zs_5_1 h0)) zK1.1 (by decide) zlv_X5_73 ⟨Nat.le_of_ble_eq_true rfl, Nat.le_of_ble_eq_true rfl⟩ ⟨Nat.zero_le _, Nat.zero_le _⟩ rfl rfl (Nat.le_of_ble_eq_true rfl) hl.1 dX5_anchorProperty_72) (fun H locs I => ?_)
        obtain rfl := Option.some.inj hr
        exact zretI M I dX5_anchorProperty_75
def m_X9_property (fu : Nat) (σ : zmem) (i0 : Nat) (a1 : Int32) (a2 : Int32) : Option (Int32) := (if a2 = (0 : Int32) then (m_X1_at fu σ (i0 + 2) a1).bind fun x2 => some x2 else (if a2 = (1 : Int32) then (m_X1_at fu σ (i0 + 4) a1).bind fun x4 => some x4 else (m_X1_at fu σ (i0 + 10) a1).bind fun x5 => some x5))
set_option maxHeartbeats 4000000 in
set_option maxRecDepth 100000 in
theorem c_X9_property (l : Launch) (g : zgeo) (fu : Nat) {σ : zmem} {i0 : Nat} {a1 : Int32} {a2 : Int32} {r : Int32} (h0 : zkd i0 = (9, 0)) (hr : m_X9_property fu σ i0 a1 a2 = some r) : zCt (zQI g r σ) l g yX9_property cX9_property 3 (some .int) 1 21 [.ref (zA g i0), .int a1, .int a2] σ := by
  refine zopen (by decide) (Nat.le_of_ble_eq_true rfl) ?_
  intro p e s m below meth c M ls hl I
  have M : zMC RX9 cX9_property 3 (some .int) g p m c s ([.ref (zA g i0), .int a1, .int a2] : List Value).toArray meth := M
  have hl : lv_has ls 3 [(0, .ref (zA g i0)), (1, .int a1), (2, .int a2)] := hl
  generalize ([.ref (zA g i0), .int a1, .int a2] : List Value).toArray = args at M ⊢
  have hx := M.1.1
  have hb := M.1.2.1
  unfold m_X9_property at hr
  refine lv_iload_n hx hb dX9_property_0 rfl (lv_at hl 2 rfl) ?_
  by_cases c1 : a2 = (0 : Int32)
  · replace hr := zif_t hr c1
    refine lv_lookup (tgt := 28) hx hb dX9_property_1 (by decide) (by rw [c1]; try rfl) (by decide) ?_
    refine lv_aload_n hx hb dX9_property_28 rfl (lv_at hl 0 rfl) ?_
    refine zgetR (j := (i0 + 1)) M I h0 zfl_X9_12 dX9_property_29 rfl ?_
    refine zgetR (j := (i0 + 2)) M I (zs_9_0 h0) zfl_X9_58 dX9_property_32 rfl ?_
    refine lv_iload_n hx hb dX9_property_35 rfl (lv_at hl 1 rfl) ?_
    obtain ⟨x2, e_x2, hr⟩ := zb_some hr
    refine zcallI M I (zrunV (as := [.int a1]) M I (c_X1_at l g fu (zs_0_0 (zs_9_0 h0)) e_x2) (zs_0_0 (zs_9_0 h0)) zK1.1 (by decide) zlv_X9_44 ⟨Nat.le_of_ble_eq_true rfl, Nat.le_of_ble_eq_true rfl⟩ ⟨Nat.zero_le _, Nat.zero_le _⟩ rfl rfl (Nat.le_of_ble_eq_true rfl) hl.1 dX9_property_36) (fun H locs I => ?_)
    obtain rfl := Option.some.inj hr
    exact zretI M I dX9_property_39
  · replace hr := zif_f hr c1
    by_cases c3 : a2 = (1 : Int32)
    · replace hr := zif_t hr c3
      refine lv_lookup (tgt := 40) hx hb dX9_property_1 (by decide) (by rw [c3]; try rfl) (by decide) ?_
      refine lv_aload_n hx hb dX9_property_40 rfl (lv_at hl 0 rfl) ?_
      refine zgetR (j := (i0 + 1)) M I h0 zfl_X9_12 dX9_property_41 rfl ?_
      refine zgetR (j := (i0 + 4)) M I (zs_9_0 h0) zfl_X9_41 dX9_property_44 rfl ?_
      refine lv_iload_n hx hb dX9_property_47 rfl (lv_at hl 1 rfl) ?_
      obtain ⟨x4, e_x4, hr⟩ := zb_some hr
      refine zcallI M I (zrunV (as := [.int a1]) M I (c_X1_at l g fu (zs_0_1 (zs_9_0 h0)) e_x4) (zs_0_1 (zs_9_0 h0)) zK1.1 (by decide) zlv_X9_44 ⟨Nat.le_of_ble_eq_true rfl, Nat.le_of_ble_eq_true rfl⟩ ⟨Nat.zero_le _, Nat.zero_le _⟩ rfl rfl (Nat.le_of_ble_eq_true rfl) hl.1 dX9_property_48) (fun H locs I => ?_)
      obtain rfl := Option.some.inj hr
      exact zretI M I dX9_property_51
    · replace hr := zif_f hr c3
      refine lv_lookup (tgt := 52) hx hb dX9_property_1 (by decide) (zlook_2 c1 c3) (by decide) ?_
      refine lv_aload_n hx hb dX9_property_52 rfl (lv_at hl 0 rfl) ?_
      refine zgetR (j := (i0 + 10)) M I h0 zfl_X9_30 dX9_property_53 rfl ?_
      refine lv_iload_n hx hb dX9_property_56 rfl (lv_at hl 1 rfl) ?_
      obtain ⟨x5, e_x5, hr⟩ := zb_some hr
      refine zcallI M I (zrunV (as := [.int a1]) M I (c_X1_at l g fu (zs_9_3 h0) e_x5) (zs_9_3 h0) zK1.1 (by decide) zlv_X9_44 ⟨Nat.le_of_ble_eq_true rfl, Nat.le_of_ble_eq_true rfl⟩ ⟨Nat.zero_le _, Nat.zero_le _⟩ rfl rfl (Nat.le_of_ble_eq_true rfl) hl.1 dX9_property_57) (fun H locs I => ?_)
      obtain rfl := Option.some.inj hr
      exact zretI M I dX9_property_60
def m_X5_gapProperty (fu : Nat) (σ : zmem) (i0 : Nat) (a1 : Int32) (a2 : Int32) : Option (Int32) := (if (σ.1 i0 2) ≤ a1 then some (-1 : Int32) else (m_X1_at fu σ (i0 + 22) ((a1 * (5 : Int32)) + a2)).bind fun x1 => some x1)
set_option maxHeartbeats 4000000 in
set_option maxRecDepth 100000 in
theorem c_X5_gapProperty (l : Launch) (g : zgeo) (fu : Nat) {σ : zmem} {i0 : Nat} {a1 : Int32} {a2 : Int32} {r : Int32} (h0 : zkd i0 = (5, 0)) (hr : m_X5_gapProperty fu σ i0 a1 a2 = some r) : zCt (zQI g r σ) l g yX5_gapProperty cX5_gapProperty 3 (some .int) 1 21 [.ref (zA g i0), .int a1, .int a2] σ := by
  refine zopen (by decide) (Nat.le_of_ble_eq_true rfl) ?_
  intro p e s m below meth c M ls hl I
  have M : zMC RX5 cX5_gapProperty 3 (some .int) g p m c s ([.ref (zA g i0), .int a1, .int a2] : List Value).toArray meth := M
  have hl : lv_has ls 3 [(0, .ref (zA g i0)), (1, .int a1), (2, .int a2)] := hl
  generalize ([.ref (zA g i0), .int a1, .int a2] : List Value).toArray = args at M ⊢
  have hx := M.1.1
  have hb := M.1.2.1
  unfold m_X5_gapProperty at hr
  refine lv_iload_n hx hb dX5_gapProperty_0 rfl (lv_at hl 1 rfl) ?_
  refine lv_aload_n hx hb dX5_gapProperty_1 rfl (lv_at hl 0 rfl) ?_
  refine zgetI M I h0 zfl_X5_25 dX5_gapProperty_2 ?_
  refine lv_icmp_ge (tgt := 23) hx hb dX5_gapProperty_5 (by decide) (fun c2 => ?_) (fun c2 => ?_)
  · replace hr := zif_t hr c2
    refine lv_iconst (v := (-1 : Int32)) hx hb dX5_gapProperty_23 (by decide) ?_
    obtain rfl := Option.some.inj hr
    exact zretI M I dX5_gapProperty_24
  · replace hr := zif_f hr c2
    refine lv_aload_n hx hb dX5_gapProperty_8 rfl (lv_at hl 0 rfl) ?_
    refine zgetR (j := (i0 + 22)) M I h0 zfl_X5_44 dX5_gapProperty_9 rfl ?_
    refine lv_iload_n hx hb dX5_gapProperty_12 rfl (lv_at hl 1 rfl) ?_
    refine lv_iconst (v := (5 : Int32)) hx hb dX5_gapProperty_13 (by decide) ?_
    refine lv_imul hx hb dX5_gapProperty_14 ?_
    refine lv_iload_n hx hb dX5_gapProperty_15 rfl (lv_at hl 2 rfl) ?_
    refine lv_iadd hx hb dX5_gapProperty_16 ?_
    obtain ⟨x1, e_x1, hr⟩ := zb_some hr
    refine zcallI M I (zrunV (as := [.int ((a1 * (5 : Int32)) + a2)]) M I (c_X1_at l g fu (zs_5_5 h0) e_x1) (zs_5_5 h0) zK1.1 (by decide) zlv_X5_73 ⟨Nat.le_of_ble_eq_true rfl, Nat.le_of_ble_eq_true rfl⟩ ⟨Nat.zero_le _, Nat.zero_le _⟩ rfl rfl (Nat.le_of_ble_eq_true rfl) hl.1 dX5_gapProperty_17) (fun H locs I => ?_)
    refine lv_goto (tgt := 24) hx hb dX5_gapProperty_20 (by decide) ?_
    obtain rfl := Option.some.inj hr
    exact zretI M I dX5_gapProperty_24
def m_X5_partnersOf (fu : Nat) (σ : zmem) (i0 : Nat) (a1 : Int32) : Option (Nat) := (if ¬ a1 = 0 then some (i0 + 26) else some (i0 + 24))
set_option maxHeartbeats 4000000 in
set_option maxRecDepth 100000 in
theorem c_X5_partnersOf (l : Launch) (g : zgeo) (fu : Nat) {σ : zmem} {i0 : Nat} {a1 : Int32} {r : Nat} (h0 : zkd i0 = (5, 0)) (hr : m_X5_partnersOf fu σ i0 a1 = some r) : zCt (zQR g r σ) l g yX5_partnersOf cX5_partnersOf 2 (some (.object "AnchorChains$Cells")) 0 0 [.ref (zA g i0), .int a1] σ := by
  refine zopen (by decide) (Nat.le_of_ble_eq_true rfl) ?_
  intro p e s m below meth c M ls hl I
  have M : zMC RX5 cX5_partnersOf 2 (some (.object "AnchorChains$Cells")) g p m c s ([.ref (zA g i0), .int a1] : List Value).toArray meth := M
  have hl : lv_has ls 2 [(0, .ref (zA g i0)), (1, .int a1)] := hl
  generalize ([.ref (zA g i0), .int a1] : List Value).toArray = args at M ⊢
  have hx := M.1.1
  have hb := M.1.2.1
  unfold m_X5_partnersOf at hr
  refine lv_iload_n hx hb dX5_partnersOf_0 rfl (lv_at hl 1 rfl) ?_
  refine lv_if_ne (tgt := 11) hx hb dX5_partnersOf_1 (by decide) (fun c1 => ?_) (fun c1 => ?_)
  · replace hr := zif_t hr c1
    refine lv_aload_n hx hb dX5_partnersOf_11 rfl (lv_at hl 0 rfl) ?_
    refine zgetR (j := (i0 + 26)) M I h0 zfl_X5_51 dX5_partnersOf_12 rfl ?_
    obtain rfl := Option.some.inj hr
    exact zretR M I dX5_partnersOf_15
  · replace hr := zif_f hr (fun hq => hq c1)
    refine lv_aload_n hx hb dX5_partnersOf_4 rfl (lv_at hl 0 rfl) ?_
    refine zgetR (j := (i0 + 24)) M I h0 zfl_X5_48 dX5_partnersOf_5 rfl ?_
    refine lv_goto (tgt := 15) hx hb dX5_partnersOf_8 (by decide) ?_
    obtain rfl := Option.some.inj hr
    exact zretR M I dX5_partnersOf_15
theorem zq_X5_partnersOf {fu : Nat} {σ : zmem} {i0 : Nat} {a1 : Int32} {x : Nat} (h0 : zkd i0 = (5, 0)) (e : m_X5_partnersOf fu σ i0 a1 = some x) : zkd x = (1, 0) := by
  unfold m_X5_partnersOf at e
  split at e <;> cases e <;> first | exact zs_5_6 h0 | exact zs_5_7 h0
def m_X5_freeCost (fu : Nat) (σ : zmem) (i0 : Nat) (i1 : Nat) : Option (Int32 × zmem) := (m_X6_size fu σ (i1 + 1)).bind fun x1 => (m_X6_size fu σ (i1 + 3)).bind fun x2 => (m_X3_layParts fu σ (i0 + 19) (0 : Int32) x1 (0 : Int32) x2).bind fun x3 => (m_X3_fill fu x3 (i0 + 19) i1 (24 : Int32)).bind fun x4 => some (x4.1, x4.2)
set_option maxHeartbeats 4000000 in
set_option maxRecDepth 100000 in
theorem c_X5_freeCost (l : Launch) (g : zgeo) (fu : Nat) {σ : zmem} {i0 : Nat} {i1 : Nat} {r : Int32 × zmem} (h0 : zkd i0 = (5, 0)) (h1 : zkd i1 = (7, 0)) (hr : m_X5_freeCost fu σ i0 i1 = some r) : zCt (zQI g r.1 r.2) l g yX5_freeCost cX5_freeCost 2 (some .int) 3 77 [.ref (zA g i0), .ref (zA g i1)] σ := by
  refine zopen (by decide) (Nat.le_of_ble_eq_true rfl) ?_
  intro p e s m below meth c M ls hl I
  have M : zMC RX5 cX5_freeCost 2 (some .int) g p m c s ([.ref (zA g i0), .ref (zA g i1)] : List Value).toArray meth := M
  have hl : lv_has ls 2 [(0, .ref (zA g i0)), (1, .ref (zA g i1))] := hl
  generalize ([.ref (zA g i0), .ref (zA g i1)] : List Value).toArray = args at M ⊢
  have hx := M.1.1
  have hb := M.1.2.1
  unfold m_X5_freeCost at hr
  refine lv_aload_n hx hb dX5_freeCost_0 rfl (lv_at hl 0 rfl) ?_
  refine zgetR (j := (i0 + 19)) M I h0 zfl_X5_35 dX5_freeCost_1 rfl ?_
  refine lv_iconst (v := (0 : Int32)) hx hb dX5_freeCost_4 (by decide) ?_
  refine lv_aload_n hx hb dX5_freeCost_5 rfl (lv_at hl 1 rfl) ?_
  refine zgetR (j := (i1 + 1)) M I h1 zfl_X5_91 dX5_freeCost_6 rfl ?_
  obtain ⟨x1, e_x1, hr⟩ := zb_some hr
  refine zcallI M I (zrunV (as := []) M I (c_X6_size l g fu (zs_7_0 h1) e_x1) (zs_7_0 h1) zK6.1 (by decide) zlv_X5_97 ⟨Nat.le_of_ble_eq_true rfl, Nat.le_of_ble_eq_true rfl⟩ ⟨Nat.zero_le _, Nat.zero_le _⟩ rfl rfl (Nat.le_of_ble_eq_true rfl) hl.1 dX5_freeCost_9) (fun H locs I => ?_)
  refine lv_iconst (v := (0 : Int32)) hx hb dX5_freeCost_12 (by decide) ?_
  refine lv_aload_n hx hb dX5_freeCost_13 rfl (lv_at hl 1 rfl) ?_
  refine zgetR (j := (i1 + 3)) M I h1 zfl_X5_103 dX5_freeCost_14 rfl ?_
  obtain ⟨x2, e_x2, hr⟩ := zb_some hr
  refine zcallI M I (zrunV (as := []) M I (c_X6_size l g fu (zs_7_1 h1) e_x2) (zs_7_1 h1) zK6.1 (by decide) zlv_X5_97 ⟨Nat.le_of_ble_eq_true rfl, Nat.le_of_ble_eq_true rfl⟩ ⟨Nat.zero_le _, Nat.zero_le _⟩ rfl rfl (Nat.le_of_ble_eq_true rfl) hl.1 dX5_freeCost_17) (fun H locs I => ?_)
  obtain ⟨x3, e_x3, hr⟩ := zb_some hr
  refine zcallU M I (zrunV (as := [.int (0 : Int32), .int x1, .int (0 : Int32), .int x2]) M I (c_X3_layParts l g fu (zs_5_4 h0) e_x3) (zs_5_4 h0) zK3.1 (by decide) zlv_X5_112 ⟨Nat.le_of_ble_eq_true rfl, Nat.le_of_ble_eq_true rfl⟩ ⟨Nat.zero_le _, Nat.zero_le _⟩ rfl rfl (Nat.le_of_ble_eq_true rfl) hl.1 dX5_freeCost_20) (fun H locs I => ?_)
  refine lv_aload_n hx hb dX5_freeCost_23 rfl (lv_at hl 0 rfl) ?_
  refine zgetR (j := (i0 + 19)) M I h0 zfl_X5_35 dX5_freeCost_24 rfl ?_
  refine lv_aload_n hx hb dX5_freeCost_27 rfl (lv_at hl 1 rfl) ?_
  refine lv_bipush (v := (24 : Int32)) hx hb dX5_freeCost_28 (by decide) ?_
  obtain ⟨x4, e_x4, hr⟩ := zb_some hr
  refine zcallI M I (zrunV (as := [.ref (zA g i1), .int (24 : Int32)]) M I (c_X3_fill l g fu (zs_5_4 h0) h1 e_x4) (zs_5_4 h0) zK3.1 (by decide) zlv_X5_128 ⟨Nat.le_of_ble_eq_true rfl, Nat.le_of_ble_eq_true rfl⟩ ⟨Nat.zero_le _, Nat.zero_le _⟩ rfl rfl (Nat.le_of_ble_eq_true rfl) hl.1 dX5_freeCost_30) (fun H locs I => ?_)
  obtain rfl := Option.some.inj hr
  exact zretI M I dX5_freeCost_33
def l_X5_likePairs_4 (fu : Nat) (σ : zmem) (i0 : Nat) (i1 : Nat) : Nat → Int32 → Int32 → Option (Int32)
  | 0, _, _ => none
  | n + 1, v2, v3 => (m_X6_size fu σ (i1 + 1)).bind fun x1 => (if x1 ≤ v3 then some v2 else (m_X1_at fu σ (i0 + 24) v3).bind fun x2 => ((if x2 = (-1 : Int32) then some v2 else (m_X6_signAt fu σ (i1 + 1) v3).bind fun x4 => (m_X6_signAt fu σ (i1 + 3) x2).bind fun x5 => (if ¬ x4 = x5 then some v2 else some (v2 + 1))) : Option (Int32)).bind fun x3 => l_X5_likePairs_4 fu σ i0 i1 n x3 (v3 + 1))
set_option maxHeartbeats 4000000 in
set_option maxRecDepth 100000 in
theorem k_X5_likePairs_4 {l : Launch} {g : zgeo} {fu : Nat} {p : Program} {e : Env} {s : State} {m : MethodId} {args : Array Value} {below : List Frame} {meth : Method} {c : Code} (M : zMC RX5 cX5_likePairs 5 (some .int) g p m c s args meth) {σ : zmem} {i0 : Nat} {i1 : Nat} (h0 : zkd i0 = (5, 0)) (h1 : zkd i1 = (7, 0)) {Q : State → Prop} : ∀ (n : Nat) (v2 : Int32) (v3 : Int32) (o : Int32), l_X5_likePairs_4 fu σ i0 i1 n v2 v3 = some o → ∀ (ls : Array Slot) (H : Heap) (locs : List Loc), lv_has ls 5 [(0, .ref (zA g i0)), (1, .ref (zA g i1)), (2, .int v2), (3, .int v3)] → zIV g σ (zAA g) s.heap H locs → (∀ (ls : Array Slot) (H : Heap) (locs : List Loc), lv_has ls 5 [(2, .int o)] → zIV g σ (zAA g) s.heap H locs → W p l e (zrm 1 21) s m args below meth c H locs 0 0 Q (F0 m 60 ls [])) → W p l e (zrm 1 21) s m args below meth c H locs 0 0 Q (F0 m 4 ls []) := by
  have hx := M.1.1
  have hb := M.1.2.1
  intro n
  induction n with
  | zero =>
    intro v2 v3 o hr ls H locs hl I KF
    have hr : (none : Option (Int32)) = some o := hr
    cases hr
  | succ n ih =>
    intro v2 v3 o hr ls H locs hl I KF
    rw [l_X5_likePairs_4] at hr
    refine lv_iload_n hx hb dX5_likePairs_4 rfl (lv_at hl 3 rfl) ?_
    refine lv_aload_n hx hb dX5_likePairs_5 rfl (lv_at hl 1 rfl) ?_
    refine zgetR (j := (i1 + 1)) M I h1 zfl_X5_91 dX5_likePairs_6 rfl ?_
    obtain ⟨x1, e_x1, hr⟩ := zb_some hr
    refine zcallI M I (zrunV (as := []) M I (c_X6_size l g fu (zs_7_0 h1) e_x1) (zs_7_0 h1) zK6.1 (by decide) zlv_X5_97 ⟨Nat.le_of_ble_eq_true rfl, Nat.le_of_ble_eq_true rfl⟩ ⟨Nat.zero_le _, Nat.zero_le _⟩ rfl rfl (Nat.le_of_ble_eq_true rfl) hl.1 dX5_likePairs_9) (fun H locs I => ?_)
    refine lv_icmp_ge (tgt := 60) hx hb dX5_likePairs_12 (by decide) (fun c8 => ?_) (fun c8 => ?_)
    · replace hr := zif_t hr c8
      obtain rfl := Option.some.inj hr
      exact KF ls _ _ (lv_sub hl [2] rfl) I
    · replace hr := zif_f hr c8
      refine lv_aload_n hx hb dX5_likePairs_15 rfl (lv_at hl 0 rfl) ?_
      refine zgetR (j := (i0 + 24)) M I h0 zfl_X5_48 dX5_likePairs_16 rfl ?_
      refine lv_iload_n hx hb dX5_likePairs_19 rfl (lv_at hl 3 rfl) ?_
      obtain ⟨x2, e_x2, hr⟩ := zb_some hr
      refine zcallI M I (zrunV (as := [.int v3]) M I (c_X1_at l g fu (zs_5_6 h0) e_x2) (zs_5_6 h0) zK1.1 (by decide) zlv_X5_73 ⟨Nat.le_of_ble_eq_true rfl, Nat.le_of_ble_eq_true rfl⟩ ⟨Nat.zero_le _, Nat.zero_le _⟩ rfl rfl (Nat.le_of_ble_eq_true rfl) hl.1 dX5_likePairs_20) (fun H locs I => ?_)
      refine lv_istore (lv' := [(4, .int x2), (0, .ref (zA g i0)), (1, .ref (zA g i1)), (2, .int v2), (3, .int v3)]) hx hb dX5_likePairs_23 hl (by decide) rfl (fun ls hl => ?_)
      refine lv_iload hx hb dX5_likePairs_25 (lv_at hl 0 rfl) ?_
      refine lv_iconst (v := (-1 : Int32)) hx hb dX5_likePairs_27 (by decide) ?_
      obtain ⟨x3, e_x3, hr⟩ := zb_some hr
      have K_x3 : ∀ (ls : Array Slot) (H : Heap) (locs : List Loc), lv_has ls 5 [(0, .ref (zA g i0)), (1, .ref (zA g i1)), (2, .int x3), (3, .int v3)] → zIV g σ (zAA g) s.heap H locs → W p l e (zrm 1 21) s m args below meth c H locs 0 0 Q (F0 m 54 ls []) := by
        intro ls H locs hl I
        refine lv_iinc (lv' := [(3, .int (v3 + 1)), (0, .ref (zA g i0)), (1, .ref (zA g i1)), (2, .int x3)]) (k := 3) (v := (v3 + 1)) hx hb dX5_likePairs_54 hl rfl (zi_1 _) (by decide) rfl (fun ls hl => ?_)
        refine lv_goto (tgt := 4) hx hb dX5_likePairs_57 (by decide) ?_
        exact ih _ _  _ hr ls _ _ (lv_sub hl [1, 2, 3, 0] rfl) I KF
      refine lv_icmp_eq (tgt := 54) hx hb dX5_likePairs_28 (by decide) (fun c7 => ?_) (fun c7 => ?_)
      · replace e_x3 := zif_t e_x3 c7
        obtain rfl := Option.some.inj e_x3
        exact K_x3 ls _ _ (lv_sub hl [1, 2, 3, 4] rfl) I
      · replace e_x3 := zif_f e_x3 c7
        refine lv_aload_n hx hb dX5_likePairs_31 rfl (lv_at hl 2 rfl) ?_
        refine zgetR (j := (i1 + 1)) M I h1 zfl_X5_91 dX5_likePairs_32 rfl ?_
        refine lv_iload_n hx hb dX5_likePairs_35 rfl (lv_at hl 4 rfl) ?_
        obtain ⟨x4, e_x4, e_x3⟩ := zb_some e_x3
        refine zcallI M I (zrunV (as := [.int v3]) M I (c_X6_signAt l g fu (zs_7_0 h1) e_x4) (zs_7_0 h1) zK6.1 (by decide) zlv_X5_156 ⟨Nat.le_of_ble_eq_true rfl, Nat.le_of_ble_eq_true rfl⟩ ⟨Nat.zero_le _, Nat.zero_le _⟩ rfl rfl (Nat.le_of_ble_eq_true rfl) hl.1 dX5_likePairs_36) (fun H locs I => ?_)
        refine lv_aload_n hx hb dX5_likePairs_39 rfl (lv_at hl 2 rfl) ?_
        refine zgetR (j := (i1 + 3)) M I h1 zfl_X5_103 dX5_likePairs_40 rfl ?_
        refine lv_iload hx hb dX5_likePairs_43 (lv_at hl 0 rfl) ?_
        obtain ⟨x5, e_x5, e_x3⟩ := zb_some e_x3
        refine zcallI M I (zrunV (as := [.int x2]) M I (c_X6_signAt l g fu (zs_7_1 h1) e_x5) (zs_7_1 h1) zK6.1 (by decide) zlv_X5_156 ⟨Nat.le_of_ble_eq_true rfl, Nat.le_of_ble_eq_true rfl⟩ ⟨Nat.zero_le _, Nat.zero_le _⟩ rfl rfl (Nat.le_of_ble_eq_true rfl) hl.1 dX5_likePairs_45) (fun H locs I => ?_)
        refine lv_icmp_ne (tgt := 54) hx hb dX5_likePairs_48 (by decide) (fun c6 => ?_) (fun c6 => ?_)
        · replace e_x3 := zif_t e_x3 c6
          obtain rfl := Option.some.inj e_x3
          exact K_x3 ls _ _ (lv_sub hl [1, 2, 3, 4] rfl) I
        · replace e_x3 := zif_f e_x3 (fun hq => hq c6)
          refine lv_iinc (lv' := [(2, .int (v2 + 1)), (4, .int x2), (0, .ref (zA g i0)), (1, .ref (zA g i1)), (3, .int v3)]) (k := 3) (v := (v2 + 1)) hx hb dX5_likePairs_51 hl rfl (zi_1 _) (by decide) rfl (fun ls hl => ?_)
          obtain rfl := Option.some.inj e_x3
          exact K_x3 ls _ _ (lv_sub hl [2, 3, 0, 4] rfl) I
def m_X5_likePairs (fu : Nat) (σ : zmem) (i0 : Nat) (i1 : Nat) : Option (Int32) := (l_X5_likePairs_4 fu σ i0 i1 fu (0 : Int32) (0 : Int32)).bind fun x9 => some x9
set_option maxHeartbeats 4000000 in
set_option maxRecDepth 100000 in
theorem c_X5_likePairs (l : Launch) (g : zgeo) (fu : Nat) {σ : zmem} {i0 : Nat} {i1 : Nat} {r : Int32} (h0 : zkd i0 = (5, 0)) (h1 : zkd i1 = (7, 0)) (hr : m_X5_likePairs fu σ i0 i1 = some r) : zCt (zQI g r σ) l g yX5_likePairs cX5_likePairs 5 (some .int) 1 21 [.ref (zA g i0), .ref (zA g i1)] σ := by
  refine zopen (by decide) (Nat.le_of_ble_eq_true rfl) ?_
  intro p e s m below meth c M ls hl I
  have M : zMC RX5 cX5_likePairs 5 (some .int) g p m c s ([.ref (zA g i0), .ref (zA g i1)] : List Value).toArray meth := M
  have hl : lv_has ls 5 [(0, .ref (zA g i0)), (1, .ref (zA g i1))] := hl
  generalize ([.ref (zA g i0), .ref (zA g i1)] : List Value).toArray = args at M ⊢
  have hx := M.1.1
  have hb := M.1.2.1
  unfold m_X5_likePairs at hr
  refine lv_iconst (v := (0 : Int32)) hx hb dX5_likePairs_0 (by decide) ?_
  refine lv_istore_n (lv' := [(2, .int (0 : Int32)), (0, .ref (zA g i0)), (1, .ref (zA g i1))]) hx hb dX5_likePairs_1 rfl hl (by decide) rfl (fun ls hl => ?_)
  refine lv_iconst (v := (0 : Int32)) hx hb dX5_likePairs_2 (by decide) ?_
  refine lv_istore_n (lv' := [(3, .int (0 : Int32)), (2, .int (0 : Int32)), (0, .ref (zA g i0)), (1, .ref (zA g i1))]) hx hb dX5_likePairs_3 rfl hl (by decide) rfl (fun ls hl => ?_)
  obtain ⟨x9, e_x9, hr⟩ := zb_some hr
  refine k_X5_likePairs_4 M h0 h1 fu _ _  _ e_x9 ls _ _ (lv_sub hl [2, 3, 1, 0] rfl) I (fun ls H locs hl I => ?_)
  refine lv_iload_n hx hb dX5_likePairs_60 rfl (lv_at hl 0 rfl) ?_
  obtain rfl := Option.some.inj hr
  exact zretI M I dX5_likePairs_61
def l_X5_leftOut_5 (fu : Nat) (σ : zmem) (i0 : Nat) (a1 : Int32) (a2 : Int32) : Nat → Int32 → Int32 → Option (Int32)
  | 0, _, _ => none
  | n + 1, v3, v4 => (if a2 ≤ v4 then some v3 else (m_X5_partnersOf fu σ i0 a1).bind fun x1 => (m_X1_at fu σ x1 v4).bind fun x2 => ((if ¬ x2 = (-1 : Int32) then some v3 else some (v3 + 1)) : Option (Int32)).bind fun x3 => l_X5_leftOut_5 fu σ i0 a1 a2 n x3 (v4 + 1))
set_option maxHeartbeats 4000000 in
set_option maxRecDepth 100000 in
theorem k_X5_leftOut_5 {l : Launch} {g : zgeo} {fu : Nat} {p : Program} {e : Env} {s : State} {m : MethodId} {args : Array Value} {below : List Frame} {meth : Method} {c : Code} (M : zMC RX5 cX5_leftOut 5 (some .int) g p m c s args meth) {σ : zmem} {i0 : Nat} {a1 : Int32} {a2 : Int32} (h0 : zkd i0 = (5, 0)) {Q : State → Prop} : ∀ (n : Nat) (v3 : Int32) (v4 : Int32) (o : Int32), l_X5_leftOut_5 fu σ i0 a1 a2 n v3 v4 = some o → ∀ (ls : Array Slot) (H : Heap) (locs : List Loc), lv_has ls 5 [(0, .ref (zA g i0)), (1, .int a1), (2, .int a2), (3, .int v3), (4, .int v4)] → zIV g σ (zAA g) s.heap H locs → (∀ (ls : Array Slot) (H : Heap) (locs : List Loc), lv_has ls 5 [(3, .int o)] → zIV g σ (zAA g) s.heap H locs → W p l e (zrm 1 21) s m args below meth c H locs 0 0 Q (F0 m 34 ls [])) → W p l e (zrm 1 21) s m args below meth c H locs 0 0 Q (F0 m 5 ls []) := by
  have hx := M.1.1
  have hb := M.1.2.1
  intro n
  induction n with
  | zero =>
    intro v3 v4 o hr ls H locs hl I KF
    have hr : (none : Option (Int32)) = some o := hr
    cases hr
  | succ n ih =>
    intro v3 v4 o hr ls H locs hl I KF
    rw [l_X5_leftOut_5] at hr
    refine lv_iload hx hb dX5_leftOut_5 (lv_at hl 4 rfl) ?_
    refine lv_iload_n hx hb dX5_leftOut_7 rfl (lv_at hl 2 rfl) ?_
    refine lv_icmp_ge (tgt := 34) hx hb dX5_leftOut_8 (by decide) (fun c5 => ?_) (fun c5 => ?_)
    · replace hr := zif_t hr c5
      obtain rfl := Option.some.inj hr
      exact KF ls _ _ (lv_sub hl [3] rfl) I
    · replace hr := zif_f hr c5
      refine lv_aload_n hx hb dX5_leftOut_11 rfl (lv_at hl 0 rfl) ?_
      refine lv_iload_n hx hb dX5_leftOut_12 rfl (lv_at hl 1 rfl) ?_
      obtain ⟨x1, e_x1, hr⟩ := zb_some hr
      refine zcallR M I (zrunV (as := [.int a1]) M I (c_X5_partnersOf l g fu h0 e_x1) h0 zK5.1 (by decide) zlv_X5_159 ⟨Nat.le_of_ble_eq_true rfl, Nat.le_of_ble_eq_true rfl⟩ ⟨Nat.zero_le _, Nat.zero_le _⟩ rfl rfl (Nat.le_of_ble_eq_true rfl) hl.1 dX5_leftOut_13) (fun H locs I => ?_)
      refine lv_iload hx hb dX5_leftOut_16 (lv_at hl 4 rfl) ?_
      obtain ⟨x2, e_x2, hr⟩ := zb_some hr
      refine zcallI M I (zrunV (as := [.int v4]) M I (c_X1_at l g fu (zq_X5_partnersOf h0 e_x1) e_x2) (zq_X5_partnersOf h0 e_x1) zK1.1 (by decide) zlv_X5_73 ⟨Nat.le_of_ble_eq_true rfl, Nat.le_of_ble_eq_true rfl⟩ ⟨Nat.zero_le _, Nat.zero_le _⟩ rfl rfl (Nat.le_of_ble_eq_true rfl) hl.1 dX5_leftOut_18) (fun H locs I => ?_)
      refine lv_iconst (v := (-1 : Int32)) hx hb dX5_leftOut_21 (by decide) ?_
      obtain ⟨x3, e_x3, hr⟩ := zb_some hr
      have K_x3 : ∀ (ls : Array Slot) (H : Heap) (locs : List Loc), lv_has ls 5 [(0, .ref (zA g i0)), (1, .int a1), (2, .int a2), (3, .int x3), (4, .int v4)] → zIV g σ (zAA g) s.heap H locs → W p l e (zrm 1 21) s m args below meth c H locs 0 0 Q (F0 m 28 ls []) := by
        intro ls H locs hl I
        refine lv_iinc (lv' := [(4, .int (v4 + 1)), (0, .ref (zA g i0)), (1, .int a1), (2, .int a2), (3, .int x3)]) (k := 4) (v := (v4 + 1)) hx hb dX5_leftOut_28 hl rfl (zi_1 _) (by decide) rfl (fun ls hl => ?_)
        refine lv_goto (tgt := 5) hx hb dX5_leftOut_31 (by decide) ?_
        exact ih _ _  _ hr ls _ _ (lv_sub hl [1, 2, 3, 4, 0] rfl) I KF
      refine lv_icmp_ne (tgt := 28) hx hb dX5_leftOut_22 (by decide) (fun c4 => ?_) (fun c4 => ?_)
      · replace e_x3 := zif_t e_x3 c4
        obtain rfl := Option.some.inj e_x3
        exact K_x3 ls _ _ hl I
      · replace e_x3 := zif_f e_x3 (fun hq => hq c4)
        refine lv_iinc (lv' := [(3, .int (v3 + 1)), (0, .ref (zA g i0)), (1, .int a1), (2, .int a2), (4, .int v4)]) (k := 3) (v := (v3 + 1)) hx hb dX5_leftOut_25 hl rfl (zi_1 _) (by decide) rfl (fun ls hl => ?_)
        obtain rfl := Option.some.inj e_x3
        exact K_x3 ls _ _ (lv_sub hl [1, 2, 3, 0, 4] rfl) I
def m_X5_leftOut (fu : Nat) (σ : zmem) (i0 : Nat) (a1 : Int32) (a2 : Int32) : Option (Int32) := (l_X5_leftOut_5 fu σ i0 a1 a2 fu (0 : Int32) (0 : Int32)).bind fun x6 => some x6
set_option maxHeartbeats 4000000 in
set_option maxRecDepth 100000 in
theorem c_X5_leftOut (l : Launch) (g : zgeo) (fu : Nat) {σ : zmem} {i0 : Nat} {a1 : Int32} {a2 : Int32} {r : Int32} (h0 : zkd i0 = (5, 0)) (hr : m_X5_leftOut fu σ i0 a1 a2 = some r) : zCt (zQI g r σ) l g yX5_leftOut cX5_leftOut 5 (some .int) 1 21 [.ref (zA g i0), .int a1, .int a2] σ := by
  refine zopen (by decide) (Nat.le_of_ble_eq_true rfl) ?_
  intro p e s m below meth c M ls hl I
  have M : zMC RX5 cX5_leftOut 5 (some .int) g p m c s ([.ref (zA g i0), .int a1, .int a2] : List Value).toArray meth := M
  have hl : lv_has ls 5 [(0, .ref (zA g i0)), (1, .int a1), (2, .int a2)] := hl
  generalize ([.ref (zA g i0), .int a1, .int a2] : List Value).toArray = args at M ⊢
  have hx := M.1.1
  have hb := M.1.2.1
  unfold m_X5_leftOut at hr
  refine lv_iconst (v := (0 : Int32)) hx hb dX5_leftOut_0 (by decide) ?_
  refine lv_istore_n (lv' := [(3, .int (0 : Int32)), (0, .ref (zA g i0)), (1, .int a1), (2, .int a2)]) hx hb dX5_leftOut_1 rfl hl (by decide) rfl (fun ls hl => ?_)
  refine lv_iconst (v := (0 : Int32)) hx hb dX5_leftOut_2 (by decide) ?_
  refine lv_istore (lv' := [(4, .int (0 : Int32)), (3, .int (0 : Int32)), (0, .ref (zA g i0)), (1, .int a1), (2, .int a2)]) hx hb dX5_leftOut_3 hl (by decide) rfl (fun ls hl => ?_)
  obtain ⟨x6, e_x6, hr⟩ := zb_some hr
  refine k_X5_leftOut_5 M h0 fu _ _  _ e_x6 ls _ _ (lv_sub hl [2, 3, 4, 1, 0] rfl) I (fun ls H locs hl I => ?_)
  refine lv_iload_n hx hb dX5_leftOut_34 rfl (lv_at hl 0 rfl) ?_
  obtain rfl := Option.some.inj hr
  exact zretI M I dX5_leftOut_35
