def m_X11_thrown (fu : Nat) (σ : zmem) : Option (Int32) := some (σ.1 103 7)
set_option maxHeartbeats 4000000 in
set_option maxRecDepth 100000 in
theorem c_X11_thrown (l : Launch) (g : zgeo) (fu : Nat) {σ : zmem} {r : Int32} (hr : m_X11_thrown fu σ = some r) : zCt (zQI g r σ) l g yX11_thrown cX11_thrown 1 (some .int) 0 0 [.ref (zA g 103)] σ := by
  refine zopen (by decide) (Nat.le_of_ble_eq_true rfl) ?_
  intro p e s m below meth c M ls hl I
  have M : zMC RX11 cX11_thrown 1 (some .int) g p m c s ([.ref (zA g 103)] : List Value).toArray meth := M
  have hl : lv_has ls 1 [(0, .ref (zA g 103))] := hl
  generalize ([.ref (zA g 103)] : List Value).toArray = args at M ⊢
  have hx := M.1.1
  have hb := M.1.2.1
  unfold m_X11_thrown at hr
  refine lv_aload_n hx hb dX11_thrown_0 rfl (lv_at hl 0 rfl) ?_
  refine zgetI M I zc_103 zfl_X11_70 dX11_thrown_1 ?_
  obtain rfl := Option.some.inj hr
  exact zretI M I dX11_thrown_4
def m_X11_within (fu : Nat) (σ : zmem) (a0 : Int32) (a1 : Int32) (a2 : Int32) : Option (Int32) := (if a0 < a1 then some (0 : Int32) else (if a2 < a0 then some (0 : Int32) else some (1 : Int32)))
set_option maxHeartbeats 4000000 in
set_option maxRecDepth 100000 in
theorem c_X11_within (l : Launch) (g : zgeo) (fu : Nat) {σ : zmem} {a0 : Int32} {a1 : Int32} {a2 : Int32} {r : Int32} (hr : m_X11_within fu σ a0 a1 a2 = some r) : zCt (zQI g r σ) l g yX11_within cX11_within 3 (some .boolean) 0 0 [.int a0, .int a1, .int a2] σ := by
  refine zopen (by decide) (Nat.le_of_ble_eq_true rfl) ?_
  intro p e s m below meth c M ls hl I
  have M : zMC RX11 cX11_within 3 (some .boolean) g p m c s ([.int a0, .int a1, .int a2] : List Value).toArray meth := M
  have hl : lv_has ls 3 [(0, .int a0), (1, .int a1), (2, .int a2)] := hl
  generalize ([.int a0, .int a1, .int a2] : List Value).toArray = args at M ⊢
  have hx := M.1.1
  have hb := M.1.2.1
  unfold m_X11_within at hr
  refine lv_iload_n hx hb dX11_within_0 rfl (lv_at hl 0 rfl) ?_
  refine lv_iload_n hx hb dX11_within_1 rfl (lv_at hl 1 rfl) ?_
  refine lv_icmp_lt (tgt := 14) hx hb dX11_within_2 (by decide) (fun c2 => ?_) (fun c2 => ?_)
  · replace hr := zif_t hr c2
    refine lv_iconst (v := (0 : Int32)) hx hb dX11_within_14 (by decide) ?_
    obtain rfl := Option.some.inj hr
    exact zretZ M I (Or.inl rfl) dX11_within_15
  · replace hr := zif_f hr c2
    refine lv_iload_n hx hb dX11_within_5 rfl (lv_at hl 0 rfl) ?_
    refine lv_iload_n hx hb dX11_within_6 rfl (lv_at hl 2 rfl) ?_
    refine lv_icmp_gt (tgt := 14) hx hb dX11_within_7 (by decide) (fun c1 => ?_) (fun c1 => ?_)
    · replace hr := zif_t hr c1
      refine lv_iconst (v := (0 : Int32)) hx hb dX11_within_14 (by decide) ?_
      obtain rfl := Option.some.inj hr
      exact zretZ M I (Or.inl rfl) dX11_within_15
    · replace hr := zif_f hr c1
      refine lv_iconst (v := (1 : Int32)) hx hb dX11_within_10 (by decide) ?_
      refine lv_goto (tgt := 15) hx hb dX11_within_11 (by decide) ?_
      obtain rfl := Option.some.inj hr
      exact zretZ M I (Or.inr rfl) dX11_within_15
def l_X11_save_52 (fu : Nat) : Nat → Int32 → zmem → Option (zmem)
  | 0, _, _ => none
  | n + 1, v1, σ => (if (54 : Int32) ≤ v1 then some σ else (zrd σ 104 v1).bind fun x2 => (zwr σ 105 (((54 : Int32) * (σ.1 103 1)) + v1) x2).bind fun s3 => l_X11_save_52 fu n (v1 + 1) s3)
set_option maxHeartbeats 4000000 in
set_option maxRecDepth 100000 in
theorem k_X11_save_52 {l : Launch} {g : zgeo} {fu : Nat} {p : Program} {e : Env} {s : State} {m : MethodId} {args : Array Value} {below : List Frame} {meth : Method} {c : Code} (M : zMC RX11 cX11_save 2 none g p m c s args meth) {Q : State → Prop} : ∀ (n : Nat) (v1 : Int32) (σ : zmem) (o : zmem), l_X11_save_52 fu n v1 σ = some o → ∀ (ls : Array Slot) (H : Heap) (locs : List Loc), lv_has ls 2 [(0, .ref (zA g 103)), (1, .int v1)] → zIV g σ (zAA g) s.heap H locs → (∀ (ls : Array Slot) (H : Heap) (locs : List Loc), lv_has ls 2 [(0, .ref (zA g 103))] → zIV g o (zAA g) s.heap H locs → W p l e (zrm 0 0) s m args below meth c H locs 0 0 Q (F0 m 84 ls [])) → W p l e (zrm 0 0) s m args below meth c H locs 0 0 Q (F0 m 52 ls []) := by
  have hx := M.1.1
  have hb := M.1.2.1
  intro n
  induction n with
  | zero =>
    intro v1 σ o hr ls H locs hl I KF
    have hr : (none : Option (zmem)) = some o := hr
    cases hr
  | succ n ih =>
    intro v1 σ o hr ls H locs hl I KF
    rw [l_X11_save_52] at hr
    refine lv_iload_n hx hb dX11_save_52 rfl (lv_at hl 1 rfl) ?_
    refine lv_bipush (v := (54 : Int32)) hx hb dX11_save_53 (by decide) ?_
    refine lv_icmp_ge (tgt := 84) hx hb dX11_save_55 (by decide) (fun c4 => ?_) (fun c4 => ?_)
    · replace hr := zif_t hr c4
      obtain rfl := Option.some.inj hr
      exact KF ls _ _ (lv_sub hl [0] rfl) I
    · replace hr := zif_f hr c4
      refine lv_aload_n hx hb dX11_save_58 rfl (lv_at hl 0 rfl) ?_
      refine zgetR (j := 105) M I zc_103 zfl_X11_13 dX11_save_59 rfl ?_
      refine lv_bipush (v := (54 : Int32)) hx hb dX11_save_62 (by decide) ?_
      refine lv_aload_n hx hb dX11_save_64 rfl (lv_at hl 0 rfl) ?_
      refine zgetI M I zc_103 zfl_X11_74 dX11_save_65 ?_
      refine lv_imul hx hb dX11_save_68 ?_
      refine lv_iload_n hx hb dX11_save_69 rfl (lv_at hl 1 rfl) ?_
      refine lv_iadd hx hb dX11_save_70 ?_
      refine lv_aload_n hx hb dX11_save_71 rfl (lv_at hl 0 rfl) ?_
      refine zgetR (j := 104) M I zc_103 zfl_X11_7 dX11_save_72 rfl ?_
      refine lv_iload_n hx hb dX11_save_75 rfl (lv_at hl 1 rfl) ?_
      obtain ⟨x2, e_x2, hr⟩ := zb_some hr
      refine ziald M I zc_104 e_x2 dX11_save_76 ?_
      obtain ⟨s3, e_s3, hr⟩ := zb_some hr
      refine ziast M I zc_105 e_s3 dX11_save_77 (fun H locs I => ?_)
      refine lv_iinc (lv' := [(1, .int (v1 + 1)), (0, .ref (zA g 103))]) (k := 1) (v := (v1 + 1)) hx hb dX11_save_78 hl rfl (zi_1 _) (by decide) rfl (fun ls hl => ?_)
      refine lv_goto (tgt := 52) hx hb dX11_save_81 (by decide) ?_
      exact ih _ _  _ hr ls _ _ (lv_sub hl [1, 0] rfl) I KF
def l_X11_save_12 (fu : Nat) : Nat → Int32 → zmem → Option (zmem)
  | 0, _, _ => none
  | n + 1, v1, σ => (if (324 : Int32) ≤ v1 then some σ else (zrd σ 105 v1).bind fun x6 => (zwr σ 105 (v1 - (54 : Int32)) x6).bind fun s7 => l_X11_save_12 fu n (v1 + 1) s7)
set_option maxHeartbeats 4000000 in
set_option maxRecDepth 100000 in
theorem k_X11_save_12 {l : Launch} {g : zgeo} {fu : Nat} {p : Program} {e : Env} {s : State} {m : MethodId} {args : Array Value} {below : List Frame} {meth : Method} {c : Code} (M : zMC RX11 cX11_save 2 none g p m c s args meth) {Q : State → Prop} : ∀ (n : Nat) (v1 : Int32) (σ : zmem) (o : zmem), l_X11_save_12 fu n v1 σ = some o → ∀ (ls : Array Slot) (H : Heap) (locs : List Loc), lv_has ls 2 [(0, .ref (zA g 103)), (1, .int v1)] → zIV g σ (zAA g) s.heap H locs → (∀ (ls : Array Slot) (H : Heap) (locs : List Loc), lv_has ls 2 [(0, .ref (zA g 103))] → zIV g o (zAA g) s.heap H locs → W p l e (zrm 0 0) s m args below meth c H locs 0 0 Q (F0 m 40 ls [])) → W p l e (zrm 0 0) s m args below meth c H locs 0 0 Q (F0 m 12 ls []) := by
  have hx := M.1.1
  have hb := M.1.2.1
  intro n
  induction n with
  | zero =>
    intro v1 σ o hr ls H locs hl I KF
    have hr : (none : Option (zmem)) = some o := hr
    cases hr
  | succ n ih =>
    intro v1 σ o hr ls H locs hl I KF
    rw [l_X11_save_12] at hr
    refine lv_iload_n hx hb dX11_save_12 rfl (lv_at hl 1 rfl) ?_
    refine lv_sipush (v := (324 : Int32)) hx hb dX11_save_13 (by decide) ?_
    refine lv_icmp_ge (tgt := 40) hx hb dX11_save_16 (by decide) (fun c8 => ?_) (fun c8 => ?_)
    · replace hr := zif_t hr c8
      obtain rfl := Option.some.inj hr
      exact KF ls _ _ (lv_sub hl [0] rfl) I
    · replace hr := zif_f hr c8
      refine lv_aload_n hx hb dX11_save_19 rfl (lv_at hl 0 rfl) ?_
      refine zgetR (j := 105) M I zc_103 zfl_X11_13 dX11_save_20 rfl ?_
      refine lv_iload_n hx hb dX11_save_23 rfl (lv_at hl 1 rfl) ?_
      refine lv_bipush (v := (54 : Int32)) hx hb dX11_save_24 (by decide) ?_
      refine lv_isub hx hb dX11_save_26 ?_
      refine lv_aload_n hx hb dX11_save_27 rfl (lv_at hl 0 rfl) ?_
      refine zgetR (j := 105) M I zc_103 zfl_X11_13 dX11_save_28 rfl ?_
      refine lv_iload_n hx hb dX11_save_31 rfl (lv_at hl 1 rfl) ?_
      obtain ⟨x6, e_x6, hr⟩ := zb_some hr
      refine ziald M I zc_105 e_x6 dX11_save_32 ?_
      obtain ⟨s7, e_s7, hr⟩ := zb_some hr
      refine ziast M I zc_105 e_s7 dX11_save_33 (fun H locs I => ?_)
      refine lv_iinc (lv' := [(1, .int (v1 + 1)), (0, .ref (zA g 103))]) (k := 1) (v := (v1 + 1)) hx hb dX11_save_34 hl rfl (zi_1 _) (by decide) rfl (fun ls hl => ?_)
      refine lv_goto (tgt := 12) hx hb dX11_save_37 (by decide) ?_
      exact ih _ _  _ hr ls _ _ (lv_sub hl [1, 0] rfl) I KF
def m_X11_save (fu : Nat) (σ : zmem) : Option (zmem) := ((if ¬ (σ.1 103 1) = (6 : Int32) then some σ else (l_X11_save_12 fu fu (54 : Int32) σ).bind fun x9 => some (zst x9 103 1 ((x9.1 103 1) - (1 : Int32)))) : Option (zmem)).bind fun x1 => (l_X11_save_52 fu fu (0 : Int32) x1).bind fun x5 => some (zst x5 103 1 ((x5.1 103 1) + (1 : Int32)))
set_option maxHeartbeats 4000000 in
set_option maxRecDepth 100000 in
theorem c_X11_save (l : Launch) (g : zgeo) (fu : Nat) {σ : zmem} {r : zmem} (hr : m_X11_save fu σ = some r) : zCt (zQV g r) l g yX11_save cX11_save 2 none 0 0 [.ref (zA g 103)] σ := by
  refine zopen (by decide) (Nat.le_of_ble_eq_true rfl) ?_
  intro p e s m below meth c M ls hl I
  have M : zMC RX11 cX11_save 2 none g p m c s ([.ref (zA g 103)] : List Value).toArray meth := M
  have hl : lv_has ls 2 [(0, .ref (zA g 103))] := hl
  generalize ([.ref (zA g 103)] : List Value).toArray = args at M ⊢
  have hx := M.1.1
  have hb := M.1.2.1
  unfold m_X11_save at hr
  refine lv_aload_n hx hb dX11_save_0 rfl (lv_at hl 0 rfl) ?_
  refine zgetI M I zc_103 zfl_X11_74 dX11_save_1 ?_
  refine lv_bipush (v := (6 : Int32)) hx hb dX11_save_4 (by decide) ?_
  obtain ⟨x1, e_x1, hr⟩ := zb_some hr
  have K_x1 : ∀ (ls : Array Slot) (H : Heap) (locs : List Loc), lv_has ls 2 [(0, .ref (zA g 103))] → zIV g x1 (zAA g) s.heap H locs → W p l e (zrm 0 0) s m args below meth c H locs 0 0 (MQ below (zQV g r) args s 0 0 (zAA g)) (F0 m 50 ls []) := by
    intro ls H locs hl I
    refine lv_iconst (v := (0 : Int32)) hx hb dX11_save_50 (by decide) ?_
    refine lv_istore_n (lv' := [(1, .int (0 : Int32)), (0, .ref (zA g 103))]) hx hb dX11_save_51 rfl hl (by decide) rfl (fun ls hl => ?_)
    obtain ⟨x5, e_x5, hr⟩ := zb_some hr
    refine k_X11_save_52 M  fu _ _  _ e_x5 ls _ _ (lv_sub hl [1, 0] rfl) I (fun ls H locs hl I => ?_)
    refine lv_aload_n hx hb dX11_save_84 rfl (lv_at hl 0 rfl) ?_
    refine lv_dup hx hb dX11_save_85 rfl ?_
    refine zgetI M I zc_103 zfl_X11_74 dX11_save_86 ?_
    refine lv_iconst (v := (1 : Int32)) hx hb dX11_save_89 (by decide) ?_
    refine lv_iadd hx hb dX11_save_90 ?_
    refine zputI M I zc_103 zfw_X11_74 dX11_save_91 (fun H locs I => ?_)
    obtain rfl := Option.some.inj hr
    exact zretV M I dX11_save_94
  refine lv_icmp_ne (tgt := 50) hx hb dX11_save_6 (by decide) (fun c10 => ?_) (fun c10 => ?_)
  · replace e_x1 := zif_t e_x1 c10
    obtain rfl := Option.some.inj e_x1
    exact K_x1 ls _ _ hl I
  · replace e_x1 := zif_f e_x1 (fun hq => hq c10)
    refine lv_bipush (v := (54 : Int32)) hx hb dX11_save_9 (by decide) ?_
    refine lv_istore_n (lv' := [(1, .int (54 : Int32)), (0, .ref (zA g 103))]) hx hb dX11_save_11 rfl hl (by decide) rfl (fun ls hl => ?_)
    obtain ⟨x9, e_x9, e_x1⟩ := zb_some e_x1
    refine k_X11_save_12 M  fu _ _  _ e_x9 ls _ _ (lv_sub hl [1, 0] rfl) I (fun ls H locs hl I => ?_)
    refine lv_aload_n hx hb dX11_save_40 rfl (lv_at hl 0 rfl) ?_
    refine lv_dup hx hb dX11_save_41 rfl ?_
    refine zgetI M I zc_103 zfl_X11_74 dX11_save_42 ?_
    refine lv_iconst (v := (1 : Int32)) hx hb dX11_save_45 (by decide) ?_
    refine lv_isub hx hb dX11_save_46 ?_
    refine zputI M I zc_103 zfw_X11_74 dX11_save_47 (fun H locs I => ?_)
    obtain rfl := Option.some.inj e_x1
    exact K_x1 ls _ _ hl I
def m_X11_signs (fu : Nat) (σ : zmem) (a1 : Int32) : Option (Int32) := (zrd σ 104 ((4 : Int32) + a1)).bind fun x1 => some x1
set_option maxHeartbeats 4000000 in
set_option maxRecDepth 100000 in
theorem c_X11_signs (l : Launch) (g : zgeo) (fu : Nat) {σ : zmem} {a1 : Int32} {r : Int32} (hr : m_X11_signs fu σ a1 = some r) : zCt (zQI g r σ) l g yX11_signs cX11_signs 2 (some .int) 0 0 [.ref (zA g 103), .int a1] σ := by
  refine zopen (by decide) (Nat.le_of_ble_eq_true rfl) ?_
  intro p e s m below meth c M ls hl I
  have M : zMC RX11 cX11_signs 2 (some .int) g p m c s ([.ref (zA g 103), .int a1] : List Value).toArray meth := M
  have hl : lv_has ls 2 [(0, .ref (zA g 103)), (1, .int a1)] := hl
  generalize ([.ref (zA g 103), .int a1] : List Value).toArray = args at M ⊢
  have hx := M.1.1
  have hb := M.1.2.1
  unfold m_X11_signs at hr
  refine lv_aload_n hx hb dX11_signs_0 rfl (lv_at hl 0 rfl) ?_
  refine zgetR (j := 104) M I zc_103 zfl_X11_7 dX11_signs_1 rfl ?_
  refine lv_iconst (v := (4 : Int32)) hx hb dX11_signs_4 (by decide) ?_
  refine lv_iload_n hx hb dX11_signs_5 rfl (lv_at hl 1 rfl) ?_
  refine lv_iadd hx hb dX11_signs_6 ?_
  obtain ⟨x1, e_x1, hr⟩ := zb_some hr
  refine ziald M I zc_104 e_x1 dX11_signs_7 ?_
  obtain rfl := Option.some.inj hr
  exact zretI M I dX11_signs_8
def m_X11_at (fu : Nat) (σ : zmem) (a1 : Int32) (a2 : Int32) : Option (Int32) := (zrd σ 104 (((6 : Int32) + ((24 : Int32) * a1)) + a2)).bind fun x1 => some x1
set_option maxHeartbeats 4000000 in
set_option maxRecDepth 100000 in
theorem c_X11_at (l : Launch) (g : zgeo) (fu : Nat) {σ : zmem} {a1 : Int32} {a2 : Int32} {r : Int32} (hr : m_X11_at fu σ a1 a2 = some r) : zCt (zQI g r σ) l g yX11_at cX11_at 3 (some .int) 0 0 [.ref (zA g 103), .int a1, .int a2] σ := by
  refine zopen (by decide) (Nat.le_of_ble_eq_true rfl) ?_
  intro p e s m below meth c M ls hl I
  have M : zMC RX11 cX11_at 3 (some .int) g p m c s ([.ref (zA g 103), .int a1, .int a2] : List Value).toArray meth := M
  have hl : lv_has ls 3 [(0, .ref (zA g 103)), (1, .int a1), (2, .int a2)] := hl
  generalize ([.ref (zA g 103), .int a1, .int a2] : List Value).toArray = args at M ⊢
  have hx := M.1.1
  have hb := M.1.2.1
  unfold m_X11_at at hr
  refine lv_aload_n hx hb dX11_at_0 rfl (lv_at hl 0 rfl) ?_
  refine zgetR (j := 104) M I zc_103 zfl_X11_7 dX11_at_1 rfl ?_
  refine lv_bipush (v := (6 : Int32)) hx hb dX11_at_4 (by decide) ?_
  refine lv_bipush (v := (24 : Int32)) hx hb dX11_at_6 (by decide) ?_
  refine lv_iload_n hx hb dX11_at_8 rfl (lv_at hl 1 rfl) ?_
  refine lv_imul hx hb dX11_at_9 ?_
  refine lv_iadd hx hb dX11_at_10 ?_
  refine lv_iload_n hx hb dX11_at_11 rfl (lv_at hl 2 rfl) ?_
  refine lv_iadd hx hb dX11_at_12 ?_
  obtain ⟨x1, e_x1, hr⟩ := zb_some hr
  refine ziald M I zc_104 e_x1 dX11_at_13 ?_
  obtain rfl := Option.some.inj hr
  exact zretI M I dX11_at_14
def m_X11_lay (fu : Nat) (σ : zmem) (a1 : Int32) (a2 : Int32) (a3 : Int32) : Option (zmem) := (zwr σ 104 (((6 : Int32) + ((24 : Int32) * a1)) + a2) a3).bind fun s1 => some s1
set_option maxHeartbeats 4000000 in
set_option maxRecDepth 100000 in
theorem c_X11_lay (l : Launch) (g : zgeo) (fu : Nat) {σ : zmem} {a1 : Int32} {a2 : Int32} {a3 : Int32} {r : zmem} (hr : m_X11_lay fu σ a1 a2 a3 = some r) : zCt (zQV g r) l g yX11_lay cX11_lay 4 none 0 0 [.ref (zA g 103), .int a1, .int a2, .int a3] σ := by
  refine zopen (by decide) (Nat.le_of_ble_eq_true rfl) ?_
  intro p e s m below meth c M ls hl I
  have M : zMC RX11 cX11_lay 4 none g p m c s ([.ref (zA g 103), .int a1, .int a2, .int a3] : List Value).toArray meth := M
  have hl : lv_has ls 4 [(0, .ref (zA g 103)), (1, .int a1), (2, .int a2), (3, .int a3)] := hl
  generalize ([.ref (zA g 103), .int a1, .int a2, .int a3] : List Value).toArray = args at M ⊢
  have hx := M.1.1
  have hb := M.1.2.1
  unfold m_X11_lay at hr
  refine lv_aload_n hx hb dX11_lay_0 rfl (lv_at hl 0 rfl) ?_
  refine zgetR (j := 104) M I zc_103 zfl_X11_7 dX11_lay_1 rfl ?_
  refine lv_bipush (v := (6 : Int32)) hx hb dX11_lay_4 (by decide) ?_
  refine lv_bipush (v := (24 : Int32)) hx hb dX11_lay_6 (by decide) ?_
  refine lv_iload_n hx hb dX11_lay_8 rfl (lv_at hl 1 rfl) ?_
  refine lv_imul hx hb dX11_lay_9 ?_
  refine lv_iadd hx hb dX11_lay_10 ?_
  refine lv_iload_n hx hb dX11_lay_11 rfl (lv_at hl 2 rfl) ?_
  refine lv_iadd hx hb dX11_lay_12 ?_
  refine lv_iload_n hx hb dX11_lay_13 rfl (lv_at hl 3 rfl) ?_
  obtain ⟨s1, e_s1, hr⟩ := zb_some hr
  refine ziast M I zc_104 e_s1 dX11_lay_14 (fun H locs I => ?_)
  obtain rfl := Option.some.inj hr
  exact zretV M I dX11_lay_15
def m_X11_isRow (fu : Nat) (σ : zmem) (a0 : Int32) : Option (Int32) := (m_X11_within fu σ a0 (0 : Int32) (1 : Int32)).bind fun x1 => (zbo x1).bind fun b2 => some x1
set_option maxHeartbeats 4000000 in
set_option maxRecDepth 100000 in
theorem c_X11_isRow (l : Launch) (g : zgeo) (fu : Nat) {σ : zmem} {a0 : Int32} {r : Int32} (hr : m_X11_isRow fu σ a0 = some r) : zCt (zQI g r σ) l g yX11_isRow cX11_isRow 1 (some .boolean) 1 22 [.int a0] σ := by
  refine zopen (by decide) (Nat.le_of_ble_eq_true rfl) ?_
  intro p e s m below meth c M ls hl I
  have M : zMC RX11 cX11_isRow 1 (some .boolean) g p m c s ([.int a0] : List Value).toArray meth := M
  have hl : lv_has ls 1 [(0, .int a0)] := hl
  generalize ([.int a0] : List Value).toArray = args at M ⊢
  have hx := M.1.1
  have hb := M.1.2.1
  unfold m_X11_isRow at hr
  refine lv_iload_n hx hb dX11_isRow_0 rfl (lv_at hl 0 rfl) ?_
  refine lv_iconst (v := (0 : Int32)) hx hb dX11_isRow_1 (by decide) ?_
  refine lv_iconst (v := (1 : Int32)) hx hb dX11_isRow_2 (by decide) ?_
  obtain ⟨x1, e_x1, hr⟩ := zb_some hr
  refine zcallI M I (zrunS (as := [.int a0, .int (0 : Int32), .int (1 : Int32)]) M I (c_X11_within l g fu e_x1) zls_X11_77 ⟨Nat.le_of_ble_eq_true rfl, Nat.le_of_ble_eq_true rfl⟩ ⟨Nat.zero_le _, Nat.zero_le _⟩ rfl rfl (Nat.le_of_ble_eq_true rfl) hl.1 dX11_isRow_3) (fun H locs I => ?_)
  obtain ⟨b2, e_b2, hr⟩ := zb_some hr
  obtain rfl := Option.some.inj hr
  exact zretZ M I (zbo_some e_b2).1 dX11_isRow_6
def m_X11_isPlace (fu : Nat) (σ : zmem) (a1 : Int32) (a2 : Int32) : Option (Int32) := (m_X11_isRow fu σ a1).bind fun x1 => (if x1 = 0 then some (0 : Int32) else (m_X11_signs fu σ a1).bind fun x2 => (m_X11_within fu σ a2 (0 : Int32) (x2 - (1 : Int32))).bind fun x3 => (if x3 = 0 then some (0 : Int32) else some (1 : Int32)))
set_option maxHeartbeats 4000000 in
set_option maxRecDepth 100000 in
theorem c_X11_isPlace (l : Launch) (g : zgeo) (fu : Nat) {σ : zmem} {a1 : Int32} {a2 : Int32} {r : Int32} (hr : m_X11_isPlace fu σ a1 a2 = some r) : zCt (zQI g r σ) l g yX11_isPlace cX11_isPlace 3 (some .boolean) 2 42 [.ref (zA g 103), .int a1, .int a2] σ := by
  refine zopen (by decide) (Nat.le_of_ble_eq_true rfl) ?_
  intro p e s m below meth c M ls hl I
  have M : zMC RX11 cX11_isPlace 3 (some .boolean) g p m c s ([.ref (zA g 103), .int a1, .int a2] : List Value).toArray meth := M
  have hl : lv_has ls 3 [(0, .ref (zA g 103)), (1, .int a1), (2, .int a2)] := hl
  generalize ([.ref (zA g 103), .int a1, .int a2] : List Value).toArray = args at M ⊢
  have hx := M.1.1
  have hb := M.1.2.1
  unfold m_X11_isPlace at hr
  refine lv_iload_n hx hb dX11_isPlace_0 rfl (lv_at hl 1 rfl) ?_
  obtain ⟨x1, e_x1, hr⟩ := zb_some hr
  refine zcallI M I (zrunS (as := [.int a1]) M I (c_X11_isRow l g fu e_x1) zls_X11_81 ⟨Nat.le_of_ble_eq_true rfl, Nat.le_of_ble_eq_true rfl⟩ ⟨Nat.zero_le _, Nat.zero_le _⟩ rfl rfl (Nat.le_of_ble_eq_true rfl) hl.1 dX11_isPlace_1) (fun H locs I => ?_)
  refine lv_if_eq (tgt := 26) hx hb dX11_isPlace_4 (by decide) (fun c5 => ?_) (fun c5 => ?_)
  · replace hr := zif_t hr c5
    refine lv_iconst (v := (0 : Int32)) hx hb dX11_isPlace_26 (by decide) ?_
    obtain rfl := Option.some.inj hr
    exact zretZ M I (Or.inl rfl) dX11_isPlace_27
  · replace hr := zif_f hr c5
    refine lv_iload_n hx hb dX11_isPlace_7 rfl (lv_at hl 2 rfl) ?_
    refine lv_iconst (v := (0 : Int32)) hx hb dX11_isPlace_8 (by decide) ?_
    refine lv_aload_n hx hb dX11_isPlace_9 rfl (lv_at hl 0 rfl) ?_
    refine lv_iload_n hx hb dX11_isPlace_10 rfl (lv_at hl 1 rfl) ?_
    obtain ⟨x2, e_x2, hr⟩ := zb_some hr
    refine zcallI M I (zrunV (as := [.int a1]) M I (c_X11_signs l g fu e_x2) zc_103 zK11.1 (by decide) zlv_X11_85 ⟨Nat.le_of_ble_eq_true rfl, Nat.le_of_ble_eq_true rfl⟩ ⟨Nat.zero_le _, Nat.zero_le _⟩ rfl rfl (Nat.le_of_ble_eq_true rfl) hl.1 dX11_isPlace_11) (fun H locs I => ?_)
    refine lv_iconst (v := (1 : Int32)) hx hb dX11_isPlace_14 (by decide) ?_
    refine lv_isub hx hb dX11_isPlace_15 ?_
    obtain ⟨x3, e_x3, hr⟩ := zb_some hr
    refine zcallI M I (zrunS (as := [.int a2, .int (0 : Int32), .int (x2 - (1 : Int32))]) M I (c_X11_within l g fu e_x3) zls_X11_77 ⟨Nat.le_of_ble_eq_true rfl, Nat.le_of_ble_eq_true rfl⟩ ⟨Nat.zero_le _, Nat.zero_le _⟩ rfl rfl (Nat.le_of_ble_eq_true rfl) hl.1 dX11_isPlace_16) (fun H locs I => ?_)
    refine lv_if_eq (tgt := 26) hx hb dX11_isPlace_19 (by decide) (fun c4 => ?_) (fun c4 => ?_)
    · replace hr := zif_t hr c4
      refine lv_iconst (v := (0 : Int32)) hx hb dX11_isPlace_26 (by decide) ?_
      obtain rfl := Option.some.inj hr
      exact zretZ M I (Or.inl rfl) dX11_isPlace_27
    · replace hr := zif_f hr c4
      refine lv_iconst (v := (1 : Int32)) hx hb dX11_isPlace_22 (by decide) ?_
      refine lv_goto (tgt := 27) hx hb dX11_isPlace_23 (by decide) ?_
      obtain rfl := Option.some.inj hr
      exact zretZ M I (Or.inr rfl) dX11_isPlace_27
def m_X11_isSign (fu : Nat) (σ : zmem) (a0 : Int32) : Option (Int32) := (m_X11_within fu σ a0 (0 : Int32) (3 : Int32)).bind fun x1 => (zbo x1).bind fun b2 => some x1
set_option maxHeartbeats 4000000 in
set_option maxRecDepth 100000 in
theorem c_X11_isSign (l : Launch) (g : zgeo) (fu : Nat) {σ : zmem} {a0 : Int32} {r : Int32} (hr : m_X11_isSign fu σ a0 = some r) : zCt (zQI g r σ) l g yX11_isSign cX11_isSign 1 (some .boolean) 1 22 [.int a0] σ := by
  refine zopen (by decide) (Nat.le_of_ble_eq_true rfl) ?_
  intro p e s m below meth c M ls hl I
  have M : zMC RX11 cX11_isSign 1 (some .boolean) g p m c s ([.int a0] : List Value).toArray meth := M
  have hl : lv_has ls 1 [(0, .int a0)] := hl
  generalize ([.int a0] : List Value).toArray = args at M ⊢
  have hx := M.1.1
  have hb := M.1.2.1
  unfold m_X11_isSign at hr
  refine lv_iload_n hx hb dX11_isSign_0 rfl (lv_at hl 0 rfl) ?_
  refine lv_iconst (v := (0 : Int32)) hx hb dX11_isSign_1 (by decide) ?_
  refine lv_iconst (v := (3 : Int32)) hx hb dX11_isSign_2 (by decide) ?_
  obtain ⟨x1, e_x1, hr⟩ := zb_some hr
  refine zcallI M I (zrunS (as := [.int a0, .int (0 : Int32), .int (3 : Int32)]) M I (c_X11_within l g fu e_x1) zls_X11_77 ⟨Nat.le_of_ble_eq_true rfl, Nat.le_of_ble_eq_true rfl⟩ ⟨Nat.zero_le _, Nat.zero_le _⟩ rfl rfl (Nat.le_of_ble_eq_true rfl) hl.1 dX11_isSign_3) (fun H locs I => ?_)
  obtain ⟨b2, e_b2, hr⟩ := zb_some hr
  obtain rfl := Option.some.inj hr
  exact zretZ M I (zbo_some e_b2).1 dX11_isSign_6
def l_X11_stands_6 (fu : Nat) (σ : zmem) (a1 : Int32) (a2 : Int32) (a3 : Int32) (a4 : Int32) : Nat → Int32 → Int32 → Option (Int32)
  | 0, _, _ => none
  | n + 1, v5, v6 => (zrd σ 104 (0 : Int32)).bind fun x1 => (if x1 ≤ v6 then some v5 else ((if v5 = 0 then some (0 : Int32) else (m_X11_at fu σ a2 (a3 + v6)).bind fun x3 => ((if a4 = 0 then some (a1 + v6) else (zrd σ 104 (0 : Int32)).bind fun x7 => some (((a1 + x7) - (1 : Int32)) - v6)) : Option (Int32)).bind fun x4 => (m_X11_at fu σ (0 : Int32) x4).bind fun x5 => (if ¬ x3 = x5 then some (0 : Int32) else some (1 : Int32))) : Option (Int32)).bind fun x2 => l_X11_stands_6 fu σ a1 a2 a3 a4 n x2 (v6 + 1))
set_option maxHeartbeats 4000000 in
set_option maxRecDepth 100000 in
theorem k_X11_stands_6 {l : Launch} {g : zgeo} {fu : Nat} {p : Program} {e : Env} {s : State} {m : MethodId} {args : Array Value} {below : List Frame} {meth : Method} {c : Code} (M : zMC RX11 cX11_stands 7 (some .boolean) g p m c s args meth) {σ : zmem} {a1 : Int32} {a2 : Int32} {a3 : Int32} {a4 : Int32} {Q : State → Prop} : ∀ (n : Nat) (v5 : Int32) (v6 : Int32) (o : Int32), l_X11_stands_6 fu σ a1 a2 a3 a4 n v5 v6 = some o → ∀ (ls : Array Slot) (H : Heap) (locs : List Loc), lv_has ls 7 [(0, .ref (zA g 103)), (1, .int a1), (2, .int a2), (3, .int a3), (4, .int a4), (5, .int v5), (6, .int v6)] → zIV g σ (zAA g) s.heap H locs → (∀ (ls : Array Slot) (H : Heap) (locs : List Loc), lv_has ls 7 [(5, .int o)] → zIV g σ (zAA g) s.heap H locs → W p l e (zrm 1 22) s m args below meth c H locs 0 0 Q (F0 m 77 ls [])) → W p l e (zrm 1 22) s m args below meth c H locs 0 0 Q (F0 m 6 ls []) := by
  have hx := M.1.1
  have hb := M.1.2.1
  intro n
  induction n with
  | zero =>
    intro v5 v6 o hr ls H locs hl I KF
    have hr : (none : Option (Int32)) = some o := hr
    cases hr
  | succ n ih =>
    intro v5 v6 o hr ls H locs hl I KF
    rw [l_X11_stands_6] at hr
    refine lv_iload hx hb dX11_stands_6 (lv_at hl 6 rfl) ?_
    refine lv_aload_n hx hb dX11_stands_8 rfl (lv_at hl 0 rfl) ?_
    refine zgetR (j := 104) M I zc_103 zfl_X11_7 dX11_stands_9 rfl ?_
    refine lv_iconst (v := (0 : Int32)) hx hb dX11_stands_12 (by decide) ?_
    obtain ⟨x1, e_x1, hr⟩ := zb_some hr
    refine ziald M I zc_104 e_x1 dX11_stands_13 ?_
    refine lv_icmp_ge (tgt := 77) hx hb dX11_stands_14 (by decide) (fun c10 => ?_) (fun c10 => ?_)
    · replace hr := zif_t hr c10
      obtain rfl := Option.some.inj hr
      exact KF ls _ _ (lv_sub hl [5] rfl) I
    · replace hr := zif_f hr c10
      refine lv_iload hx hb dX11_stands_17 (lv_at hl 5 rfl) ?_
      obtain ⟨x2, e_x2, hr⟩ := zb_some hr
      have K_x2 : ∀ (ls : Array Slot) (H : Heap) (locs : List Loc), lv_has ls 7 [(0, .ref (zA g 103)), (1, .int a1), (2, .int a2), (3, .int a3), (4, .int a4), (6, .int v6)] → zIV g σ (zAA g) s.heap H locs → W p l e (zrm 1 22) s m args below meth c H locs 0 0 Q (F0 m 69 ls [.int x2]) := by
        intro ls H locs hl I
        refine lv_istore (lv' := [(5, .int x2), (0, .ref (zA g 103)), (1, .int a1), (2, .int a2), (3, .int a3), (4, .int a4), (6, .int v6)]) hx hb dX11_stands_69 hl (by decide) rfl (fun ls hl => ?_)
        refine lv_iinc (lv' := [(6, .int (v6 + 1)), (5, .int x2), (0, .ref (zA g 103)), (1, .int a1), (2, .int a2), (3, .int a3), (4, .int a4)]) (k := 6) (v := (v6 + 1)) hx hb dX11_stands_71 hl rfl (zi_1 _) (by decide) rfl (fun ls hl => ?_)
        refine lv_goto (tgt := 6) hx hb dX11_stands_74 (by decide) ?_
        exact ih _ _  _ hr ls _ _ (lv_sub hl [2, 3, 4, 5, 6, 1, 0] rfl) I KF
      refine lv_if_eq (tgt := 68) hx hb dX11_stands_19 (by decide) (fun c9 => ?_) (fun c9 => ?_)
      · replace e_x2 := zif_t e_x2 c9
        refine lv_iconst (v := (0 : Int32)) hx hb dX11_stands_68 (by decide) ?_
        obtain rfl := Option.some.inj e_x2
        exact K_x2 ls _ _ (lv_sub hl [0, 1, 2, 3, 4, 6] rfl) I
      · replace e_x2 := zif_f e_x2 c9
        refine lv_aload_n hx hb dX11_stands_22 rfl (lv_at hl 0 rfl) ?_
        refine lv_iload_n hx hb dX11_stands_23 rfl (lv_at hl 2 rfl) ?_
        refine lv_iload_n hx hb dX11_stands_24 rfl (lv_at hl 3 rfl) ?_
        refine lv_iload hx hb dX11_stands_25 (lv_at hl 6 rfl) ?_
        refine lv_iadd hx hb dX11_stands_27 ?_
        obtain ⟨x3, e_x3, e_x2⟩ := zb_some e_x2
        refine zcallI M I (zrunV (as := [.int a2, .int (a3 + v6)]) M I (c_X11_at l g fu e_x3) zc_103 zK11.1 (by decide) zlv_X11_89 ⟨Nat.le_of_ble_eq_true rfl, Nat.le_of_ble_eq_true rfl⟩ ⟨Nat.zero_le _, Nat.zero_le _⟩ rfl rfl (Nat.le_of_ble_eq_true rfl) hl.1 dX11_stands_28) (fun H locs I => ?_)
        refine lv_aload_n hx hb dX11_stands_31 rfl (lv_at hl 0 rfl) ?_
        refine lv_iconst (v := (0 : Int32)) hx hb dX11_stands_32 (by decide) ?_
        refine lv_iload hx hb dX11_stands_33 (lv_at hl 4 rfl) ?_
        obtain ⟨x4, e_x4, e_x2⟩ := zb_some e_x2
        have K_x4 : ∀ (ls : Array Slot) (H : Heap) (locs : List Loc), lv_has ls 7 [(0, .ref (zA g 103)), (1, .int a1), (2, .int a2), (3, .int a3), (4, .int a4), (6, .int v6)] → zIV g σ (zAA g) s.heap H locs → W p l e (zrm 1 22) s m args below meth c H locs 0 0 Q (F0 m 58 ls [.int x4, .int (0 : Int32), .ref (zA g 103), .int x3]) := by
          intro ls H locs hl I
          obtain ⟨x5, e_x5, e_x2⟩ := zb_some e_x2
          refine zcallI M I (zrunV (as := [.int (0 : Int32), .int x4]) M I (c_X11_at l g fu e_x5) zc_103 zK11.1 (by decide) zlv_X11_89 ⟨Nat.le_of_ble_eq_true rfl, Nat.le_of_ble_eq_true rfl⟩ ⟨Nat.zero_le _, Nat.zero_le _⟩ rfl rfl (Nat.le_of_ble_eq_true rfl) hl.1 dX11_stands_58) (fun H locs I => ?_)
          refine lv_icmp_ne (tgt := 68) hx hb dX11_stands_61 (by decide) (fun c6 => ?_) (fun c6 => ?_)
          · replace e_x2 := zif_t e_x2 c6
            refine lv_iconst (v := (0 : Int32)) hx hb dX11_stands_68 (by decide) ?_
            obtain rfl := Option.some.inj e_x2
            exact K_x2 ls _ _ hl I
          · replace e_x2 := zif_f e_x2 (fun hq => hq c6)
            refine lv_iconst (v := (1 : Int32)) hx hb dX11_stands_64 (by decide) ?_
            refine lv_goto (tgt := 69) hx hb dX11_stands_65 (by decide) ?_
            obtain rfl := Option.some.inj e_x2
            exact K_x2 ls _ _ hl I
        refine lv_if_eq (tgt := 54) hx hb dX11_stands_35 (by decide) (fun c8 => ?_) (fun c8 => ?_)
        · replace e_x4 := zif_t e_x4 c8
          refine lv_iload_n hx hb dX11_stands_54 rfl (lv_at hl 1 rfl) ?_
          refine lv_iload hx hb dX11_stands_55 (lv_at hl 6 rfl) ?_
          refine lv_iadd hx hb dX11_stands_57 ?_
          obtain rfl := Option.some.inj e_x4
          exact K_x4 ls _ _ (lv_sub hl [0, 1, 2, 3, 4, 6] rfl) I
        · replace e_x4 := zif_f e_x4 c8
          refine lv_iload_n hx hb dX11_stands_38 rfl (lv_at hl 1 rfl) ?_
          refine lv_aload_n hx hb dX11_stands_39 rfl (lv_at hl 0 rfl) ?_
          refine zgetR (j := 104) M I zc_103 zfl_X11_7 dX11_stands_40 rfl ?_
          refine lv_iconst (v := (0 : Int32)) hx hb dX11_stands_43 (by decide) ?_
          obtain ⟨x7, e_x7, e_x4⟩ := zb_some e_x4
          refine ziald M I zc_104 e_x7 dX11_stands_44 ?_
          refine lv_iadd hx hb dX11_stands_45 ?_
          refine lv_iconst (v := (1 : Int32)) hx hb dX11_stands_46 (by decide) ?_
          refine lv_isub hx hb dX11_stands_47 ?_
          refine lv_iload hx hb dX11_stands_48 (lv_at hl 6 rfl) ?_
          refine lv_isub hx hb dX11_stands_50 ?_
          refine lv_goto (tgt := 58) hx hb dX11_stands_51 (by decide) ?_
          obtain rfl := Option.some.inj e_x4
          exact K_x4 ls _ _ (lv_sub hl [0, 1, 2, 3, 4, 6] rfl) I
def m_X11_stands (fu : Nat) (σ : zmem) (a1 : Int32) (a2 : Int32) (a3 : Int32) (a4 : Int32) : Option (Int32) := (l_X11_stands_6 fu σ a1 a2 a3 a4 fu (1 : Int32) (0 : Int32)).bind fun x11 => (zbo x11).bind fun b12 => some x11
set_option maxHeartbeats 4000000 in
set_option maxRecDepth 100000 in
theorem c_X11_stands (l : Launch) (g : zgeo) (fu : Nat) {σ : zmem} {a1 : Int32} {a2 : Int32} {a3 : Int32} {a4 : Int32} {r : Int32} (hr : m_X11_stands fu σ a1 a2 a3 a4 = some r) : zCt (zQI g r σ) l g yX11_stands cX11_stands 7 (some .boolean) 1 22 [.ref (zA g 103), .int a1, .int a2, .int a3, .int a4] σ := by
  refine zopen (by decide) (Nat.le_of_ble_eq_true rfl) ?_
  intro p e s m below meth c M ls hl I
  have M : zMC RX11 cX11_stands 7 (some .boolean) g p m c s ([.ref (zA g 103), .int a1, .int a2, .int a3, .int a4] : List Value).toArray meth := M
  have hl : lv_has ls 7 [(0, .ref (zA g 103)), (1, .int a1), (2, .int a2), (3, .int a3), (4, .int a4)] := hl
  generalize ([.ref (zA g 103), .int a1, .int a2, .int a3, .int a4] : List Value).toArray = args at M ⊢
  have hx := M.1.1
  have hb := M.1.2.1
  unfold m_X11_stands at hr
  refine lv_iconst (v := (1 : Int32)) hx hb dX11_stands_0 (by decide) ?_
  refine lv_istore (lv' := [(5, .int (1 : Int32)), (0, .ref (zA g 103)), (1, .int a1), (2, .int a2), (3, .int a3), (4, .int a4)]) hx hb dX11_stands_1 hl (by decide) rfl (fun ls hl => ?_)
  refine lv_iconst (v := (0 : Int32)) hx hb dX11_stands_3 (by decide) ?_
  refine lv_istore (lv' := [(6, .int (0 : Int32)), (5, .int (1 : Int32)), (0, .ref (zA g 103)), (1, .int a1), (2, .int a2), (3, .int a3), (4, .int a4)]) hx hb dX11_stands_4 hl (by decide) rfl (fun ls hl => ?_)
  obtain ⟨x11, e_x11, hr⟩ := zb_some hr
  refine k_X11_stands_6 M  fu _ _  _ e_x11 ls _ _ (lv_sub hl [2, 3, 4, 5, 6, 1, 0] rfl) I (fun ls H locs hl I => ?_)
  refine lv_iload hx hb dX11_stands_77 (lv_at hl 0 rfl) ?_
  obtain ⟨b12, e_b12, hr⟩ := zb_some hr
  obtain rfl := Option.some.inj hr
  exact zretZ M I (zbo_some e_b12).1 dX11_stands_79
def l_X11_onlyPlace_9 (fu : Nat) (σ : zmem) (a1 : Int32) (a2 : Int32) (a3 : Int32) : Nat → Int32 → Int32 → Int32 → Option (Int32 × Int32)
  | 0, _, _, _ => none
  | n + 1, v4, v5, v6 => (zrd σ 104 (0 : Int32)).bind fun x1 => (m_X11_signs fu σ a2).bind fun x2 => (if x2 < (v6 + x1) then some (v4, v5) else (m_X11_stands fu σ a1 a2 v6 a3).bind fun x3 => ((if x3 = 0 then some (v4, v5) else some (v6, (v5 + 1))) : Option (Int32 × Int32)).bind fun x4 => l_X11_onlyPlace_9 fu σ a1 a2 a3 n x4.1 x4.2 (v6 + 1))
set_option maxHeartbeats 4000000 in
set_option maxRecDepth 100000 in
theorem k_X11_onlyPlace_9 {l : Launch} {g : zgeo} {fu : Nat} {p : Program} {e : Env} {s : State} {m : MethodId} {args : Array Value} {below : List Frame} {meth : Method} {c : Code} (M : zMC RX11 cX11_onlyPlace 7 (some .int) g p m c s args meth) {σ : zmem} {a1 : Int32} {a2 : Int32} {a3 : Int32} {Q : State → Prop} : ∀ (n : Nat) (v4 : Int32) (v5 : Int32) (v6 : Int32) (o : Int32 × Int32), l_X11_onlyPlace_9 fu σ a1 a2 a3 n v4 v5 v6 = some o → ∀ (ls : Array Slot) (H : Heap) (locs : List Loc), lv_has ls 7 [(0, .ref (zA g 103)), (1, .int a1), (2, .int a2), (3, .int a3), (4, .int v4), (5, .int v5), (6, .int v6)] → zIV g σ (zAA g) s.heap H locs → (∀ (ls : Array Slot) (H : Heap) (locs : List Loc), lv_has ls 7 [(4, .int o.1), (5, .int o.2)] → zIV g σ (zAA g) s.heap H locs → W p l e (zrm 2 48) s m args below meth c H locs 0 0 Q (F0 m 51 ls [])) → W p l e (zrm 2 48) s m args below meth c H locs 0 0 Q (F0 m 9 ls []) := by
  have hx := M.1.1
  have hb := M.1.2.1
  intro n
  induction n with
  | zero =>
    intro v4 v5 v6 o hr ls H locs hl I KF
    have hr : (none : Option (Int32 × Int32)) = some o := hr
    cases hr
  | succ n ih =>
    intro v4 v5 v6 o hr ls H locs hl I KF
    rw [l_X11_onlyPlace_9] at hr
    refine lv_iload hx hb dX11_onlyPlace_9 (lv_at hl 6 rfl) ?_
    refine lv_aload_n hx hb dX11_onlyPlace_11 rfl (lv_at hl 0 rfl) ?_
    refine zgetR (j := 104) M I zc_103 zfl_X11_7 dX11_onlyPlace_12 rfl ?_
    refine lv_iconst (v := (0 : Int32)) hx hb dX11_onlyPlace_15 (by decide) ?_
    obtain ⟨x1, e_x1, hr⟩ := zb_some hr
    refine ziald M I zc_104 e_x1 dX11_onlyPlace_16 ?_
    refine lv_iadd hx hb dX11_onlyPlace_17 ?_
    refine lv_aload_n hx hb dX11_onlyPlace_18 rfl (lv_at hl 0 rfl) ?_
    refine lv_iload_n hx hb dX11_onlyPlace_19 rfl (lv_at hl 2 rfl) ?_
    obtain ⟨x2, e_x2, hr⟩ := zb_some hr
    refine zcallI M I (zrunV (as := [.int a2]) M I (c_X11_signs l g fu e_x2) zc_103 zK11.1 (by decide) zlv_X11_85 ⟨Nat.le_of_ble_eq_true rfl, Nat.le_of_ble_eq_true rfl⟩ ⟨Nat.zero_le _, Nat.zero_le _⟩ rfl rfl (Nat.le_of_ble_eq_true rfl) hl.1 dX11_onlyPlace_20) (fun H locs I => ?_)
    refine lv_icmp_gt (tgt := 51) hx hb dX11_onlyPlace_23 (by decide) (fun c6 => ?_) (fun c6 => ?_)
    · replace hr := zif_t hr c6
      obtain rfl := Option.some.inj hr
      exact KF ls _ _ (lv_sub hl [4, 5] rfl) I
    · replace hr := zif_f hr c6
      refine lv_aload_n hx hb dX11_onlyPlace_26 rfl (lv_at hl 0 rfl) ?_
      refine lv_iload_n hx hb dX11_onlyPlace_27 rfl (lv_at hl 1 rfl) ?_
      refine lv_iload_n hx hb dX11_onlyPlace_28 rfl (lv_at hl 2 rfl) ?_
      refine lv_iload hx hb dX11_onlyPlace_29 (lv_at hl 6 rfl) ?_
      refine lv_iload_n hx hb dX11_onlyPlace_31 rfl (lv_at hl 3 rfl) ?_
      obtain ⟨x3, e_x3, hr⟩ := zb_some hr
      refine zcallI M I (zrunV (as := [.int a1, .int a2, .int v6, .int a3]) M I (c_X11_stands l g fu e_x3) zc_103 zK11.1 (by decide) zlv_X11_93 ⟨Nat.le_of_ble_eq_true rfl, Nat.le_of_ble_eq_true rfl⟩ ⟨Nat.zero_le _, Nat.zero_le _⟩ rfl rfl (Nat.le_of_ble_eq_true rfl) hl.1 dX11_onlyPlace_32) (fun H locs I => ?_)
      obtain ⟨x4, e_x4, hr⟩ := zb_some hr
      have K_x4 : ∀ (ls : Array Slot) (H : Heap) (locs : List Loc), lv_has ls 7 [(0, .ref (zA g 103)), (1, .int a1), (2, .int a2), (3, .int a3), (4, .int x4.1), (5, .int x4.2), (6, .int v6)] → zIV g σ (zAA g) s.heap H locs → W p l e (zrm 2 48) s m args below meth c H locs 0 0 Q (F0 m 45 ls []) := by
        intro ls H locs hl I
        refine lv_iinc (lv' := [(6, .int (v6 + 1)), (0, .ref (zA g 103)), (1, .int a1), (2, .int a2), (3, .int a3), (4, .int x4.1), (5, .int x4.2)]) (k := 6) (v := (v6 + 1)) hx hb dX11_onlyPlace_45 hl rfl (zi_1 _) (by decide) rfl (fun ls hl => ?_)
        refine lv_goto (tgt := 9) hx hb dX11_onlyPlace_48 (by decide) ?_
        exact ih _ _ _  _ hr ls _ _ (lv_sub hl [1, 2, 3, 4, 5, 6, 0] rfl) I KF
      refine lv_if_eq (tgt := 45) hx hb dX11_onlyPlace_35 (by decide) (fun c5 => ?_) (fun c5 => ?_)
      · replace e_x4 := zif_t e_x4 c5
        obtain rfl := Option.some.inj e_x4
        exact K_x4 ls _ _ hl I
      · replace e_x4 := zif_f e_x4 c5
        refine lv_iload hx hb dX11_onlyPlace_38 (lv_at hl 6 rfl) ?_
        refine lv_istore (lv' := [(4, .int v6), (0, .ref (zA g 103)), (1, .int a1), (2, .int a2), (3, .int a3), (5, .int v5), (6, .int v6)]) hx hb dX11_onlyPlace_40 hl (by decide) rfl (fun ls hl => ?_)
        refine lv_iinc (lv' := [(5, .int (v5 + 1)), (4, .int v6), (0, .ref (zA g 103)), (1, .int a1), (2, .int a2), (3, .int a3), (6, .int v6)]) (k := 5) (v := (v5 + 1)) hx hb dX11_onlyPlace_42 hl rfl (zi_1 _) (by decide) rfl (fun ls hl => ?_)
        obtain rfl := Option.some.inj e_x4
        exact K_x4 ls _ _ (lv_sub hl [2, 3, 4, 5, 1, 0, 6] rfl) I
def m_X11_onlyPlace (fu : Nat) (σ : zmem) (a1 : Int32) (a2 : Int32) (a3 : Int32) : Option (Int32) := (l_X11_onlyPlace_9 fu σ a1 a2 a3 fu (-1 : Int32) (0 : Int32) (0 : Int32)).bind fun x7 => (if ¬ x7.2 = (1 : Int32) then some (-1 : Int32) else some x7.1)
set_option maxHeartbeats 4000000 in
set_option maxRecDepth 100000 in
theorem c_X11_onlyPlace (l : Launch) (g : zgeo) (fu : Nat) {σ : zmem} {a1 : Int32} {a2 : Int32} {a3 : Int32} {r : Int32} (hr : m_X11_onlyPlace fu σ a1 a2 a3 = some r) : zCt (zQI g r σ) l g yX11_onlyPlace cX11_onlyPlace 7 (some .int) 2 48 [.ref (zA g 103), .int a1, .int a2, .int a3] σ := by
  refine zopen (by decide) (Nat.le_of_ble_eq_true rfl) ?_
  intro p e s m below meth c M ls hl I
  have M : zMC RX11 cX11_onlyPlace 7 (some .int) g p m c s ([.ref (zA g 103), .int a1, .int a2, .int a3] : List Value).toArray meth := M
  have hl : lv_has ls 7 [(0, .ref (zA g 103)), (1, .int a1), (2, .int a2), (3, .int a3)] := hl
  generalize ([.ref (zA g 103), .int a1, .int a2, .int a3] : List Value).toArray = args at M ⊢
  have hx := M.1.1
  have hb := M.1.2.1
  unfold m_X11_onlyPlace at hr
  refine lv_iconst (v := (-1 : Int32)) hx hb dX11_onlyPlace_0 (by decide) ?_
  refine lv_istore (lv' := [(4, .int (-1 : Int32)), (0, .ref (zA g 103)), (1, .int a1), (2, .int a2), (3, .int a3)]) hx hb dX11_onlyPlace_1 hl (by decide) rfl (fun ls hl => ?_)
  refine lv_iconst (v := (0 : Int32)) hx hb dX11_onlyPlace_3 (by decide) ?_
  refine lv_istore (lv' := [(5, .int (0 : Int32)), (4, .int (-1 : Int32)), (0, .ref (zA g 103)), (1, .int a1), (2, .int a2), (3, .int a3)]) hx hb dX11_onlyPlace_4 hl (by decide) rfl (fun ls hl => ?_)
  refine lv_iconst (v := (0 : Int32)) hx hb dX11_onlyPlace_6 (by decide) ?_
  refine lv_istore (lv' := [(6, .int (0 : Int32)), (5, .int (0 : Int32)), (4, .int (-1 : Int32)), (0, .ref (zA g 103)), (1, .int a1), (2, .int a2), (3, .int a3)]) hx hb dX11_onlyPlace_7 hl (by decide) rfl (fun ls hl => ?_)
  obtain ⟨x7, e_x7, hr⟩ := zb_some hr
  refine k_X11_onlyPlace_9 M  fu _ _ _  _ e_x7 ls _ _ (lv_sub hl [3, 4, 5, 6, 2, 1, 0] rfl) I (fun ls H locs hl I => ?_)
  refine lv_iload hx hb dX11_onlyPlace_51 (lv_at hl 1 rfl) ?_
  refine lv_iconst (v := (1 : Int32)) hx hb dX11_onlyPlace_53 (by decide) ?_
  refine lv_icmp_ne (tgt := 62) hx hb dX11_onlyPlace_54 (by decide) (fun c8 => ?_) (fun c8 => ?_)
  · replace hr := zif_t hr c8
    refine lv_iconst (v := (-1 : Int32)) hx hb dX11_onlyPlace_62 (by decide) ?_
    obtain rfl := Option.some.inj hr
    exact zretI M I dX11_onlyPlace_63
  · replace hr := zif_f hr (fun hq => hq c8)
    refine lv_iload hx hb dX11_onlyPlace_57 (lv_at hl 0 rfl) ?_
    refine lv_goto (tgt := 63) hx hb dX11_onlyPlace_59 (by decide) ?_
    obtain rfl := Option.some.inj hr
    exact zretI M I dX11_onlyPlace_63
def l_X11_layAnchors_12 (fu : Nat) : Nat → Int32 → zmem → Option (zmem)
  | 0, _, _ => none
  | n + 1, v1, σ => (zrd σ 104 (0 : Int32)).bind fun x1 => (m_X11_signs fu σ (0 : Int32)).bind fun x2 => (if x2 < (v1 + x1) then some σ else (m_X11_onlyPlace fu σ v1 (0 : Int32) (0 : Int32)).bind fun x3 => ((if ¬ x3 = v1 then some (0 : Int32) else some (1 : Int32)) : Option (Int32)).bind fun x4 => ((if x4 = 0 then some (-1 : Int32) else (m_X11_onlyPlace fu σ v1 (1 : Int32) (0 : Int32)).bind fun x19 => some x19) : Option (Int32)).bind fun x5 => ((if x5 = (-1 : Int32) then some σ else (zwr σ 109 (σ.1 103 10) v1).bind fun s16 => (zwr s16 110 (s16.1 103 10) x5).bind fun s17 => some (zst s17 103 10 ((s17.1 103 10) + (1 : Int32)))) : Option (zmem)).bind fun x6 => ((if x4 = 0 then some (-1 : Int32) else (m_X11_stands fu x6 v1 (0 : Int32) v1 (1 : Int32)).bind fun x12 => (if ¬ x12 = 0 then some (-1 : Int32) else (m_X11_onlyPlace fu x6 v1 (1 : Int32) (1 : Int32)).bind fun x13 => some x13)) : Option (Int32)).bind fun x7 => ((if x7 = (-1 : Int32) then some x6 else (zwr x6 111 (x6.1 103 13) v1).bind fun s9 => (zwr s9 112 (s9.1 103 13) x7).bind fun s10 => some (zst s10 103 13 ((s10.1 103 13) + (1 : Int32)))) : Option (zmem)).bind fun x8 => l_X11_layAnchors_12 fu n (v1 + 1) x8)
set_option maxHeartbeats 4000000 in
set_option maxRecDepth 100000 in
theorem k_X11_layAnchors_12 {l : Launch} {g : zgeo} {fu : Nat} {p : Program} {e : Env} {s : State} {m : MethodId} {args : Array Value} {below : List Frame} {meth : Method} {c : Code} (M : zMC RX11 cX11_layAnchors 5 none g p m c s args meth) {Q : State → Prop} : ∀ (n : Nat) (v1 : Int32) (σ : zmem) (o : zmem), l_X11_layAnchors_12 fu n v1 σ = some o → ∀ (ls : Array Slot) (H : Heap) (locs : List Loc), lv_has ls 5 [(0, .ref (zA g 103)), (1, .int v1)] → zIV g σ (zAA g) s.heap H locs → (∀ (ls : Array Slot) (H : Heap) (locs : List Loc), lv_has ls 5 [] → zIV g o (zAA g) s.heap H locs → W p l e (zrm 3 74) s m args below meth c H locs 0 0 Q (F0 m 167 ls [])) → W p l e (zrm 3 74) s m args below meth c H locs 0 0 Q (F0 m 12 ls []) := by
  have hx := M.1.1
  have hb := M.1.2.1
  intro n
  induction n with
  | zero =>
    intro v1 σ o hr ls H locs hl I KF
    have hr : (none : Option (zmem)) = some o := hr
    cases hr
  | succ n ih =>
    intro v1 σ o hr ls H locs hl I KF
    rw [l_X11_layAnchors_12] at hr
    refine lv_iload_n hx hb dX11_layAnchors_12 rfl (lv_at hl 1 rfl) ?_
    refine lv_aload_n hx hb dX11_layAnchors_13 rfl (lv_at hl 0 rfl) ?_
    refine zgetR (j := 104) M I zc_103 zfl_X11_7 dX11_layAnchors_14 rfl ?_
    refine lv_iconst (v := (0 : Int32)) hx hb dX11_layAnchors_17 (by decide) ?_
    obtain ⟨x1, e_x1, hr⟩ := zb_some hr
    refine ziald M I zc_104 e_x1 dX11_layAnchors_18 ?_
    refine lv_iadd hx hb dX11_layAnchors_19 ?_
    refine lv_aload_n hx hb dX11_layAnchors_20 rfl (lv_at hl 0 rfl) ?_
    refine lv_iconst (v := (0 : Int32)) hx hb dX11_layAnchors_21 (by decide) ?_
    obtain ⟨x2, e_x2, hr⟩ := zb_some hr
    refine zcallI M I (zrunV (as := [.int (0 : Int32)]) M I (c_X11_signs l g fu e_x2) zc_103 zK11.1 (by decide) zlv_X11_85 ⟨Nat.le_of_ble_eq_true rfl, Nat.le_of_ble_eq_true rfl⟩ ⟨Nat.zero_le _, Nat.zero_le _⟩ rfl rfl (Nat.le_of_ble_eq_true rfl) hl.1 dX11_layAnchors_22) (fun H locs I => ?_)
    refine lv_icmp_gt (tgt := 167) hx hb dX11_layAnchors_25 (by decide) (fun c22 => ?_) (fun c22 => ?_)
    · replace hr := zif_t hr c22
      obtain rfl := Option.some.inj hr
      exact KF ls _ _ (lv_sub hl [] rfl) I
    · replace hr := zif_f hr c22
      refine lv_aload_n hx hb dX11_layAnchors_28 rfl (lv_at hl 0 rfl) ?_
      refine lv_iload_n hx hb dX11_layAnchors_29 rfl (lv_at hl 1 rfl) ?_
      refine lv_iconst (v := (0 : Int32)) hx hb dX11_layAnchors_30 (by decide) ?_
      refine lv_iconst (v := (0 : Int32)) hx hb dX11_layAnchors_31 (by decide) ?_
      obtain ⟨x3, e_x3, hr⟩ := zb_some hr
      refine zcallI M I (zrunV (as := [.int v1, .int (0 : Int32), .int (0 : Int32)]) M I (c_X11_onlyPlace l g fu e_x3) zc_103 zK11.1 (by decide) zlv_X11_103 ⟨Nat.le_of_ble_eq_true rfl, Nat.le_of_ble_eq_true rfl⟩ ⟨Nat.zero_le _, Nat.zero_le _⟩ rfl rfl (Nat.le_of_ble_eq_true rfl) hl.1 dX11_layAnchors_32) (fun H locs I => ?_)
      refine lv_iload_n hx hb dX11_layAnchors_35 rfl (lv_at hl 1 rfl) ?_
      obtain ⟨x4, e_x4, hr⟩ := zb_some hr
      have K_x4 : ∀ (ls : Array Slot) (H : Heap) (locs : List Loc), lv_has ls 5 [(0, .ref (zA g 103)), (1, .int v1)] → zIV g σ (zAA g) s.heap H locs → W p l e (zrm 3 74) s m args below meth c H locs 0 0 Q (F0 m 44 ls [.int x4]) := by
        intro ls H locs hl I
        refine lv_istore_n (lv' := [(2, .int x4), (0, .ref (zA g 103)), (1, .int v1)]) hx hb dX11_layAnchors_44 rfl hl (by decide) rfl (fun ls hl => ?_)
        refine lv_iload_n hx hb dX11_layAnchors_45 rfl (lv_at hl 0 rfl) ?_
        obtain ⟨x5, e_x5, hr⟩ := zb_some hr
        have K_x5 : ∀ (ls : Array Slot) (H : Heap) (locs : List Loc), lv_has ls 5 [(0, .ref (zA g 103)), (1, .int v1), (2, .int x4)] → zIV g σ (zAA g) s.heap H locs → W p l e (zrm 3 74) s m args below meth c H locs 0 0 Q (F0 m 60 ls [.int x5]) := by
          intro ls H locs hl I
          refine lv_istore_n (lv' := [(3, .int x5), (0, .ref (zA g 103)), (1, .int v1), (2, .int x4)]) hx hb dX11_layAnchors_60 rfl hl (by decide) rfl (fun ls hl => ?_)
          refine lv_iload_n hx hb dX11_layAnchors_61 rfl (lv_at hl 0 rfl) ?_
          refine lv_iconst (v := (-1 : Int32)) hx hb dX11_layAnchors_62 (by decide) ?_
          obtain ⟨x6, e_x6, hr⟩ := zb_some hr
          have K_x6 : ∀ (ls : Array Slot) (H : Heap) (locs : List Loc), lv_has ls 5 [(0, .ref (zA g 103)), (1, .int v1), (2, .int x4)] → zIV g x6 (zAA g) s.heap H locs → W p l e (zrm 3 74) s m args below meth c H locs 0 0 Q (F0 m 96 ls []) := by
            intro ls H locs hl I
            refine lv_iload_n hx hb dX11_layAnchors_96 rfl (lv_at hl 2 rfl) ?_
            obtain ⟨x7, e_x7, hr⟩ := zb_some hr
            have K_x7 : ∀ (ls : Array Slot) (H : Heap) (locs : List Loc), lv_has ls 5 [(0, .ref (zA g 103)), (1, .int v1)] → zIV g x6 (zAA g) s.heap H locs → W p l e (zrm 3 74) s m args below meth c H locs 0 0 Q (F0 m 122 ls [.int x7]) := by
              intro ls H locs hl I
              refine lv_istore (lv' := [(4, .int x7), (0, .ref (zA g 103)), (1, .int v1)]) hx hb dX11_layAnchors_122 hl (by decide) rfl (fun ls hl => ?_)
              refine lv_iload hx hb dX11_layAnchors_124 (lv_at hl 0 rfl) ?_
              refine lv_iconst (v := (-1 : Int32)) hx hb dX11_layAnchors_126 (by decide) ?_
              obtain ⟨x8, e_x8, hr⟩ := zb_some hr
              have K_x8 : ∀ (ls : Array Slot) (H : Heap) (locs : List Loc), lv_has ls 5 [(0, .ref (zA g 103)), (1, .int v1)] → zIV g x8 (zAA g) s.heap H locs → W p l e (zrm 3 74) s m args below meth c H locs 0 0 Q (F0 m 161 ls []) := by
                intro ls H locs hl I
                refine lv_iinc (lv' := [(1, .int (v1 + 1)), (0, .ref (zA g 103))]) (k := 1) (v := (v1 + 1)) hx hb dX11_layAnchors_161 hl rfl (zi_1 _) (by decide) rfl (fun ls hl => ?_)
                refine lv_goto (tgt := 12) hx hb dX11_layAnchors_164 (by decide) ?_
                exact ih _ _  _ hr ls _ _ (lv_sub hl [1, 0] rfl) I KF
              refine lv_icmp_eq (tgt := 161) hx hb dX11_layAnchors_127 (by decide) (fun c11 => ?_) (fun c11 => ?_)
              · replace e_x8 := zif_t e_x8 c11
                obtain rfl := Option.some.inj e_x8
                exact K_x8 ls _ _ (lv_sub hl [1, 2] rfl) I
              · replace e_x8 := zif_f e_x8 c11
                refine lv_aload_n hx hb dX11_layAnchors_130 rfl (lv_at hl 1 rfl) ?_
                refine zgetR (j := 111) M I zc_103 zfl_X11_31 dX11_layAnchors_131 rfl ?_
                refine lv_aload_n hx hb dX11_layAnchors_134 rfl (lv_at hl 1 rfl) ?_
                refine zgetI M I zc_103 zfl_X11_100 dX11_layAnchors_135 ?_
                refine lv_iload_n hx hb dX11_layAnchors_138 rfl (lv_at hl 2 rfl) ?_
                obtain ⟨s9, e_s9, e_x8⟩ := zb_some e_x8
                refine ziast M I zc_111 e_s9 dX11_layAnchors_139 (fun H locs I => ?_)
                refine lv_aload_n hx hb dX11_layAnchors_140 rfl (lv_at hl 1 rfl) ?_
                refine zgetR (j := 112) M I zc_103 zfl_X11_34 dX11_layAnchors_141 rfl ?_
                refine lv_aload_n hx hb dX11_layAnchors_144 rfl (lv_at hl 1 rfl) ?_
                refine zgetI M I zc_103 zfl_X11_100 dX11_layAnchors_145 ?_
                refine lv_iload hx hb dX11_layAnchors_148 (lv_at hl 0 rfl) ?_
                obtain ⟨s10, e_s10, e_x8⟩ := zb_some e_x8
                refine ziast M I zc_112 e_s10 dX11_layAnchors_150 (fun H locs I => ?_)
                refine lv_aload_n hx hb dX11_layAnchors_151 rfl (lv_at hl 1 rfl) ?_
                refine lv_dup hx hb dX11_layAnchors_152 rfl ?_
                refine zgetI M I zc_103 zfl_X11_100 dX11_layAnchors_153 ?_
                refine lv_iconst (v := (1 : Int32)) hx hb dX11_layAnchors_156 (by decide) ?_
                refine lv_iadd hx hb dX11_layAnchors_157 ?_
                refine zputI M I zc_103 zfw_X11_100 dX11_layAnchors_158 (fun H locs I => ?_)
                obtain rfl := Option.some.inj e_x8
                exact K_x8 ls _ _ (lv_sub hl [1, 2] rfl) I
            refine lv_if_eq (tgt := 121) hx hb dX11_layAnchors_97 (by decide) (fun c15 => ?_) (fun c15 => ?_)
            · replace e_x7 := zif_t e_x7 c15
              refine lv_iconst (v := (-1 : Int32)) hx hb dX11_layAnchors_121 (by decide) ?_
              obtain rfl := Option.some.inj e_x7
              exact K_x7 ls _ _ (lv_sub hl [0, 1] rfl) I
            · replace e_x7 := zif_f e_x7 c15
              refine lv_aload_n hx hb dX11_layAnchors_100 rfl (lv_at hl 0 rfl) ?_
              refine lv_iload_n hx hb dX11_layAnchors_101 rfl (lv_at hl 1 rfl) ?_
              refine lv_iconst (v := (0 : Int32)) hx hb dX11_layAnchors_102 (by decide) ?_
              refine lv_iload_n hx hb dX11_layAnchors_103 rfl (lv_at hl 1 rfl) ?_
              refine lv_iconst (v := (1 : Int32)) hx hb dX11_layAnchors_104 (by decide) ?_
              obtain ⟨x12, e_x12, e_x7⟩ := zb_some e_x7
              refine zcallI M I (zrunV (as := [.int v1, .int (0 : Int32), .int v1, .int (1 : Int32)]) M I (c_X11_stands l g fu e_x12) zc_103 zK11.1 (by decide) zlv_X11_93 ⟨Nat.le_of_ble_eq_true rfl, Nat.le_of_ble_eq_true rfl⟩ ⟨Nat.zero_le _, Nat.zero_le _⟩ rfl rfl (Nat.le_of_ble_eq_true rfl) hl.1 dX11_layAnchors_105) (fun H locs I => ?_)
              refine lv_if_ne (tgt := 121) hx hb dX11_layAnchors_108 (by decide) (fun c14 => ?_) (fun c14 => ?_)
              · replace e_x7 := zif_t e_x7 c14
                refine lv_iconst (v := (-1 : Int32)) hx hb dX11_layAnchors_121 (by decide) ?_
                obtain rfl := Option.some.inj e_x7
                exact K_x7 ls _ _ (lv_sub hl [0, 1] rfl) I
              · replace e_x7 := zif_f e_x7 (fun hq => hq c14)
                refine lv_aload_n hx hb dX11_layAnchors_111 rfl (lv_at hl 0 rfl) ?_
                refine lv_iload_n hx hb dX11_layAnchors_112 rfl (lv_at hl 1 rfl) ?_
                refine lv_iconst (v := (1 : Int32)) hx hb dX11_layAnchors_113 (by decide) ?_
                refine lv_iconst (v := (1 : Int32)) hx hb dX11_layAnchors_114 (by decide) ?_
                obtain ⟨x13, e_x13, e_x7⟩ := zb_some e_x7
                refine zcallI M I (zrunV (as := [.int v1, .int (1 : Int32), .int (1 : Int32)]) M I (c_X11_onlyPlace l g fu e_x13) zc_103 zK11.1 (by decide) zlv_X11_103 ⟨Nat.le_of_ble_eq_true rfl, Nat.le_of_ble_eq_true rfl⟩ ⟨Nat.zero_le _, Nat.zero_le _⟩ rfl rfl (Nat.le_of_ble_eq_true rfl) hl.1 dX11_layAnchors_115) (fun H locs I => ?_)
                refine lv_goto (tgt := 122) hx hb dX11_layAnchors_118 (by decide) ?_
                obtain rfl := Option.some.inj e_x7
                exact K_x7 ls _ _ (lv_sub hl [0, 1] rfl) I
          refine lv_icmp_eq (tgt := 96) hx hb dX11_layAnchors_63 (by decide) (fun c18 => ?_) (fun c18 => ?_)
          · replace e_x6 := zif_t e_x6 c18
            obtain rfl := Option.some.inj e_x6
            exact K_x6 ls _ _ (lv_sub hl [1, 2, 3] rfl) I
          · replace e_x6 := zif_f e_x6 c18
            refine lv_aload_n hx hb dX11_layAnchors_66 rfl (lv_at hl 1 rfl) ?_
            refine zgetR (j := 109) M I zc_103 zfl_X11_25 dX11_layAnchors_67 rfl ?_
            refine lv_aload_n hx hb dX11_layAnchors_70 rfl (lv_at hl 1 rfl) ?_
            refine zgetI M I zc_103 zfl_X11_97 dX11_layAnchors_71 ?_
            refine lv_iload_n hx hb dX11_layAnchors_74 rfl (lv_at hl 2 rfl) ?_
            obtain ⟨s16, e_s16, e_x6⟩ := zb_some e_x6
            refine ziast M I zc_109 e_s16 dX11_layAnchors_75 (fun H locs I => ?_)
            refine lv_aload_n hx hb dX11_layAnchors_76 rfl (lv_at hl 1 rfl) ?_
            refine zgetR (j := 110) M I zc_103 zfl_X11_28 dX11_layAnchors_77 rfl ?_
            refine lv_aload_n hx hb dX11_layAnchors_80 rfl (lv_at hl 1 rfl) ?_
            refine zgetI M I zc_103 zfl_X11_97 dX11_layAnchors_81 ?_
            refine lv_iload_n hx hb dX11_layAnchors_84 rfl (lv_at hl 0 rfl) ?_
            obtain ⟨s17, e_s17, e_x6⟩ := zb_some e_x6
            refine ziast M I zc_110 e_s17 dX11_layAnchors_85 (fun H locs I => ?_)
            refine lv_aload_n hx hb dX11_layAnchors_86 rfl (lv_at hl 1 rfl) ?_
            refine lv_dup hx hb dX11_layAnchors_87 rfl ?_
            refine zgetI M I zc_103 zfl_X11_97 dX11_layAnchors_88 ?_
            refine lv_iconst (v := (1 : Int32)) hx hb dX11_layAnchors_91 (by decide) ?_
            refine lv_iadd hx hb dX11_layAnchors_92 ?_
            refine zputI M I zc_103 zfw_X11_97 dX11_layAnchors_93 (fun H locs I => ?_)
            obtain rfl := Option.some.inj e_x6
            exact K_x6 ls _ _ (lv_sub hl [1, 2, 3] rfl) I
        refine lv_if_eq (tgt := 59) hx hb dX11_layAnchors_46 (by decide) (fun c20 => ?_) (fun c20 => ?_)
        · replace e_x5 := zif_t e_x5 c20
          refine lv_iconst (v := (-1 : Int32)) hx hb dX11_layAnchors_59 (by decide) ?_
          obtain rfl := Option.some.inj e_x5
          exact K_x5 ls _ _ (lv_sub hl [1, 2, 0] rfl) I
        · replace e_x5 := zif_f e_x5 c20
          refine lv_aload_n hx hb dX11_layAnchors_49 rfl (lv_at hl 1 rfl) ?_
          refine lv_iload_n hx hb dX11_layAnchors_50 rfl (lv_at hl 2 rfl) ?_
          refine lv_iconst (v := (1 : Int32)) hx hb dX11_layAnchors_51 (by decide) ?_
          refine lv_iconst (v := (0 : Int32)) hx hb dX11_layAnchors_52 (by decide) ?_
          obtain ⟨x19, e_x19, e_x5⟩ := zb_some e_x5
          refine zcallI M I (zrunV (as := [.int v1, .int (1 : Int32), .int (0 : Int32)]) M I (c_X11_onlyPlace l g fu e_x19) zc_103 zK11.1 (by decide) zlv_X11_103 ⟨Nat.le_of_ble_eq_true rfl, Nat.le_of_ble_eq_true rfl⟩ ⟨Nat.zero_le _, Nat.zero_le _⟩ rfl rfl (Nat.le_of_ble_eq_true rfl) hl.1 dX11_layAnchors_53) (fun H locs I => ?_)
          refine lv_goto (tgt := 60) hx hb dX11_layAnchors_56 (by decide) ?_
          obtain rfl := Option.some.inj e_x5
          exact K_x5 ls _ _ (lv_sub hl [1, 2, 0] rfl) I
      refine lv_icmp_ne (tgt := 43) hx hb dX11_layAnchors_36 (by decide) (fun c21 => ?_) (fun c21 => ?_)
      · replace e_x4 := zif_t e_x4 c21
        refine lv_iconst (v := (0 : Int32)) hx hb dX11_layAnchors_43 (by decide) ?_
        obtain rfl := Option.some.inj e_x4
        exact K_x4 ls _ _ hl I
      · replace e_x4 := zif_f e_x4 (fun hq => hq c21)
        refine lv_iconst (v := (1 : Int32)) hx hb dX11_layAnchors_39 (by decide) ?_
        refine lv_goto (tgt := 44) hx hb dX11_layAnchors_40 (by decide) ?_
        obtain rfl := Option.some.inj e_x4
        exact K_x4 ls _ _ hl I
def m_X11_layAnchors (fu : Nat) (σ : zmem) : Option (zmem) := (l_X11_layAnchors_12 fu fu (0 : Int32) (zst (zst σ 103 10 (0 : Int32)) 103 13 (0 : Int32))).bind fun x23 => some x23
set_option maxHeartbeats 4000000 in
set_option maxRecDepth 100000 in
theorem c_X11_layAnchors (l : Launch) (g : zgeo) (fu : Nat) {σ : zmem} {r : zmem} (hr : m_X11_layAnchors fu σ = some r) : zCt (zQV g r) l g yX11_layAnchors cX11_layAnchors 5 none 3 74 [.ref (zA g 103)] σ := by
  refine zopen (by decide) (Nat.le_of_ble_eq_true rfl) ?_
  intro p e s m below meth c M ls hl I
  have M : zMC RX11 cX11_layAnchors 5 none g p m c s ([.ref (zA g 103)] : List Value).toArray meth := M
  have hl : lv_has ls 5 [(0, .ref (zA g 103))] := hl
  generalize ([.ref (zA g 103)] : List Value).toArray = args at M ⊢
  have hx := M.1.1
  have hb := M.1.2.1
  unfold m_X11_layAnchors at hr
  refine lv_aload_n hx hb dX11_layAnchors_0 rfl (lv_at hl 0 rfl) ?_
  refine lv_iconst (v := (0 : Int32)) hx hb dX11_layAnchors_1 (by decide) ?_
  refine zputI M I zc_103 zfw_X11_97 dX11_layAnchors_2 (fun H locs I => ?_)
  refine lv_aload_n hx hb dX11_layAnchors_5 rfl (lv_at hl 0 rfl) ?_
  refine lv_iconst (v := (0 : Int32)) hx hb dX11_layAnchors_6 (by decide) ?_
  refine zputI M I zc_103 zfw_X11_100 dX11_layAnchors_7 (fun H locs I => ?_)
  refine lv_iconst (v := (0 : Int32)) hx hb dX11_layAnchors_10 (by decide) ?_
  refine lv_istore_n (lv' := [(1, .int (0 : Int32)), (0, .ref (zA g 103))]) hx hb dX11_layAnchors_11 rfl hl (by decide) rfl (fun ls hl => ?_)
  obtain ⟨x23, e_x23, hr⟩ := zb_some hr
  refine k_X11_layAnchors_12 M  fu _ _  _ e_x23 ls _ _ (lv_sub hl [1, 0] rfl) I (fun ls H locs hl I => ?_)
  obtain rfl := Option.some.inj hr
  exact zretV M I dX11_layAnchors_167
def m_X11_fit (fu : Nat) (σ : zmem) (a1 : Int32) (a2 : Int32) : Option (Int32) := (zrd σ 109 a2).bind fun x1 => (zrd σ 109 a1).bind fun x2 => (zrd σ 110 a2).bind fun x3 => (zrd σ 110 a1).bind fun x4 => (zrd σ 104 (0 : Int32)).bind fun x5 => ((if (x1 - x2) < x5 then some (1 : Int32) else (zrd σ 104 (0 : Int32)).bind fun x11 => (if x11 ≤ (x3 - x4) then some (0 : Int32) else some (1 : Int32))) : Option (Int32)).bind fun x6 => (if (x1 - x2) ≤ 0 then some (0 : Int32) else (if (x3 - x4) ≤ 0 then some (0 : Int32) else (if x6 = 0 then some (1 : Int32) else (if ¬ (x1 - x2) = (x3 - x4) then some (0 : Int32) else some (1 : Int32)))))
set_option maxHeartbeats 4000000 in
set_option maxRecDepth 100000 in
theorem c_X11_fit (l : Launch) (g : zgeo) (fu : Nat) {σ : zmem} {a1 : Int32} {a2 : Int32} {r : Int32} (hr : m_X11_fit fu σ a1 a2 = some r) : zCt (zQI g r σ) l g yX11_fit cX11_fit 6 (some .boolean) 0 0 [.ref (zA g 103), .int a1, .int a2] σ := by
  refine zopen (by decide) (Nat.le_of_ble_eq_true rfl) ?_
  intro p e s m below meth c M ls hl I
  have M : zMC RX11 cX11_fit 6 (some .boolean) g p m c s ([.ref (zA g 103), .int a1, .int a2] : List Value).toArray meth := M
  have hl : lv_has ls 6 [(0, .ref (zA g 103)), (1, .int a1), (2, .int a2)] := hl
  generalize ([.ref (zA g 103), .int a1, .int a2] : List Value).toArray = args at M ⊢
  have hx := M.1.1
  have hb := M.1.2.1
  unfold m_X11_fit at hr
  refine lv_aload_n hx hb dX11_fit_0 rfl (lv_at hl 0 rfl) ?_
  refine zgetR (j := 109) M I zc_103 zfl_X11_25 dX11_fit_1 rfl ?_
  refine lv_iload_n hx hb dX11_fit_4 rfl (lv_at hl 2 rfl) ?_
  obtain ⟨x1, e_x1, hr⟩ := zb_some hr
  refine ziald M I zc_109 e_x1 dX11_fit_5 ?_
  refine lv_aload_n hx hb dX11_fit_6 rfl (lv_at hl 0 rfl) ?_
  refine zgetR (j := 109) M I zc_103 zfl_X11_25 dX11_fit_7 rfl ?_
  refine lv_iload_n hx hb dX11_fit_10 rfl (lv_at hl 1 rfl) ?_
  obtain ⟨x2, e_x2, hr⟩ := zb_some hr
  refine ziald M I zc_109 e_x2 dX11_fit_11 ?_
  refine lv_isub hx hb dX11_fit_12 ?_
  refine lv_istore_n (lv' := [(3, .int (x1 - x2)), (0, .ref (zA g 103)), (1, .int a1), (2, .int a2)]) hx hb dX11_fit_13 rfl hl (by decide) rfl (fun ls hl => ?_)
  refine lv_aload_n hx hb dX11_fit_14 rfl (lv_at hl 1 rfl) ?_
  refine zgetR (j := 110) M I zc_103 zfl_X11_28 dX11_fit_15 rfl ?_
  refine lv_iload_n hx hb dX11_fit_18 rfl (lv_at hl 3 rfl) ?_
  obtain ⟨x3, e_x3, hr⟩ := zb_some hr
  refine ziald M I zc_110 e_x3 dX11_fit_19 ?_
  refine lv_aload_n hx hb dX11_fit_20 rfl (lv_at hl 1 rfl) ?_
  refine zgetR (j := 110) M I zc_103 zfl_X11_28 dX11_fit_21 rfl ?_
  refine lv_iload_n hx hb dX11_fit_24 rfl (lv_at hl 2 rfl) ?_
  obtain ⟨x4, e_x4, hr⟩ := zb_some hr
  refine ziald M I zc_110 e_x4 dX11_fit_25 ?_
  refine lv_isub hx hb dX11_fit_26 ?_
  refine lv_istore (lv' := [(4, .int (x3 - x4)), (3, .int (x1 - x2)), (0, .ref (zA g 103)), (1, .int a1), (2, .int a2)]) hx hb dX11_fit_27 hl (by decide) rfl (fun ls hl => ?_)
  refine lv_iload_n hx hb dX11_fit_29 rfl (lv_at hl 1 rfl) ?_
  refine lv_aload_n hx hb dX11_fit_30 rfl (lv_at hl 2 rfl) ?_
  refine zgetR (j := 104) M I zc_103 zfl_X11_7 dX11_fit_31 rfl ?_
  refine lv_iconst (v := (0 : Int32)) hx hb dX11_fit_34 (by decide) ?_
  obtain ⟨x5, e_x5, hr⟩ := zb_some hr
  refine ziald M I zc_104 e_x5 dX11_fit_35 ?_
  obtain ⟨x6, e_x6, hr⟩ := zb_some hr
  have K_x6 : ∀ (ls : Array Slot) (H : Heap) (locs : List Loc), lv_has ls 6 [(3, .int (x1 - x2)), (4, .int (x3 - x4))] → zIV g σ (zAA g) s.heap H locs → W p l e (zrm 0 0) s m args below meth c H locs 0 0 (MQ below (zQI g r σ) args s 0 0 (zAA g)) (F0 m 55 ls [.int x6]) := by
    intro ls H locs hl I
    refine lv_istore (lv' := [(5, .int x6), (3, .int (x1 - x2)), (4, .int (x3 - x4))]) hx hb dX11_fit_55 hl (by decide) rfl (fun ls hl => ?_)
    refine lv_iload_n hx hb dX11_fit_57 rfl (lv_at hl 1 rfl) ?_
    refine lv_if_le (tgt := 81) hx hb dX11_fit_58 (by decide) (fun c10 => ?_) (fun c10 => ?_)
    · replace hr := zif_t hr c10
      refine lv_iconst (v := (0 : Int32)) hx hb dX11_fit_81 (by decide) ?_
      obtain rfl := Option.some.inj hr
      exact zretZ M I (Or.inl rfl) dX11_fit_82
    · replace hr := zif_f hr c10
      refine lv_iload hx hb dX11_fit_61 (lv_at hl 2 rfl) ?_
      refine lv_if_le (tgt := 81) hx hb dX11_fit_63 (by decide) (fun c9 => ?_) (fun c9 => ?_)
      · replace hr := zif_t hr c9
        refine lv_iconst (v := (0 : Int32)) hx hb dX11_fit_81 (by decide) ?_
        obtain rfl := Option.some.inj hr
        exact zretZ M I (Or.inl rfl) dX11_fit_82
      · replace hr := zif_f hr c9
        refine lv_iload hx hb dX11_fit_66 (lv_at hl 0 rfl) ?_
        refine lv_if_eq (tgt := 77) hx hb dX11_fit_68 (by decide) (fun c8 => ?_) (fun c8 => ?_)
        · replace hr := zif_t hr c8
          refine lv_iconst (v := (1 : Int32)) hx hb dX11_fit_77 (by decide) ?_
          refine lv_goto (tgt := 82) hx hb dX11_fit_78 (by decide) ?_
          obtain rfl := Option.some.inj hr
          exact zretZ M I (Or.inr rfl) dX11_fit_82
        · replace hr := zif_f hr c8
          refine lv_iload_n hx hb dX11_fit_71 rfl (lv_at hl 1 rfl) ?_
          refine lv_iload hx hb dX11_fit_72 (lv_at hl 2 rfl) ?_
          refine lv_icmp_ne (tgt := 81) hx hb dX11_fit_74 (by decide) (fun c7 => ?_) (fun c7 => ?_)
          · replace hr := zif_t hr c7
            refine lv_iconst (v := (0 : Int32)) hx hb dX11_fit_81 (by decide) ?_
            obtain rfl := Option.some.inj hr
            exact zretZ M I (Or.inl rfl) dX11_fit_82
          · replace hr := zif_f hr (fun hq => hq c7)
            refine lv_iconst (v := (1 : Int32)) hx hb dX11_fit_77 (by decide) ?_
            refine lv_goto (tgt := 82) hx hb dX11_fit_78 (by decide) ?_
            obtain rfl := Option.some.inj hr
            exact zretZ M I (Or.inr rfl) dX11_fit_82
  refine lv_icmp_lt (tgt := 50) hx hb dX11_fit_36 (by decide) (fun c13 => ?_) (fun c13 => ?_)
  · replace e_x6 := zif_t e_x6 c13
    refine lv_iconst (v := (1 : Int32)) hx hb dX11_fit_50 (by decide) ?_
    refine lv_goto (tgt := 55) hx hb dX11_fit_51 (by decide) ?_
    obtain rfl := Option.some.inj e_x6
    exact K_x6 ls _ _ (lv_sub hl [1, 0] rfl) I
  · replace e_x6 := zif_f e_x6 c13
    refine lv_iload hx hb dX11_fit_39 (lv_at hl 0 rfl) ?_
    refine lv_aload_n hx hb dX11_fit_41 rfl (lv_at hl 2 rfl) ?_
    refine zgetR (j := 104) M I zc_103 zfl_X11_7 dX11_fit_42 rfl ?_
    refine lv_iconst (v := (0 : Int32)) hx hb dX11_fit_45 (by decide) ?_
    obtain ⟨x11, e_x11, e_x6⟩ := zb_some e_x6
    refine ziald M I zc_104 e_x11 dX11_fit_46 ?_
    refine lv_icmp_ge (tgt := 54) hx hb dX11_fit_47 (by decide) (fun c12 => ?_) (fun c12 => ?_)
    · replace e_x6 := zif_t e_x6 c12
      refine lv_iconst (v := (0 : Int32)) hx hb dX11_fit_54 (by decide) ?_
      obtain rfl := Option.some.inj e_x6
      exact K_x6 ls _ _ (lv_sub hl [1, 0] rfl) I
    · replace e_x6 := zif_f e_x6 c12
      refine lv_iconst (v := (1 : Int32)) hx hb dX11_fit_50 (by decide) ?_
      refine lv_goto (tgt := 55) hx hb dX11_fit_51 (by decide) ?_
      obtain rfl := Option.some.inj e_x6
      exact K_x6 ls _ _ (lv_sub hl [1, 0] rfl) I
def l_X11_layChain_35 (fu : Nat) (a1 : Int32) (a2 : Int32) : Nat → Int32 → zmem → Option (zmem)
  | 0, _, _ => none
  | n + 1, v3, σ => (if (σ.1 103 10) ≤ v3 then some σ else (m_X11_fit fu σ a2 v3).bind fun x4 => ((if x4 = 0 then (zrd σ 113 a2).bind fun x7 => some x7 else (zrd σ 113 v3).bind fun x8 => (zrd σ 113 a2).bind fun x9 => (if (x8 + (1 : Int32)) ≤ x9 then (zrd σ 113 a2).bind fun x10 => some x10 else (zrd σ 113 v3).bind fun x11 => some (x11 + (1 : Int32)))) : Option (Int32)).bind fun x5 => (zwr σ 113 a2 x5).bind fun s6 => l_X11_layChain_35 fu a1 a2 n (v3 + 1) s6)
set_option maxHeartbeats 4000000 in
set_option maxRecDepth 100000 in
theorem k_X11_layChain_35 {l : Launch} {g : zgeo} {fu : Nat} {p : Program} {e : Env} {s : State} {m : MethodId} {args : Array Value} {below : List Frame} {meth : Method} {c : Code} (M : zMC RX11 cX11_layChain 4 none g p m c s args meth) {a1 : Int32} {a2 : Int32} {Q : State → Prop} : ∀ (n : Nat) (v3 : Int32) (σ : zmem) (o : zmem), l_X11_layChain_35 fu a1 a2 n v3 σ = some o → ∀ (ls : Array Slot) (H : Heap) (locs : List Loc), lv_has ls 4 [(0, .ref (zA g 103)), (1, .int a1), (2, .int a2), (3, .int v3)] → zIV g σ (zAA g) s.heap H locs → (∀ (ls : Array Slot) (H : Heap) (locs : List Loc), lv_has ls 4 [(0, .ref (zA g 103)), (1, .int a1), (2, .int a2)] → zIV g o (zAA g) s.heap H locs → W p l e (zrm 4 98) s m args below meth c H locs 0 0 Q (F0 m 98 ls [])) → W p l e (zrm 4 98) s m args below meth c H locs 0 0 Q (F0 m 35 ls []) := by
  have hx := M.1.1
  have hb := M.1.2.1
  intro n
  induction n with
  | zero =>
    intro v3 σ o hr ls H locs hl I KF
    have hr : (none : Option (zmem)) = some o := hr
    cases hr
  | succ n ih =>
    intro v3 σ o hr ls H locs hl I KF
    rw [l_X11_layChain_35] at hr
    refine lv_iload_n hx hb dX11_layChain_35 rfl (lv_at hl 3 rfl) ?_
    refine lv_aload_n hx hb dX11_layChain_36 rfl (lv_at hl 0 rfl) ?_
    refine zgetI M I zc_103 zfl_X11_97 dX11_layChain_37 ?_
    refine lv_icmp_ge (tgt := 98) hx hb dX11_layChain_40 (by decide) (fun c14 => ?_) (fun c14 => ?_)
    · replace hr := zif_t hr c14
      obtain rfl := Option.some.inj hr
      exact KF ls _ _ (lv_sub hl [0, 1, 2] rfl) I
    · replace hr := zif_f hr c14
      refine lv_aload_n hx hb dX11_layChain_43 rfl (lv_at hl 0 rfl) ?_
      refine zgetR (j := 113) M I zc_103 zfl_X11_37 dX11_layChain_44 rfl ?_
      refine lv_iload_n hx hb dX11_layChain_47 rfl (lv_at hl 2 rfl) ?_
      refine lv_aload_n hx hb dX11_layChain_48 rfl (lv_at hl 0 rfl) ?_
      refine lv_iload_n hx hb dX11_layChain_49 rfl (lv_at hl 2 rfl) ?_
      refine lv_iload_n hx hb dX11_layChain_50 rfl (lv_at hl 3 rfl) ?_
      obtain ⟨x4, e_x4, hr⟩ := zb_some hr
      refine zcallI M I (zrunV (as := [.int a2, .int v3]) M I (c_X11_fit l g fu e_x4) zc_103 zK11.1 (by decide) zlv_X11_110 ⟨Nat.le_of_ble_eq_true rfl, Nat.le_of_ble_eq_true rfl⟩ ⟨Nat.zero_le _, Nat.zero_le _⟩ rfl rfl (Nat.le_of_ble_eq_true rfl) hl.1 dX11_layChain_51) (fun H locs I => ?_)
      obtain ⟨x5, e_x5, hr⟩ := zb_some hr
      have K_x5 : ∀ (ls : Array Slot) (H : Heap) (locs : List Loc), lv_has ls 4 [(0, .ref (zA g 103)), (1, .int a1), (2, .int a2), (3, .int v3)] → zIV g σ (zAA g) s.heap H locs → W p l e (zrm 4 98) s m args below meth c H locs 0 0 Q (F0 m 91 ls [.int x5, .int a2, .ref (zA g 113)]) := by
        intro ls H locs hl I
        obtain ⟨s6, e_s6, hr⟩ := zb_some hr
        refine ziast M I zc_113 e_s6 dX11_layChain_91 (fun H locs I => ?_)
        refine lv_iinc (lv' := [(3, .int (v3 + 1)), (0, .ref (zA g 103)), (1, .int a1), (2, .int a2)]) (k := 3) (v := (v3 + 1)) hx hb dX11_layChain_92 hl rfl (zi_1 _) (by decide) rfl (fun ls hl => ?_)
        refine lv_goto (tgt := 35) hx hb dX11_layChain_95 (by decide) ?_
        exact ih _ _  _ hr ls _ _ (lv_sub hl [1, 2, 3, 0] rfl) I KF
      refine lv_if_eq (tgt := 85) hx hb dX11_layChain_54 (by decide) (fun c13 => ?_) (fun c13 => ?_)
      · replace e_x5 := zif_t e_x5 c13
        refine lv_aload_n hx hb dX11_layChain_85 rfl (lv_at hl 0 rfl) ?_
        refine zgetR (j := 113) M I zc_103 zfl_X11_37 dX11_layChain_86 rfl ?_
        refine lv_iload_n hx hb dX11_layChain_89 rfl (lv_at hl 2 rfl) ?_
        obtain ⟨x7, e_x7, e_x5⟩ := zb_some e_x5
        refine ziald M I zc_113 e_x7 dX11_layChain_90 ?_
        obtain rfl := Option.some.inj e_x5
        exact K_x5 ls _ _ hl I
      · replace e_x5 := zif_f e_x5 c13
        refine lv_aload_n hx hb dX11_layChain_57 rfl (lv_at hl 0 rfl) ?_
        refine zgetR (j := 113) M I zc_103 zfl_X11_37 dX11_layChain_58 rfl ?_
        refine lv_iload_n hx hb dX11_layChain_61 rfl (lv_at hl 3 rfl) ?_
        obtain ⟨x8, e_x8, e_x5⟩ := zb_some e_x5
        refine ziald M I zc_113 e_x8 dX11_layChain_62 ?_
        refine lv_iconst (v := (1 : Int32)) hx hb dX11_layChain_63 (by decide) ?_
        refine lv_iadd hx hb dX11_layChain_64 ?_
        refine lv_aload_n hx hb dX11_layChain_65 rfl (lv_at hl 0 rfl) ?_
        refine zgetR (j := 113) M I zc_103 zfl_X11_37 dX11_layChain_66 rfl ?_
        refine lv_iload_n hx hb dX11_layChain_69 rfl (lv_at hl 2 rfl) ?_
        obtain ⟨x9, e_x9, e_x5⟩ := zb_some e_x5
        refine ziald M I zc_113 e_x9 dX11_layChain_70 ?_
        refine lv_icmp_le (tgt := 85) hx hb dX11_layChain_71 (by decide) (fun c12 => ?_) (fun c12 => ?_)
        · replace e_x5 := zif_t e_x5 c12
          refine lv_aload_n hx hb dX11_layChain_85 rfl (lv_at hl 0 rfl) ?_
          refine zgetR (j := 113) M I zc_103 zfl_X11_37 dX11_layChain_86 rfl ?_
          refine lv_iload_n hx hb dX11_layChain_89 rfl (lv_at hl 2 rfl) ?_
          obtain ⟨x10, e_x10, e_x5⟩ := zb_some e_x5
          refine ziald M I zc_113 e_x10 dX11_layChain_90 ?_
          obtain rfl := Option.some.inj e_x5
          exact K_x5 ls _ _ hl I
        · replace e_x5 := zif_f e_x5 c12
          refine lv_aload_n hx hb dX11_layChain_74 rfl (lv_at hl 0 rfl) ?_
          refine zgetR (j := 113) M I zc_103 zfl_X11_37 dX11_layChain_75 rfl ?_
          refine lv_iload_n hx hb dX11_layChain_78 rfl (lv_at hl 3 rfl) ?_
          obtain ⟨x11, e_x11, e_x5⟩ := zb_some e_x5
          refine ziald M I zc_113 e_x11 dX11_layChain_79 ?_
          refine lv_iconst (v := (1 : Int32)) hx hb dX11_layChain_80 (by decide) ?_
          refine lv_iadd hx hb dX11_layChain_81 ?_
          refine lv_goto (tgt := 91) hx hb dX11_layChain_82 (by decide) ?_
          obtain rfl := Option.some.inj e_x5
          exact K_x5 ls _ _ hl I
def l_X11_layChain_13 (fu : Nat) : Nat → Int32 → Int32 → zmem → Option (Int32 × zmem)
  | 0, _, _, _ => none
  | n + 1, v1, v2, σ => (if v2 < 0 then some (v1, σ) else (zwr σ 113 v2 (1 : Int32)).bind fun s2 => (zwr s2 115 v2 (-1 : Int32)).bind fun s3 => (l_X11_layChain_35 fu v1 v2 fu (v2 + (1 : Int32)) s3).bind fun x15 => (zrd x15 113 v2).bind fun x16 => ((if x16 ≤ v1 then some v1 else (zrd x15 113 v2).bind fun x18 => some x18) : Option (Int32)).bind fun x17 => l_X11_layChain_13 fu n x17 (v2 - 1) x15)
set_option maxHeartbeats 4000000 in
set_option maxRecDepth 100000 in
theorem k_X11_layChain_13 {l : Launch} {g : zgeo} {fu : Nat} {p : Program} {e : Env} {s : State} {m : MethodId} {args : Array Value} {below : List Frame} {meth : Method} {c : Code} (M : zMC RX11 cX11_layChain 4 none g p m c s args meth) {Q : State → Prop} : ∀ (n : Nat) (v1 : Int32) (v2 : Int32) (σ : zmem) (o : Int32 × zmem), l_X11_layChain_13 fu n v1 v2 σ = some o → ∀ (ls : Array Slot) (H : Heap) (locs : List Loc), lv_has ls 4 [(0, .ref (zA g 103)), (1, .int v1), (2, .int v2)] → zIV g σ (zAA g) s.heap H locs → (∀ (ls : Array Slot) (H : Heap) (locs : List Loc), lv_has ls 4 [(0, .ref (zA g 103)), (1, .int o.1)] → zIV g o.2 (zAA g) s.heap H locs → W p l e (zrm 4 98) s m args below meth c H locs 0 0 Q (F0 m 125 ls [])) → W p l e (zrm 4 98) s m args below meth c H locs 0 0 Q (F0 m 13 ls []) := by
  have hx := M.1.1
  have hb := M.1.2.1
  intro n
  induction n with
  | zero =>
    intro v1 v2 σ o hr ls H locs hl I KF
    have hr : (none : Option (Int32 × zmem)) = some o := hr
    cases hr
  | succ n ih =>
    intro v1 v2 σ o hr ls H locs hl I KF
    rw [l_X11_layChain_13] at hr
    refine lv_iload_n hx hb dX11_layChain_13 rfl (lv_at hl 2 rfl) ?_
    refine lv_if_lt (tgt := 125) hx hb dX11_layChain_14 (by decide) (fun c20 => ?_) (fun c20 => ?_)
    · replace hr := zif_t hr c20
      obtain rfl := Option.some.inj hr
      exact KF ls _ _ (lv_sub hl [0, 1] rfl) I
    · replace hr := zif_f hr c20
      refine lv_aload_n hx hb dX11_layChain_17 rfl (lv_at hl 0 rfl) ?_
      refine zgetR (j := 113) M I zc_103 zfl_X11_37 dX11_layChain_18 rfl ?_
      refine lv_iload_n hx hb dX11_layChain_21 rfl (lv_at hl 2 rfl) ?_
      refine lv_iconst (v := (1 : Int32)) hx hb dX11_layChain_22 (by decide) ?_
      obtain ⟨s2, e_s2, hr⟩ := zb_some hr
      refine ziast M I zc_113 e_s2 dX11_layChain_23 (fun H locs I => ?_)
      refine lv_aload_n hx hb dX11_layChain_24 rfl (lv_at hl 0 rfl) ?_
      refine zgetR (j := 115) M I zc_103 zfl_X11_43 dX11_layChain_25 rfl ?_
      refine lv_iload_n hx hb dX11_layChain_28 rfl (lv_at hl 2 rfl) ?_
      refine lv_iconst (v := (-1 : Int32)) hx hb dX11_layChain_29 (by decide) ?_
      obtain ⟨s3, e_s3, hr⟩ := zb_some hr
      refine ziast M I zc_115 e_s3 dX11_layChain_30 (fun H locs I => ?_)
      refine lv_iload_n hx hb dX11_layChain_31 rfl (lv_at hl 2 rfl) ?_
      refine lv_iconst (v := (1 : Int32)) hx hb dX11_layChain_32 (by decide) ?_
      refine lv_iadd hx hb dX11_layChain_33 ?_
      refine lv_istore_n (lv' := [(3, .int (v2 + (1 : Int32))), (0, .ref (zA g 103)), (1, .int v1), (2, .int v2)]) hx hb dX11_layChain_34 rfl hl (by decide) rfl (fun ls hl => ?_)
      obtain ⟨x15, e_x15, hr⟩ := zb_some hr
      refine k_X11_layChain_35 M  fu _ _  _ e_x15 ls _ _ (lv_sub hl [1, 2, 3, 0] rfl) I (fun ls H locs hl I => ?_)
      refine lv_aload_n hx hb dX11_layChain_98 rfl (lv_at hl 0 rfl) ?_
      refine zgetR (j := 113) M I zc_103 zfl_X11_37 dX11_layChain_99 rfl ?_
      refine lv_iload_n hx hb dX11_layChain_102 rfl (lv_at hl 2 rfl) ?_
      obtain ⟨x16, e_x16, hr⟩ := zb_some hr
      refine ziald M I zc_113 e_x16 dX11_layChain_103 ?_
      refine lv_iload_n hx hb dX11_layChain_104 rfl (lv_at hl 1 rfl) ?_
      obtain ⟨x17, e_x17, hr⟩ := zb_some hr
      have K_x17 : ∀ (ls : Array Slot) (H : Heap) (locs : List Loc), lv_has ls 4 [(0, .ref (zA g 103)), (2, .int v2)] → zIV g x15 (zAA g) s.heap H locs → W p l e (zrm 4 98) s m args below meth c H locs 0 0 Q (F0 m 118 ls [.int x17]) := by
        intro ls H locs hl I
        refine lv_istore_n (lv' := [(1, .int x17), (0, .ref (zA g 103)), (2, .int v2)]) hx hb dX11_layChain_118 rfl hl (by decide) rfl (fun ls hl => ?_)
        refine lv_iinc (lv' := [(2, .int (v2 - 1)), (1, .int x17), (0, .ref (zA g 103))]) (k := 2) (v := (v2 - 1)) hx hb dX11_layChain_119 hl rfl (zi_m1 _) (by decide) rfl (fun ls hl => ?_)
        refine lv_goto (tgt := 13) hx hb dX11_layChain_122 (by decide) ?_
        exact ih _ _ _  _ hr ls _ _ (lv_sub hl [2, 1, 0] rfl) I KF
      refine lv_icmp_le (tgt := 117) hx hb dX11_layChain_105 (by decide) (fun c19 => ?_) (fun c19 => ?_)
      · replace e_x17 := zif_t e_x17 c19
        refine lv_iload_n hx hb dX11_layChain_117 rfl (lv_at hl 1 rfl) ?_
        obtain rfl := Option.some.inj e_x17
        exact K_x17 ls _ _ (lv_sub hl [0, 2] rfl) I
      · replace e_x17 := zif_f e_x17 c19
        refine lv_aload_n hx hb dX11_layChain_108 rfl (lv_at hl 0 rfl) ?_
        refine zgetR (j := 113) M I zc_103 zfl_X11_37 dX11_layChain_109 rfl ?_
        refine lv_iload_n hx hb dX11_layChain_112 rfl (lv_at hl 2 rfl) ?_
        obtain ⟨x18, e_x18, e_x17⟩ := zb_some e_x17
        refine ziald M I zc_113 e_x18 dX11_layChain_113 ?_
        refine lv_goto (tgt := 118) hx hb dX11_layChain_114 (by decide) ?_
        obtain rfl := Option.some.inj e_x17
        exact K_x17 ls _ _ (lv_sub hl [0, 2] rfl) I
def l_X11_layChain_144 (fu : Nat) (a1 : Int32) (a2 : Int32) : Nat → Int32 → zmem → Option (zmem)
  | 0, _, _ => none
  | n + 1, v3, σ => (if a2 ≤ v3 then some σ else (m_X11_fit fu σ v3 a2).bind fun x23 => ((if x23 = 0 then (zrd σ 114 a2).bind fun x26 => some x26 else (zrd σ 114 v3).bind fun x27 => (zrd σ 114 a2).bind fun x28 => (if (x27 + (1 : Int32)) ≤ x28 then (zrd σ 114 a2).bind fun x29 => some x29 else (zrd σ 114 v3).bind fun x30 => some (x30 + (1 : Int32)))) : Option (Int32)).bind fun x24 => (zwr σ 114 a2 x24).bind fun s25 => l_X11_layChain_144 fu a1 a2 n (v3 + 1) s25)
set_option maxHeartbeats 4000000 in
set_option maxRecDepth 100000 in
theorem k_X11_layChain_144 {l : Launch} {g : zgeo} {fu : Nat} {p : Program} {e : Env} {s : State} {m : MethodId} {args : Array Value} {below : List Frame} {meth : Method} {c : Code} (M : zMC RX11 cX11_layChain 4 none g p m c s args meth) {a1 : Int32} {a2 : Int32} {Q : State → Prop} : ∀ (n : Nat) (v3 : Int32) (σ : zmem) (o : zmem), l_X11_layChain_144 fu a1 a2 n v3 σ = some o → ∀ (ls : Array Slot) (H : Heap) (locs : List Loc), lv_has ls 4 [(0, .ref (zA g 103)), (1, .int a1), (2, .int a2), (3, .int v3)] → zIV g σ (zAA g) s.heap H locs → (∀ (ls : Array Slot) (H : Heap) (locs : List Loc), lv_has ls 4 [(0, .ref (zA g 103)), (1, .int a1), (2, .int a2)] → zIV g o (zAA g) s.heap H locs → W p l e (zrm 4 98) s m args below meth c H locs 0 0 Q (F0 m 204 ls [])) → W p l e (zrm 4 98) s m args below meth c H locs 0 0 Q (F0 m 144 ls []) := by
  have hx := M.1.1
  have hb := M.1.2.1
  intro n
  induction n with
  | zero =>
    intro v3 σ o hr ls H locs hl I KF
    have hr : (none : Option (zmem)) = some o := hr
    cases hr
  | succ n ih =>
    intro v3 σ o hr ls H locs hl I KF
    rw [l_X11_layChain_144] at hr
    refine lv_iload_n hx hb dX11_layChain_144 rfl (lv_at hl 3 rfl) ?_
    refine lv_iload_n hx hb dX11_layChain_145 rfl (lv_at hl 2 rfl) ?_
    refine lv_icmp_ge (tgt := 204) hx hb dX11_layChain_146 (by decide) (fun c33 => ?_) (fun c33 => ?_)
    · replace hr := zif_t hr c33
      obtain rfl := Option.some.inj hr
      exact KF ls _ _ (lv_sub hl [0, 1, 2] rfl) I
    · replace hr := zif_f hr c33
      refine lv_aload_n hx hb dX11_layChain_149 rfl (lv_at hl 0 rfl) ?_
      refine zgetR (j := 114) M I zc_103 zfl_X11_40 dX11_layChain_150 rfl ?_
      refine lv_iload_n hx hb dX11_layChain_153 rfl (lv_at hl 2 rfl) ?_
      refine lv_aload_n hx hb dX11_layChain_154 rfl (lv_at hl 0 rfl) ?_
      refine lv_iload_n hx hb dX11_layChain_155 rfl (lv_at hl 3 rfl) ?_
      refine lv_iload_n hx hb dX11_layChain_156 rfl (lv_at hl 2 rfl) ?_
      obtain ⟨x23, e_x23, hr⟩ := zb_some hr
      refine zcallI M I (zrunV (as := [.int v3, .int a2]) M I (c_X11_fit l g fu e_x23) zc_103 zK11.1 (by decide) zlv_X11_110 ⟨Nat.le_of_ble_eq_true rfl, Nat.le_of_ble_eq_true rfl⟩ ⟨Nat.zero_le _, Nat.zero_le _⟩ rfl rfl (Nat.le_of_ble_eq_true rfl) hl.1 dX11_layChain_157) (fun H locs I => ?_)
      obtain ⟨x24, e_x24, hr⟩ := zb_some hr
      have K_x24 : ∀ (ls : Array Slot) (H : Heap) (locs : List Loc), lv_has ls 4 [(0, .ref (zA g 103)), (1, .int a1), (2, .int a2), (3, .int v3)] → zIV g σ (zAA g) s.heap H locs → W p l e (zrm 4 98) s m args below meth c H locs 0 0 Q (F0 m 197 ls [.int x24, .int a2, .ref (zA g 114)]) := by
        intro ls H locs hl I
        obtain ⟨s25, e_s25, hr⟩ := zb_some hr
        refine ziast M I zc_114 e_s25 dX11_layChain_197 (fun H locs I => ?_)
        refine lv_iinc (lv' := [(3, .int (v3 + 1)), (0, .ref (zA g 103)), (1, .int a1), (2, .int a2)]) (k := 3) (v := (v3 + 1)) hx hb dX11_layChain_198 hl rfl (zi_1 _) (by decide) rfl (fun ls hl => ?_)
        refine lv_goto (tgt := 144) hx hb dX11_layChain_201 (by decide) ?_
        exact ih _ _  _ hr ls _ _ (lv_sub hl [1, 2, 3, 0] rfl) I KF
      refine lv_if_eq (tgt := 191) hx hb dX11_layChain_160 (by decide) (fun c32 => ?_) (fun c32 => ?_)
      · replace e_x24 := zif_t e_x24 c32
        refine lv_aload_n hx hb dX11_layChain_191 rfl (lv_at hl 0 rfl) ?_
        refine zgetR (j := 114) M I zc_103 zfl_X11_40 dX11_layChain_192 rfl ?_
        refine lv_iload_n hx hb dX11_layChain_195 rfl (lv_at hl 2 rfl) ?_
        obtain ⟨x26, e_x26, e_x24⟩ := zb_some e_x24
        refine ziald M I zc_114 e_x26 dX11_layChain_196 ?_
        obtain rfl := Option.some.inj e_x24
        exact K_x24 ls _ _ hl I
      · replace e_x24 := zif_f e_x24 c32
        refine lv_aload_n hx hb dX11_layChain_163 rfl (lv_at hl 0 rfl) ?_
        refine zgetR (j := 114) M I zc_103 zfl_X11_40 dX11_layChain_164 rfl ?_
        refine lv_iload_n hx hb dX11_layChain_167 rfl (lv_at hl 3 rfl) ?_
        obtain ⟨x27, e_x27, e_x24⟩ := zb_some e_x24
        refine ziald M I zc_114 e_x27 dX11_layChain_168 ?_
        refine lv_iconst (v := (1 : Int32)) hx hb dX11_layChain_169 (by decide) ?_
        refine lv_iadd hx hb dX11_layChain_170 ?_
        refine lv_aload_n hx hb dX11_layChain_171 rfl (lv_at hl 0 rfl) ?_
        refine zgetR (j := 114) M I zc_103 zfl_X11_40 dX11_layChain_172 rfl ?_
        refine lv_iload_n hx hb dX11_layChain_175 rfl (lv_at hl 2 rfl) ?_
        obtain ⟨x28, e_x28, e_x24⟩ := zb_some e_x24
        refine ziald M I zc_114 e_x28 dX11_layChain_176 ?_
        refine lv_icmp_le (tgt := 191) hx hb dX11_layChain_177 (by decide) (fun c31 => ?_) (fun c31 => ?_)
        · replace e_x24 := zif_t e_x24 c31
          refine lv_aload_n hx hb dX11_layChain_191 rfl (lv_at hl 0 rfl) ?_
          refine zgetR (j := 114) M I zc_103 zfl_X11_40 dX11_layChain_192 rfl ?_
          refine lv_iload_n hx hb dX11_layChain_195 rfl (lv_at hl 2 rfl) ?_
          obtain ⟨x29, e_x29, e_x24⟩ := zb_some e_x24
          refine ziald M I zc_114 e_x29 dX11_layChain_196 ?_
          obtain rfl := Option.some.inj e_x24
          exact K_x24 ls _ _ hl I
        · replace e_x24 := zif_f e_x24 c31
          refine lv_aload_n hx hb dX11_layChain_180 rfl (lv_at hl 0 rfl) ?_
          refine zgetR (j := 114) M I zc_103 zfl_X11_40 dX11_layChain_181 rfl ?_
          refine lv_iload_n hx hb dX11_layChain_184 rfl (lv_at hl 3 rfl) ?_
          obtain ⟨x30, e_x30, e_x24⟩ := zb_some e_x24
          refine ziald M I zc_114 e_x30 dX11_layChain_185 ?_
          refine lv_iconst (v := (1 : Int32)) hx hb dX11_layChain_186 (by decide) ?_
          refine lv_iadd hx hb dX11_layChain_187 ?_
          refine lv_goto (tgt := 197) hx hb dX11_layChain_188 (by decide) ?_
          obtain rfl := Option.some.inj e_x24
          exact K_x24 ls _ _ hl I
def l_X11_layChain_127 (fu : Nat) (a1 : Int32) : Nat → Int32 → zmem → Option (zmem)
  | 0, _, _ => none
  | n + 1, v2, σ => (if (σ.1 103 10) ≤ v2 then some σ else (zwr σ 114 v2 (1 : Int32)).bind fun s22 => (l_X11_layChain_144 fu a1 v2 fu (0 : Int32) s22).bind fun x34 => l_X11_layChain_127 fu a1 n (v2 + 1) x34)
set_option maxHeartbeats 4000000 in
set_option maxRecDepth 100000 in
theorem k_X11_layChain_127 {l : Launch} {g : zgeo} {fu : Nat} {p : Program} {e : Env} {s : State} {m : MethodId} {args : Array Value} {below : List Frame} {meth : Method} {c : Code} (M : zMC RX11 cX11_layChain 4 none g p m c s args meth) {a1 : Int32} {Q : State → Prop} : ∀ (n : Nat) (v2 : Int32) (σ : zmem) (o : zmem), l_X11_layChain_127 fu a1 n v2 σ = some o → ∀ (ls : Array Slot) (H : Heap) (locs : List Loc), lv_has ls 4 [(0, .ref (zA g 103)), (1, .int a1), (2, .int v2)] → zIV g σ (zAA g) s.heap H locs → (∀ (ls : Array Slot) (H : Heap) (locs : List Loc), lv_has ls 4 [(0, .ref (zA g 103)), (1, .int a1)] → zIV g o (zAA g) s.heap H locs → W p l e (zrm 4 98) s m args below meth c H locs 0 0 Q (F0 m 210 ls [])) → W p l e (zrm 4 98) s m args below meth c H locs 0 0 Q (F0 m 127 ls []) := by
  have hx := M.1.1
  have hb := M.1.2.1
  intro n
  induction n with
  | zero =>
    intro v2 σ o hr ls H locs hl I KF
    have hr : (none : Option (zmem)) = some o := hr
    cases hr
  | succ n ih =>
    intro v2 σ o hr ls H locs hl I KF
    rw [l_X11_layChain_127] at hr
    refine lv_iload_n hx hb dX11_layChain_127 rfl (lv_at hl 2 rfl) ?_
    refine lv_aload_n hx hb dX11_layChain_128 rfl (lv_at hl 0 rfl) ?_
    refine zgetI M I zc_103 zfl_X11_97 dX11_layChain_129 ?_
    refine lv_icmp_ge (tgt := 210) hx hb dX11_layChain_132 (by decide) (fun c35 => ?_) (fun c35 => ?_)
    · replace hr := zif_t hr c35
      obtain rfl := Option.some.inj hr
      exact KF ls _ _ (lv_sub hl [0, 1] rfl) I
    · replace hr := zif_f hr c35
      refine lv_aload_n hx hb dX11_layChain_135 rfl (lv_at hl 0 rfl) ?_
      refine zgetR (j := 114) M I zc_103 zfl_X11_40 dX11_layChain_136 rfl ?_
      refine lv_iload_n hx hb dX11_layChain_139 rfl (lv_at hl 2 rfl) ?_
      refine lv_iconst (v := (1 : Int32)) hx hb dX11_layChain_140 (by decide) ?_
      obtain ⟨s22, e_s22, hr⟩ := zb_some hr
      refine ziast M I zc_114 e_s22 dX11_layChain_141 (fun H locs I => ?_)
      refine lv_iconst (v := (0 : Int32)) hx hb dX11_layChain_142 (by decide) ?_
      refine lv_istore_n (lv' := [(3, .int (0 : Int32)), (0, .ref (zA g 103)), (1, .int a1), (2, .int v2)]) hx hb dX11_layChain_143 rfl hl (by decide) rfl (fun ls hl => ?_)
      obtain ⟨x34, e_x34, hr⟩ := zb_some hr
      refine k_X11_layChain_144 M  fu _ _  _ e_x34 ls _ _ (lv_sub hl [1, 2, 3, 0] rfl) I (fun ls H locs hl I => ?_)
      refine lv_iinc (lv' := [(2, .int (v2 + 1)), (0, .ref (zA g 103)), (1, .int a1)]) (k := 2) (v := (v2 + 1)) hx hb dX11_layChain_204 hl rfl (zi_1 _) (by decide) rfl (fun ls hl => ?_)
      refine lv_goto (tgt := 127) hx hb dX11_layChain_207 (by decide) ?_
      exact ih _ _  _ hr ls _ _ (lv_sub hl [1, 2, 0] rfl) I KF
def l_X11_layChain_217 (fu : Nat) (a1 : Int32) : Nat → Int32 → zmem → Option (zmem)
  | 0, _, _ => none
  | n + 1, v2, σ => (if (σ.1 103 10) ≤ v2 then some σ else (zrd σ 113 v2).bind fun x37 => ((if ¬ x37 = (a1 - (σ.1 103 18)) then some (0 : Int32) else (if (σ.1 103 18) = 0 then some (1 : Int32) else (zrd σ 116 ((σ.1 103 18) - (1 : Int32))).bind fun x43 => (m_X11_fit fu σ x43 v2).bind fun x44 => (if x44 = 0 then some (0 : Int32) else some (1 : Int32)))) : Option (Int32)).bind fun x38 => ((if x38 = 0 then some σ else (zwr σ 116 (σ.1 103 18) v2).bind fun s40 => (zwr s40 115 v2 (s40.1 103 18)).bind fun s41 => some (zst s41 103 18 ((s41.1 103 18) + (1 : Int32)))) : Option (zmem)).bind fun x39 => l_X11_layChain_217 fu a1 n (v2 + 1) x39)
set_option maxHeartbeats 4000000 in
set_option maxRecDepth 100000 in
theorem k_X11_layChain_217 {l : Launch} {g : zgeo} {fu : Nat} {p : Program} {e : Env} {s : State} {m : MethodId} {args : Array Value} {below : List Frame} {meth : Method} {c : Code} (M : zMC RX11 cX11_layChain 4 none g p m c s args meth) {a1 : Int32} {Q : State → Prop} : ∀ (n : Nat) (v2 : Int32) (σ : zmem) (o : zmem), l_X11_layChain_217 fu a1 n v2 σ = some o → ∀ (ls : Array Slot) (H : Heap) (locs : List Loc), lv_has ls 4 [(0, .ref (zA g 103)), (1, .int a1), (2, .int v2)] → zIV g σ (zAA g) s.heap H locs → (∀ (ls : Array Slot) (H : Heap) (locs : List Loc), lv_has ls 4 [] → zIV g o (zAA g) s.heap H locs → W p l e (zrm 4 98) s m args below meth c H locs 0 0 Q (F0 m 312 ls [])) → W p l e (zrm 4 98) s m args below meth c H locs 0 0 Q (F0 m 217 ls []) := by
  have hx := M.1.1
  have hb := M.1.2.1
  intro n
  induction n with
  | zero =>
    intro v2 σ o hr ls H locs hl I KF
    have hr : (none : Option (zmem)) = some o := hr
    cases hr
  | succ n ih =>
    intro v2 σ o hr ls H locs hl I KF
    rw [l_X11_layChain_217] at hr
    refine lv_iload_n hx hb dX11_layChain_217 rfl (lv_at hl 2 rfl) ?_
    refine lv_aload_n hx hb dX11_layChain_218 rfl (lv_at hl 0 rfl) ?_
    refine zgetI M I zc_103 zfl_X11_97 dX11_layChain_219 ?_
    refine lv_icmp_ge (tgt := 312) hx hb dX11_layChain_222 (by decide) (fun c48 => ?_) (fun c48 => ?_)
    · replace hr := zif_t hr c48
      obtain rfl := Option.some.inj hr
      exact KF ls _ _ (lv_sub hl [] rfl) I
    · replace hr := zif_f hr c48
      refine lv_aload_n hx hb dX11_layChain_225 rfl (lv_at hl 0 rfl) ?_
      refine zgetR (j := 113) M I zc_103 zfl_X11_37 dX11_layChain_226 rfl ?_
      refine lv_iload_n hx hb dX11_layChain_229 rfl (lv_at hl 2 rfl) ?_
      obtain ⟨x37, e_x37, hr⟩ := zb_some hr
      refine ziald M I zc_113 e_x37 dX11_layChain_230 ?_
      refine lv_iload_n hx hb dX11_layChain_231 rfl (lv_at hl 1 rfl) ?_
      refine lv_aload_n hx hb dX11_layChain_232 rfl (lv_at hl 0 rfl) ?_
      refine zgetI M I zc_103 zfl_X11_114 dX11_layChain_233 ?_
      refine lv_isub hx hb dX11_layChain_236 ?_
      obtain ⟨x38, e_x38, hr⟩ := zb_some hr
      have K_x38 : ∀ (ls : Array Slot) (H : Heap) (locs : List Loc), lv_has ls 4 [(0, .ref (zA g 103)), (1, .int a1), (2, .int v2)] → zIV g σ (zAA g) s.heap H locs → W p l e (zrm 4 98) s m args below meth c H locs 0 0 Q (F0 m 271 ls [.int x38]) := by
        intro ls H locs hl I
        refine lv_istore_n (lv' := [(3, .int x38), (0, .ref (zA g 103)), (1, .int a1), (2, .int v2)]) hx hb dX11_layChain_271 rfl hl (by decide) rfl (fun ls hl => ?_)
        refine lv_iload_n hx hb dX11_layChain_272 rfl (lv_at hl 0 rfl) ?_
        obtain ⟨x39, e_x39, hr⟩ := zb_some hr
        have K_x39 : ∀ (ls : Array Slot) (H : Heap) (locs : List Loc), lv_has ls 4 [(0, .ref (zA g 103)), (1, .int a1), (2, .int v2)] → zIV g x39 (zAA g) s.heap H locs → W p l e (zrm 4 98) s m args below meth c H locs 0 0 Q (F0 m 306 ls []) := by
          intro ls H locs hl I
          refine lv_iinc (lv' := [(2, .int (v2 + 1)), (0, .ref (zA g 103)), (1, .int a1)]) (k := 2) (v := (v2 + 1)) hx hb dX11_layChain_306 hl rfl (zi_1 _) (by decide) rfl (fun ls hl => ?_)
          refine lv_goto (tgt := 217) hx hb dX11_layChain_309 (by decide) ?_
          exact ih _ _  _ hr ls _ _ (lv_sub hl [1, 2, 0] rfl) I KF
        refine lv_if_eq (tgt := 306) hx hb dX11_layChain_273 (by decide) (fun c42 => ?_) (fun c42 => ?_)
        · replace e_x39 := zif_t e_x39 c42
          obtain rfl := Option.some.inj e_x39
          exact K_x39 ls _ _ (lv_sub hl [1, 2, 3] rfl) I
        · replace e_x39 := zif_f e_x39 c42
          refine lv_aload_n hx hb dX11_layChain_276 rfl (lv_at hl 1 rfl) ?_
          refine zgetR (j := 116) M I zc_103 zfl_X11_46 dX11_layChain_277 rfl ?_
          refine lv_aload_n hx hb dX11_layChain_280 rfl (lv_at hl 1 rfl) ?_
          refine zgetI M I zc_103 zfl_X11_114 dX11_layChain_281 ?_
          refine lv_iload_n hx hb dX11_layChain_284 rfl (lv_at hl 3 rfl) ?_
          obtain ⟨s40, e_s40, e_x39⟩ := zb_some e_x39
          refine ziast M I zc_116 e_s40 dX11_layChain_285 (fun H locs I => ?_)
          refine lv_aload_n hx hb dX11_layChain_286 rfl (lv_at hl 1 rfl) ?_
          refine zgetR (j := 115) M I zc_103 zfl_X11_43 dX11_layChain_287 rfl ?_
          refine lv_iload_n hx hb dX11_layChain_290 rfl (lv_at hl 3 rfl) ?_
          refine lv_aload_n hx hb dX11_layChain_291 rfl (lv_at hl 1 rfl) ?_
          refine zgetI M I zc_103 zfl_X11_114 dX11_layChain_292 ?_
          obtain ⟨s41, e_s41, e_x39⟩ := zb_some e_x39
          refine ziast M I zc_115 e_s41 dX11_layChain_295 (fun H locs I => ?_)
          refine lv_aload_n hx hb dX11_layChain_296 rfl (lv_at hl 1 rfl) ?_
          refine lv_dup hx hb dX11_layChain_297 rfl ?_
          refine zgetI M I zc_103 zfl_X11_114 dX11_layChain_298 ?_
          refine lv_iconst (v := (1 : Int32)) hx hb dX11_layChain_301 (by decide) ?_
          refine lv_iadd hx hb dX11_layChain_302 ?_
          refine zputI M I zc_103 zfw_X11_114 dX11_layChain_303 (fun H locs I => ?_)
          obtain rfl := Option.some.inj e_x39
          exact K_x39 ls _ _ (lv_sub hl [1, 2, 3] rfl) I
      refine lv_icmp_ne (tgt := 270) hx hb dX11_layChain_237 (by decide) (fun c47 => ?_) (fun c47 => ?_)
      · replace e_x38 := zif_t e_x38 c47
        refine lv_iconst (v := (0 : Int32)) hx hb dX11_layChain_270 (by decide) ?_
        obtain rfl := Option.some.inj e_x38
        exact K_x38 ls _ _ hl I
      · replace e_x38 := zif_f e_x38 (fun hq => hq c47)
        refine lv_aload_n hx hb dX11_layChain_240 rfl (lv_at hl 0 rfl) ?_
        refine zgetI M I zc_103 zfl_X11_114 dX11_layChain_241 ?_
        refine lv_if_eq (tgt := 266) hx hb dX11_layChain_244 (by decide) (fun c46 => ?_) (fun c46 => ?_)
        · replace e_x38 := zif_t e_x38 c46
          refine lv_iconst (v := (1 : Int32)) hx hb dX11_layChain_266 (by decide) ?_
          refine lv_goto (tgt := 271) hx hb dX11_layChain_267 (by decide) ?_
          obtain rfl := Option.some.inj e_x38
          exact K_x38 ls _ _ hl I
        · replace e_x38 := zif_f e_x38 c46
          refine lv_aload_n hx hb dX11_layChain_247 rfl (lv_at hl 0 rfl) ?_
          refine lv_aload_n hx hb dX11_layChain_248 rfl (lv_at hl 0 rfl) ?_
          refine zgetR (j := 116) M I zc_103 zfl_X11_46 dX11_layChain_249 rfl ?_
          refine lv_aload_n hx hb dX11_layChain_252 rfl (lv_at hl 0 rfl) ?_
          refine zgetI M I zc_103 zfl_X11_114 dX11_layChain_253 ?_
          refine lv_iconst (v := (1 : Int32)) hx hb dX11_layChain_256 (by decide) ?_
          refine lv_isub hx hb dX11_layChain_257 ?_
          obtain ⟨x43, e_x43, e_x38⟩ := zb_some e_x38
          refine ziald M I zc_116 e_x43 dX11_layChain_258 ?_
          refine lv_iload_n hx hb dX11_layChain_259 rfl (lv_at hl 2 rfl) ?_
          obtain ⟨x44, e_x44, e_x38⟩ := zb_some e_x38
          refine zcallI M I (zrunV (as := [.int x43, .int v2]) M I (c_X11_fit l g fu e_x44) zc_103 zK11.1 (by decide) zlv_X11_110 ⟨Nat.le_of_ble_eq_true rfl, Nat.le_of_ble_eq_true rfl⟩ ⟨Nat.zero_le _, Nat.zero_le _⟩ rfl rfl (Nat.le_of_ble_eq_true rfl) hl.1 dX11_layChain_260) (fun H locs I => ?_)
          refine lv_if_eq (tgt := 270) hx hb dX11_layChain_263 (by decide) (fun c45 => ?_) (fun c45 => ?_)
          · replace e_x38 := zif_t e_x38 c45
            refine lv_iconst (v := (0 : Int32)) hx hb dX11_layChain_270 (by decide) ?_
            obtain rfl := Option.some.inj e_x38
            exact K_x38 ls _ _ hl I
          · replace e_x38 := zif_f e_x38 c45
            refine lv_iconst (v := (1 : Int32)) hx hb dX11_layChain_266 (by decide) ?_
            refine lv_goto (tgt := 271) hx hb dX11_layChain_267 (by decide) ?_
            obtain rfl := Option.some.inj e_x38
            exact K_x38 ls _ _ hl I
def m_X11_layChain (fu : Nat) (σ : zmem) : Option (zmem) := (m_X11_layAnchors fu σ).bind fun x1 => (l_X11_layChain_13 fu fu (0 : Int32) ((x1.1 103 10) - (1 : Int32)) x1).bind fun x21 => (l_X11_layChain_127 fu x21.1 fu (0 : Int32) x21.2).bind fun x36 => (l_X11_layChain_217 fu x21.1 fu (0 : Int32) (zst x36 103 18 (0 : Int32))).bind fun x49 => some x49
set_option maxHeartbeats 4000000 in
set_option maxRecDepth 100000 in
theorem c_X11_layChain (l : Launch) (g : zgeo) (fu : Nat) {σ : zmem} {r : zmem} (hr : m_X11_layChain fu σ = some r) : zCt (zQV g r) l g yX11_layChain cX11_layChain 4 none 4 98 [.ref (zA g 103)] σ := by
  refine zopen (by decide) (Nat.le_of_ble_eq_true rfl) ?_
  intro p e s m below meth c M ls hl I
  have M : zMC RX11 cX11_layChain 4 none g p m c s ([.ref (zA g 103)] : List Value).toArray meth := M
  have hl : lv_has ls 4 [(0, .ref (zA g 103))] := hl
  generalize ([.ref (zA g 103)] : List Value).toArray = args at M ⊢
  have hx := M.1.1
  have hb := M.1.2.1
  unfold m_X11_layChain at hr
  refine lv_aload_n hx hb dX11_layChain_0 rfl (lv_at hl 0 rfl) ?_
  obtain ⟨x1, e_x1, hr⟩ := zb_some hr
  refine zcallU M I (zrunV (as := []) M I (c_X11_layAnchors l g fu e_x1) zc_103 zK11.1 (by decide) zlv_X11_107 ⟨Nat.le_of_ble_eq_true rfl, Nat.le_of_ble_eq_true rfl⟩ ⟨Nat.zero_le _, Nat.zero_le _⟩ rfl rfl (Nat.le_of_ble_eq_true rfl) hl.1 dX11_layChain_1) (fun H locs I => ?_)
  refine lv_iconst (v := (0 : Int32)) hx hb dX11_layChain_4 (by decide) ?_
  refine lv_istore_n (lv' := [(1, .int (0 : Int32)), (0, .ref (zA g 103))]) hx hb dX11_layChain_5 rfl hl (by decide) rfl (fun ls hl => ?_)
  refine lv_aload_n hx hb dX11_layChain_6 rfl (lv_at hl 1 rfl) ?_
  refine zgetI M I zc_103 zfl_X11_97 dX11_layChain_7 ?_
  refine lv_iconst (v := (1 : Int32)) hx hb dX11_layChain_10 (by decide) ?_
  refine lv_isub hx hb dX11_layChain_11 ?_
  refine lv_istore_n (lv' := [(2, .int ((x1.1 103 10) - (1 : Int32))), (1, .int (0 : Int32)), (0, .ref (zA g 103))]) hx hb dX11_layChain_12 rfl hl (by decide) rfl (fun ls hl => ?_)
  obtain ⟨x21, e_x21, hr⟩ := zb_some hr
  refine k_X11_layChain_13 M  fu _ _ _  _ e_x21 ls _ _ (lv_sub hl [2, 1, 0] rfl) I (fun ls H locs hl I => ?_)
  refine lv_iconst (v := (0 : Int32)) hx hb dX11_layChain_125 (by decide) ?_
  refine lv_istore_n (lv' := [(2, .int (0 : Int32)), (0, .ref (zA g 103)), (1, .int x21.1)]) hx hb dX11_layChain_126 rfl hl (by decide) rfl (fun ls hl => ?_)
  obtain ⟨x36, e_x36, hr⟩ := zb_some hr
  refine k_X11_layChain_127 M  fu _ _  _ e_x36 ls _ _ (lv_sub hl [1, 2, 0] rfl) I (fun ls H locs hl I => ?_)
  refine lv_aload_n hx hb dX11_layChain_210 rfl (lv_at hl 0 rfl) ?_
  refine lv_iconst (v := (0 : Int32)) hx hb dX11_layChain_211 (by decide) ?_
  refine zputI M I zc_103 zfw_X11_114 dX11_layChain_212 (fun H locs I => ?_)
  refine lv_iconst (v := (0 : Int32)) hx hb dX11_layChain_215 (by decide) ?_
  refine lv_istore_n (lv' := [(2, .int (0 : Int32)), (0, .ref (zA g 103)), (1, .int x21.1)]) hx hb dX11_layChain_216 rfl hl (by decide) rfl (fun ls hl => ?_)
  obtain ⟨x49, e_x49, hr⟩ := zb_some hr
  refine k_X11_layChain_217 M  fu _ _  _ e_x49 ls _ _ (lv_sub hl [1, 2, 0] rfl) I (fun ls H locs hl I => ?_)
  obtain rfl := Option.some.inj hr
  exact zretV M I dX11_layChain_312
def l_X11_layLeast_12 (fu : Nat) (a1 : Int32) (a2 : Int32) (a3 : Int32) (a4 : Int32) (a5 : Int32) (a6 : Int32) : Nat → Int32 → zmem → Option (zmem)
  | 0, _, _ => none
  | n + 1, v7, σ => (if a4 < v7 then some σ else ((if ¬ a6 = 0 then some (1000000 : Int32) else (if ¬ v7 = 0 then some (1000000 : Int32) else some (0 : Int32))) : Option (Int32)).bind fun x1 => ((if a6 ≤ 0 then some x1 else (if v7 ≤ 0 then some x1 else (m_X11_at fu σ (0 : Int32) ((a1 + a6) - (1 : Int32))).bind fun x20 => (m_X11_at fu σ (1 : Int32) ((a3 + v7) - (1 : Int32))).bind fun x21 => ((if ¬ x20 = x21 then (zrd σ 104 (1 : Int32)).bind fun x24 => some x24 else some (0 : Int32)) : Option (Int32)).bind fun x22 => (zrd σ 121 ((((25 : Int32) * a6) + v7) - (26 : Int32))).bind fun x23 => some (x23 + x22))) : Option (Int32)).bind fun x2 => ((if a6 ≤ 0 then some (1000000 : Int32) else (zrd σ 121 ((((25 : Int32) * a6) + v7) - (25 : Int32))).bind fun x17 => (zrd σ 104 (2 : Int32)).bind fun x18 => some (x17 + x18)) : Option (Int32)).bind fun x3 => ((if v7 ≤ 0 then some (1000000 : Int32) else (zrd σ 121 ((((25 : Int32) * a6) + v7) - (1 : Int32))).bind fun x14 => (zrd σ 104 (2 : Int32)).bind fun x15 => some (x14 + x15)) : Option (Int32)).bind fun x4 => ((if x2 ≤ x3 then some x2 else some x3) : Option (Int32)).bind fun x5 => ((if x5 ≤ x4 then some x5 else some x4) : Option (Int32)).bind fun x6 => ((if a6 ≤ v7 then some (v7 - a6) else some (a6 - v7)) : Option (Int32)).bind fun x7 => ((if x7 ≤ a5 then some x6 else some (1000000 : Int32)) : Option (Int32)).bind fun x8 => (zwr σ 121 (((25 : Int32) * a6) + v7) x8).bind fun s9 => l_X11_layLeast_12 fu a1 a2 a3 a4 a5 a6 n (v7 + 1) s9)
set_option maxHeartbeats 4000000 in
set_option maxRecDepth 100000 in
theorem k_X11_layLeast_12 {l : Launch} {g : zgeo} {fu : Nat} {p : Program} {e : Env} {s : State} {m : MethodId} {args : Array Value} {below : List Frame} {meth : Method} {c : Code} (M : zMC RX11 cX11_layLeast 12 none g p m c s args meth) {a1 : Int32} {a2 : Int32} {a3 : Int32} {a4 : Int32} {a5 : Int32} {a6 : Int32} {Q : State → Prop} : ∀ (n : Nat) (v7 : Int32) (σ : zmem) (o : zmem), l_X11_layLeast_12 fu a1 a2 a3 a4 a5 a6 n v7 σ = some o → ∀ (ls : Array Slot) (H : Heap) (locs : List Loc), lv_has ls 12 [(0, .ref (zA g 103)), (1, .int a1), (2, .int a2), (3, .int a3), (4, .int a4), (5, .int a5), (6, .int a6), (7, .int v7)] → zIV g σ (zAA g) s.heap H locs → (∀ (ls : Array Slot) (H : Heap) (locs : List Loc), lv_has ls 12 [(0, .ref (zA g 103)), (1, .int a1), (2, .int a2), (3, .int a3), (4, .int a4), (5, .int a5), (6, .int a6)] → zIV g o (zAA g) s.heap H locs → W p l e (zrm 1 22) s m args below meth c H locs 0 0 Q (F0 m 261 ls [])) → W p l e (zrm 1 22) s m args below meth c H locs 0 0 Q (F0 m 12 ls []) := by
  have hx := M.1.1
  have hb := M.1.2.1
  intro n
  induction n with
  | zero =>
    intro v7 σ o hr ls H locs hl I KF
    have hr : (none : Option (zmem)) = some o := hr
    cases hr
  | succ n ih =>
    intro v7 σ o hr ls H locs hl I KF
    rw [l_X11_layLeast_12] at hr
    refine lv_iload hx hb dX11_layLeast_12 (lv_at hl 7 rfl) ?_
    refine lv_iload hx hb dX11_layLeast_14 (lv_at hl 4 rfl) ?_
    refine lv_icmp_gt (tgt := 261) hx hb dX11_layLeast_16 (by decide) (fun c30 => ?_) (fun c30 => ?_)
    · replace hr := zif_t hr c30
      obtain rfl := Option.some.inj hr
      exact KF ls _ _ (lv_sub hl [0, 1, 2, 3, 4, 5, 6] rfl) I
    · replace hr := zif_f hr c30
      refine lv_iload hx hb dX11_layLeast_19 (lv_at hl 6 rfl) ?_
      obtain ⟨x1, e_x1, hr⟩ := zb_some hr
      have K_x1 : ∀ (ls : Array Slot) (H : Heap) (locs : List Loc), lv_has ls 12 [(0, .ref (zA g 103)), (1, .int a1), (2, .int a2), (3, .int a3), (4, .int a4), (5, .int a5), (6, .int a6), (7, .int v7)] → zIV g σ (zAA g) s.heap H locs → W p l e (zrm 1 22) s m args below meth c H locs 0 0 Q (F0 m 35 ls [.int x1]) := by
        intro ls H locs hl I
        refine lv_istore (lv' := [(8, .int x1), (0, .ref (zA g 103)), (1, .int a1), (2, .int a2), (3, .int a3), (4, .int a4), (5, .int a5), (6, .int a6), (7, .int v7)]) hx hb dX11_layLeast_35 hl (by decide) rfl (fun ls hl => ?_)
        refine lv_iload hx hb dX11_layLeast_37 (lv_at hl 7 rfl) ?_
        obtain ⟨x2, e_x2, hr⟩ := zb_some hr
        have K_x2 : ∀ (ls : Array Slot) (H : Heap) (locs : List Loc), lv_has ls 12 [(0, .ref (zA g 103)), (1, .int a1), (2, .int a2), (3, .int a3), (4, .int a4), (5, .int a5), (6, .int a6), (7, .int v7), (8, .int x2)] → zIV g σ (zAA g) s.heap H locs → W p l e (zrm 1 22) s m args below meth c H locs 0 0 Q (F0 m 105 ls []) := by
          intro ls H locs hl I
          refine lv_iload hx hb dX11_layLeast_105 (lv_at hl 6 rfl) ?_
          obtain ⟨x3, e_x3, hr⟩ := zb_some hr
          have K_x3 : ∀ (ls : Array Slot) (H : Heap) (locs : List Loc), lv_has ls 12 [(0, .ref (zA g 103)), (1, .int a1), (2, .int a2), (3, .int a3), (4, .int a4), (5, .int a5), (6, .int a6), (7, .int v7), (8, .int x2)] → zIV g σ (zAA g) s.heap H locs → W p l e (zrm 1 22) s m args below meth c H locs 0 0 Q (F0 m 138 ls [.int x3]) := by
            intro ls H locs hl I
            refine lv_istore (lv' := [(9, .int x3), (0, .ref (zA g 103)), (1, .int a1), (2, .int a2), (3, .int a3), (4, .int a4), (5, .int a5), (6, .int a6), (7, .int v7), (8, .int x2)]) hx hb dX11_layLeast_138 hl (by decide) rfl (fun ls hl => ?_)
            refine lv_iload hx hb dX11_layLeast_140 (lv_at hl 8 rfl) ?_
            obtain ⟨x4, e_x4, hr⟩ := zb_some hr
            have K_x4 : ∀ (ls : Array Slot) (H : Heap) (locs : List Loc), lv_has ls 12 [(0, .ref (zA g 103)), (1, .int a1), (2, .int a2), (3, .int a3), (4, .int a4), (5, .int a5), (6, .int a6), (7, .int v7), (8, .int x2), (9, .int x3)] → zIV g σ (zAA g) s.heap H locs → W p l e (zrm 1 22) s m args below meth c H locs 0 0 Q (F0 m 172 ls [.int x4]) := by
              intro ls H locs hl I
              refine lv_istore (lv' := [(10, .int x4), (0, .ref (zA g 103)), (1, .int a1), (2, .int a2), (3, .int a3), (4, .int a4), (5, .int a5), (6, .int a6), (7, .int v7), (8, .int x2), (9, .int x3)]) hx hb dX11_layLeast_172 hl (by decide) rfl (fun ls hl => ?_)
              refine lv_iload hx hb dX11_layLeast_174 (lv_at hl 10 rfl) ?_
              refine lv_iload hx hb dX11_layLeast_176 (lv_at hl 9 rfl) ?_
              obtain ⟨x5, e_x5, hr⟩ := zb_some hr
              have K_x5 : ∀ (ls : Array Slot) (H : Heap) (locs : List Loc), lv_has ls 12 [(0, .ref (zA g 103)), (1, .int a1), (2, .int a2), (3, .int a3), (4, .int a4), (5, .int a5), (6, .int a6), (7, .int v7), (10, .int x4)] → zIV g σ (zAA g) s.heap H locs → W p l e (zrm 1 22) s m args below meth c H locs 0 0 Q (F0 m 188 ls [.int x5]) := by
                intro ls H locs hl I
                refine lv_istore (lv' := [(8, .int x5), (0, .ref (zA g 103)), (1, .int a1), (2, .int a2), (3, .int a3), (4, .int a4), (5, .int a5), (6, .int a6), (7, .int v7), (10, .int x4)]) hx hb dX11_layLeast_188 hl (by decide) rfl (fun ls hl => ?_)
                refine lv_iload hx hb dX11_layLeast_190 (lv_at hl 9 rfl) ?_
                refine lv_iload hx hb dX11_layLeast_192 (lv_at hl 0 rfl) ?_
                obtain ⟨x6, e_x6, hr⟩ := zb_some hr
                have K_x6 : ∀ (ls : Array Slot) (H : Heap) (locs : List Loc), lv_has ls 12 [(0, .ref (zA g 103)), (1, .int a1), (2, .int a2), (3, .int a3), (4, .int a4), (5, .int a5), (6, .int a6), (7, .int v7)] → zIV g σ (zAA g) s.heap H locs → W p l e (zrm 1 22) s m args below meth c H locs 0 0 Q (F0 m 204 ls [.int x6]) := by
                  intro ls H locs hl I
                  refine lv_istore (lv' := [(8, .int x6), (0, .ref (zA g 103)), (1, .int a1), (2, .int a2), (3, .int a3), (4, .int a4), (5, .int a5), (6, .int a6), (7, .int v7)]) hx hb dX11_layLeast_204 hl (by decide) rfl (fun ls hl => ?_)
                  refine lv_iload hx hb dX11_layLeast_206 (lv_at hl 7 rfl) ?_
                  refine lv_iload hx hb dX11_layLeast_208 (lv_at hl 8 rfl) ?_
                  obtain ⟨x7, e_x7, hr⟩ := zb_some hr
                  have K_x7 : ∀ (ls : Array Slot) (H : Heap) (locs : List Loc), lv_has ls 12 [(0, .ref (zA g 103)), (1, .int a1), (2, .int a2), (3, .int a3), (4, .int a4), (5, .int a5), (6, .int a6), (7, .int v7), (8, .int x6)] → zIV g σ (zAA g) s.heap H locs → W p l e (zrm 1 22) s m args below meth c H locs 0 0 Q (F0 m 226 ls [.int x7]) := by
                    intro ls H locs hl I
                    refine lv_istore (lv' := [(11, .int x7), (0, .ref (zA g 103)), (1, .int a1), (2, .int a2), (3, .int a3), (4, .int a4), (5, .int a5), (6, .int a6), (7, .int v7), (8, .int x6)]) hx hb dX11_layLeast_226 hl (by decide) rfl (fun ls hl => ?_)
                    refine lv_aload_n hx hb dX11_layLeast_228 rfl (lv_at hl 1 rfl) ?_
                    refine zgetR (j := 121) M I zc_103 zfl_X11_61 dX11_layLeast_229 rfl ?_
                    refine lv_bipush (v := (25 : Int32)) hx hb dX11_layLeast_232 (by decide) ?_
                    refine lv_iload hx hb dX11_layLeast_234 (lv_at hl 7 rfl) ?_
                    refine lv_imul hx hb dX11_layLeast_236 ?_
                    refine lv_iload hx hb dX11_layLeast_237 (lv_at hl 8 rfl) ?_
                    refine lv_iadd hx hb dX11_layLeast_239 ?_
                    refine lv_iload hx hb dX11_layLeast_240 (lv_at hl 0 rfl) ?_
                    refine lv_iload hx hb dX11_layLeast_242 (lv_at hl 6 rfl) ?_
                    obtain ⟨x8, e_x8, hr⟩ := zb_some hr
                    have K_x8 : ∀ (ls : Array Slot) (H : Heap) (locs : List Loc), lv_has ls 12 [(0, .ref (zA g 103)), (1, .int a1), (2, .int a2), (3, .int a3), (4, .int a4), (5, .int a5), (6, .int a6), (7, .int v7)] → zIV g σ (zAA g) s.heap H locs → W p l e (zrm 1 22) s m args below meth c H locs 0 0 Q (F0 m 254 ls [.int x8, .int (((25 : Int32) * a6) + v7), .ref (zA g 121)]) := by
                      intro ls H locs hl I
                      obtain ⟨s9, e_s9, hr⟩ := zb_some hr
                      refine ziast M I zc_121 e_s9 dX11_layLeast_254 (fun H locs I => ?_)
                      refine lv_iinc (lv' := [(7, .int (v7 + 1)), (0, .ref (zA g 103)), (1, .int a1), (2, .int a2), (3, .int a3), (4, .int a4), (5, .int a5), (6, .int a6)]) (k := 7) (v := (v7 + 1)) hx hb dX11_layLeast_255 hl rfl (zi_1 _) (by decide) rfl (fun ls hl => ?_)
                      refine lv_goto (tgt := 12) hx hb dX11_layLeast_258 (by decide) ?_
                      exact ih _ _  _ hr ls _ _ (lv_sub hl [1, 2, 3, 4, 5, 6, 7, 0] rfl) I KF
                    refine lv_icmp_le (tgt := 252) hx hb dX11_layLeast_244 (by decide) (fun c10 => ?_) (fun c10 => ?_)
                    · replace e_x8 := zif_t e_x8 c10
                      refine lv_iload hx hb dX11_layLeast_252 (lv_at hl 9 rfl) ?_
                      obtain rfl := Option.some.inj e_x8
                      exact K_x8 ls _ _ (lv_sub hl [1, 2, 3, 4, 5, 6, 7, 8] rfl) I
                    · replace e_x8 := zif_f e_x8 c10
                      refine lv_ldc (own := RX11) (v := (1000000 : Int32)) hx hb M.1.2.2.2.1 (M.1.2.2.2.2 _ (zin (i := 1327) (by decide +kernel) rfl)) dX11_layLeast_247 ?_
                      refine lv_goto (tgt := 254) hx hb dX11_layLeast_249 (by decide) ?_
                      obtain rfl := Option.some.inj e_x8
                      exact K_x8 ls _ _ (lv_sub hl [1, 2, 3, 4, 5, 6, 7, 8] rfl) I
                  refine lv_icmp_le (tgt := 221) hx hb dX11_layLeast_210 (by decide) (fun c11 => ?_) (fun c11 => ?_)
                  · replace e_x7 := zif_t e_x7 c11
                    refine lv_iload hx hb dX11_layLeast_221 (lv_at hl 8 rfl) ?_
                    refine lv_iload hx hb dX11_layLeast_223 (lv_at hl 7 rfl) ?_
                    refine lv_isub hx hb dX11_layLeast_225 ?_
                    obtain rfl := Option.some.inj e_x7
                    exact K_x7 ls _ _ (lv_sub hl [1, 2, 3, 4, 5, 6, 7, 8, 0] rfl) I
                  · replace e_x7 := zif_f e_x7 c11
                    refine lv_iload hx hb dX11_layLeast_213 (lv_at hl 7 rfl) ?_
                    refine lv_iload hx hb dX11_layLeast_215 (lv_at hl 8 rfl) ?_
                    refine lv_isub hx hb dX11_layLeast_217 ?_
                    refine lv_goto (tgt := 226) hx hb dX11_layLeast_218 (by decide) ?_
                    obtain rfl := Option.some.inj e_x7
                    exact K_x7 ls _ _ (lv_sub hl [1, 2, 3, 4, 5, 6, 7, 8, 0] rfl) I
                refine lv_icmp_ge (tgt := 202) hx hb dX11_layLeast_194 (by decide) (fun c12 => ?_) (fun c12 => ?_)
                · replace e_x6 := zif_t e_x6 c12
                  refine lv_iload hx hb dX11_layLeast_202 (lv_at hl 0 rfl) ?_
                  obtain rfl := Option.some.inj e_x6
                  exact K_x6 ls _ _ (lv_sub hl [1, 2, 3, 4, 5, 6, 7, 8] rfl) I
                · replace e_x6 := zif_f e_x6 c12
                  refine lv_iload hx hb dX11_layLeast_197 (lv_at hl 9 rfl) ?_
                  refine lv_goto (tgt := 204) hx hb dX11_layLeast_199 (by decide) ?_
                  obtain rfl := Option.some.inj e_x6
                  exact K_x6 ls _ _ (lv_sub hl [1, 2, 3, 4, 5, 6, 7, 8] rfl) I
              refine lv_icmp_ge (tgt := 186) hx hb dX11_layLeast_178 (by decide) (fun c13 => ?_) (fun c13 => ?_)
              · replace e_x5 := zif_t e_x5 c13
                refine lv_iload hx hb dX11_layLeast_186 (lv_at hl 9 rfl) ?_
                obtain rfl := Option.some.inj e_x5
                exact K_x5 ls _ _ (lv_sub hl [1, 2, 3, 4, 5, 6, 7, 8, 0] rfl) I
              · replace e_x5 := zif_f e_x5 c13
                refine lv_iload hx hb dX11_layLeast_181 (lv_at hl 10 rfl) ?_
                refine lv_goto (tgt := 188) hx hb dX11_layLeast_183 (by decide) ?_
                obtain rfl := Option.some.inj e_x5
                exact K_x5 ls _ _ (lv_sub hl [1, 2, 3, 4, 5, 6, 7, 8, 0] rfl) I
            refine lv_if_le (tgt := 170) hx hb dX11_layLeast_142 (by decide) (fun c16 => ?_) (fun c16 => ?_)
            · replace e_x4 := zif_t e_x4 c16
              refine lv_ldc (own := RX11) (v := (1000000 : Int32)) hx hb M.1.2.2.2.1 (M.1.2.2.2.2 _ (zin (i := 1327) (by decide +kernel) rfl)) dX11_layLeast_170 ?_
              obtain rfl := Option.some.inj e_x4
              exact K_x4 ls _ _ (lv_sub hl [1, 2, 3, 4, 5, 6, 7, 8, 9, 0] rfl) I
            · replace e_x4 := zif_f e_x4 c16
              refine lv_aload_n hx hb dX11_layLeast_145 rfl (lv_at hl 1 rfl) ?_
              refine zgetR (j := 121) M I zc_103 zfl_X11_61 dX11_layLeast_146 rfl ?_
              refine lv_bipush (v := (25 : Int32)) hx hb dX11_layLeast_149 (by decide) ?_
              refine lv_iload hx hb dX11_layLeast_151 (lv_at hl 7 rfl) ?_
              refine lv_imul hx hb dX11_layLeast_153 ?_
              refine lv_iload hx hb dX11_layLeast_154 (lv_at hl 8 rfl) ?_
              refine lv_iadd hx hb dX11_layLeast_156 ?_
              refine lv_iconst (v := (1 : Int32)) hx hb dX11_layLeast_157 (by decide) ?_
              refine lv_isub hx hb dX11_layLeast_158 ?_
              obtain ⟨x14, e_x14, e_x4⟩ := zb_some e_x4
              refine ziald M I zc_121 e_x14 dX11_layLeast_159 ?_
              refine lv_aload_n hx hb dX11_layLeast_160 rfl (lv_at hl 1 rfl) ?_
              refine zgetR (j := 104) M I zc_103 zfl_X11_7 dX11_layLeast_161 rfl ?_
              refine lv_iconst (v := (2 : Int32)) hx hb dX11_layLeast_164 (by decide) ?_
              obtain ⟨x15, e_x15, e_x4⟩ := zb_some e_x4
              refine ziald M I zc_104 e_x15 dX11_layLeast_165 ?_
              refine lv_iadd hx hb dX11_layLeast_166 ?_
              refine lv_goto (tgt := 172) hx hb dX11_layLeast_167 (by decide) ?_
              obtain rfl := Option.some.inj e_x4
              exact K_x4 ls _ _ (lv_sub hl [1, 2, 3, 4, 5, 6, 7, 8, 9, 0] rfl) I
          refine lv_if_le (tgt := 136) hx hb dX11_layLeast_107 (by decide) (fun c19 => ?_) (fun c19 => ?_)
          · replace e_x3 := zif_t e_x3 c19
            refine lv_ldc (own := RX11) (v := (1000000 : Int32)) hx hb M.1.2.2.2.1 (M.1.2.2.2.2 _ (zin (i := 1327) (by decide +kernel) rfl)) dX11_layLeast_136 ?_
            obtain rfl := Option.some.inj e_x3
            exact K_x3 ls _ _ hl I
          · replace e_x3 := zif_f e_x3 c19
            refine lv_aload_n hx hb dX11_layLeast_110 rfl (lv_at hl 0 rfl) ?_
            refine zgetR (j := 121) M I zc_103 zfl_X11_61 dX11_layLeast_111 rfl ?_
            refine lv_bipush (v := (25 : Int32)) hx hb dX11_layLeast_114 (by decide) ?_
            refine lv_iload hx hb dX11_layLeast_116 (lv_at hl 6 rfl) ?_
            refine lv_imul hx hb dX11_layLeast_118 ?_
            refine lv_iload hx hb dX11_layLeast_119 (lv_at hl 7 rfl) ?_
            refine lv_iadd hx hb dX11_layLeast_121 ?_
            refine lv_bipush (v := (25 : Int32)) hx hb dX11_layLeast_122 (by decide) ?_
            refine lv_isub hx hb dX11_layLeast_124 ?_
            obtain ⟨x17, e_x17, e_x3⟩ := zb_some e_x3
            refine ziald M I zc_121 e_x17 dX11_layLeast_125 ?_
            refine lv_aload_n hx hb dX11_layLeast_126 rfl (lv_at hl 0 rfl) ?_
            refine zgetR (j := 104) M I zc_103 zfl_X11_7 dX11_layLeast_127 rfl ?_
            refine lv_iconst (v := (2 : Int32)) hx hb dX11_layLeast_130 (by decide) ?_
            obtain ⟨x18, e_x18, e_x3⟩ := zb_some e_x3
            refine ziald M I zc_104 e_x18 dX11_layLeast_131 ?_
            refine lv_iadd hx hb dX11_layLeast_132 ?_
            refine lv_goto (tgt := 138) hx hb dX11_layLeast_133 (by decide) ?_
            obtain rfl := Option.some.inj e_x3
            exact K_x3 ls _ _ hl I
        refine lv_if_le (tgt := 105) hx hb dX11_layLeast_39 (by decide) (fun c27 => ?_) (fun c27 => ?_)
        · replace e_x2 := zif_t e_x2 c27
          obtain rfl := Option.some.inj e_x2
          exact K_x2 ls _ _ (lv_sub hl [1, 2, 3, 4, 5, 6, 7, 8, 0] rfl) I
        · replace e_x2 := zif_f e_x2 c27
          refine lv_iload hx hb dX11_layLeast_42 (lv_at hl 8 rfl) ?_
          refine lv_if_le (tgt := 105) hx hb dX11_layLeast_44 (by decide) (fun c26 => ?_) (fun c26 => ?_)
          · replace e_x2 := zif_t e_x2 c26
            obtain rfl := Option.some.inj e_x2
            exact K_x2 ls _ _ (lv_sub hl [1, 2, 3, 4, 5, 6, 7, 8, 0] rfl) I
          · replace e_x2 := zif_f e_x2 c26
            refine lv_aload_n hx hb dX11_layLeast_47 rfl (lv_at hl 1 rfl) ?_
            refine lv_iconst (v := (0 : Int32)) hx hb dX11_layLeast_48 (by decide) ?_
            refine lv_iload_n hx hb dX11_layLeast_49 rfl (lv_at hl 2 rfl) ?_
            refine lv_iload hx hb dX11_layLeast_50 (lv_at hl 7 rfl) ?_
            refine lv_iadd hx hb dX11_layLeast_52 ?_
            refine lv_iconst (v := (1 : Int32)) hx hb dX11_layLeast_53 (by decide) ?_
            refine lv_isub hx hb dX11_layLeast_54 ?_
            obtain ⟨x20, e_x20, e_x2⟩ := zb_some e_x2
            refine zcallI M I (zrunV (as := [.int (0 : Int32), .int ((a1 + a6) - (1 : Int32))]) M I (c_X11_at l g fu e_x20) zc_103 zK11.1 (by decide) zlv_X11_89 ⟨Nat.le_of_ble_eq_true rfl, Nat.le_of_ble_eq_true rfl⟩ ⟨Nat.zero_le _, Nat.zero_le _⟩ rfl rfl (Nat.le_of_ble_eq_true rfl) hl.1 dX11_layLeast_55) (fun H locs I => ?_)
            refine lv_aload_n hx hb dX11_layLeast_58 rfl (lv_at hl 1 rfl) ?_
            refine lv_iconst (v := (1 : Int32)) hx hb dX11_layLeast_59 (by decide) ?_
            refine lv_iload_n hx hb dX11_layLeast_60 rfl (lv_at hl 4 rfl) ?_
            refine lv_iload hx hb dX11_layLeast_61 (lv_at hl 8 rfl) ?_
            refine lv_iadd hx hb dX11_layLeast_63 ?_
            refine lv_iconst (v := (1 : Int32)) hx hb dX11_layLeast_64 (by decide) ?_
            refine lv_isub hx hb dX11_layLeast_65 ?_
            obtain ⟨x21, e_x21, e_x2⟩ := zb_some e_x2
            refine zcallI M I (zrunV (as := [.int (1 : Int32), .int ((a3 + v7) - (1 : Int32))]) M I (c_X11_at l g fu e_x21) zc_103 zK11.1 (by decide) zlv_X11_89 ⟨Nat.le_of_ble_eq_true rfl, Nat.le_of_ble_eq_true rfl⟩ ⟨Nat.zero_le _, Nat.zero_le _⟩ rfl rfl (Nat.le_of_ble_eq_true rfl) hl.1 dX11_layLeast_66) (fun H locs I => ?_)
            obtain ⟨x22, e_x22, e_x2⟩ := zb_some e_x2
            have K_x22 : ∀ (ls : Array Slot) (H : Heap) (locs : List Loc), lv_has ls 12 [(0, .ref (zA g 103)), (1, .int a1), (2, .int a2), (3, .int a3), (4, .int a4), (5, .int a5), (6, .int a6), (7, .int v7)] → zIV g σ (zAA g) s.heap H locs → W p l e (zrm 1 22) s m args below meth c H locs 0 0 Q (F0 m 82 ls [.int x22]) := by
              intro ls H locs hl I
              refine lv_istore (lv' := [(9, .int x22), (0, .ref (zA g 103)), (1, .int a1), (2, .int a2), (3, .int a3), (4, .int a4), (5, .int a5), (6, .int a6), (7, .int v7)]) hx hb dX11_layLeast_82 hl (by decide) rfl (fun ls hl => ?_)
              refine lv_aload_n hx hb dX11_layLeast_84 rfl (lv_at hl 1 rfl) ?_
              refine zgetR (j := 121) M I zc_103 zfl_X11_61 dX11_layLeast_85 rfl ?_
              refine lv_bipush (v := (25 : Int32)) hx hb dX11_layLeast_88 (by decide) ?_
              refine lv_iload hx hb dX11_layLeast_90 (lv_at hl 7 rfl) ?_
              refine lv_imul hx hb dX11_layLeast_92 ?_
              refine lv_iload hx hb dX11_layLeast_93 (lv_at hl 8 rfl) ?_
              refine lv_iadd hx hb dX11_layLeast_95 ?_
              refine lv_bipush (v := (26 : Int32)) hx hb dX11_layLeast_96 (by decide) ?_
              refine lv_isub hx hb dX11_layLeast_98 ?_
              obtain ⟨x23, e_x23, e_x2⟩ := zb_some e_x2
              refine ziald M I zc_121 e_x23 dX11_layLeast_99 ?_
              refine lv_iload hx hb dX11_layLeast_100 (lv_at hl 0 rfl) ?_
              refine lv_iadd hx hb dX11_layLeast_102 ?_
              refine lv_istore (lv' := [(8, .int (x23 + x22)), (9, .int x22), (0, .ref (zA g 103)), (1, .int a1), (2, .int a2), (3, .int a3), (4, .int a4), (5, .int a5), (6, .int a6), (7, .int v7)]) hx hb dX11_layLeast_103 hl (by decide) rfl (fun ls hl => ?_)
              obtain rfl := Option.some.inj e_x2
              exact K_x2 ls _ _ (lv_sub hl [2, 3, 4, 5, 6, 7, 8, 9, 0] rfl) I
            refine lv_icmp_ne (tgt := 76) hx hb dX11_layLeast_69 (by decide) (fun c25 => ?_) (fun c25 => ?_)
            · replace e_x22 := zif_t e_x22 c25
              refine lv_aload_n hx hb dX11_layLeast_76 rfl (lv_at hl 1 rfl) ?_
              refine zgetR (j := 104) M I zc_103 zfl_X11_7 dX11_layLeast_77 rfl ?_
              refine lv_iconst (v := (1 : Int32)) hx hb dX11_layLeast_80 (by decide) ?_
              obtain ⟨x24, e_x24, e_x22⟩ := zb_some e_x22
              refine ziald M I zc_104 e_x24 dX11_layLeast_81 ?_
              obtain rfl := Option.some.inj e_x22
              exact K_x22 ls _ _ (lv_sub hl [1, 2, 3, 4, 5, 6, 7, 8] rfl) I
            · replace e_x22 := zif_f e_x22 (fun hq => hq c25)
              refine lv_iconst (v := (0 : Int32)) hx hb dX11_layLeast_72 (by decide) ?_
              refine lv_goto (tgt := 82) hx hb dX11_layLeast_73 (by decide) ?_
              obtain rfl := Option.some.inj e_x22
              exact K_x22 ls _ _ (lv_sub hl [1, 2, 3, 4, 5, 6, 7, 8] rfl) I
      refine lv_if_ne (tgt := 33) hx hb dX11_layLeast_21 (by decide) (fun c29 => ?_) (fun c29 => ?_)
      · replace e_x1 := zif_t e_x1 c29
        refine lv_ldc (own := RX11) (v := (1000000 : Int32)) hx hb M.1.2.2.2.1 (M.1.2.2.2.2 _ (zin (i := 1327) (by decide +kernel) rfl)) dX11_layLeast_33 ?_
        obtain rfl := Option.some.inj e_x1
        exact K_x1 ls _ _ hl I
      · replace e_x1 := zif_f e_x1 (fun hq => hq c29)
        refine lv_iload hx hb dX11_layLeast_24 (lv_at hl 7 rfl) ?_
        refine lv_if_ne (tgt := 33) hx hb dX11_layLeast_26 (by decide) (fun c28 => ?_) (fun c28 => ?_)
        · replace e_x1 := zif_t e_x1 c28
          refine lv_ldc (own := RX11) (v := (1000000 : Int32)) hx hb M.1.2.2.2.1 (M.1.2.2.2.2 _ (zin (i := 1327) (by decide +kernel) rfl)) dX11_layLeast_33 ?_
          obtain rfl := Option.some.inj e_x1
          exact K_x1 ls _ _ hl I
        · replace e_x1 := zif_f e_x1 (fun hq => hq c28)
          refine lv_iconst (v := (0 : Int32)) hx hb dX11_layLeast_29 (by decide) ?_
          refine lv_goto (tgt := 35) hx hb dX11_layLeast_30 (by decide) ?_
          obtain rfl := Option.some.inj e_x1
          exact K_x1 ls _ _ hl I
def l_X11_layLeast_3 (fu : Nat) (a1 : Int32) (a2 : Int32) (a3 : Int32) (a4 : Int32) (a5 : Int32) : Nat → Int32 → zmem → Option (zmem)
  | 0, _, _ => none
  | n + 1, v6, σ => (if a2 < v6 then some σ else (l_X11_layLeast_12 fu a1 a2 a3 a4 a5 v6 fu (0 : Int32) σ).bind fun x31 => l_X11_layLeast_3 fu a1 a2 a3 a4 a5 n (v6 + 1) x31)
set_option maxHeartbeats 4000000 in
set_option maxRecDepth 100000 in
theorem k_X11_layLeast_3 {l : Launch} {g : zgeo} {fu : Nat} {p : Program} {e : Env} {s : State} {m : MethodId} {args : Array Value} {below : List Frame} {meth : Method} {c : Code} (M : zMC RX11 cX11_layLeast 12 none g p m c s args meth) {a1 : Int32} {a2 : Int32} {a3 : Int32} {a4 : Int32} {a5 : Int32} {Q : State → Prop} : ∀ (n : Nat) (v6 : Int32) (σ : zmem) (o : zmem), l_X11_layLeast_3 fu a1 a2 a3 a4 a5 n v6 σ = some o → ∀ (ls : Array Slot) (H : Heap) (locs : List Loc), lv_has ls 12 [(0, .ref (zA g 103)), (1, .int a1), (2, .int a2), (3, .int a3), (4, .int a4), (5, .int a5), (6, .int v6)] → zIV g σ (zAA g) s.heap H locs → (∀ (ls : Array Slot) (H : Heap) (locs : List Loc), lv_has ls 12 [] → zIV g o (zAA g) s.heap H locs → W p l e (zrm 1 22) s m args below meth c H locs 0 0 Q (F0 m 267 ls [])) → W p l e (zrm 1 22) s m args below meth c H locs 0 0 Q (F0 m 3 ls []) := by
  have hx := M.1.1
  have hb := M.1.2.1
  intro n
  induction n with
  | zero =>
    intro v6 σ o hr ls H locs hl I KF
    have hr : (none : Option (zmem)) = some o := hr
    cases hr
  | succ n ih =>
    intro v6 σ o hr ls H locs hl I KF
    rw [l_X11_layLeast_3] at hr
    refine lv_iload hx hb dX11_layLeast_3 (lv_at hl 6 rfl) ?_
    refine lv_iload_n hx hb dX11_layLeast_5 rfl (lv_at hl 2 rfl) ?_
    refine lv_icmp_gt (tgt := 267) hx hb dX11_layLeast_6 (by decide) (fun c32 => ?_) (fun c32 => ?_)
    · replace hr := zif_t hr c32
      obtain rfl := Option.some.inj hr
      exact KF ls _ _ (lv_sub hl [] rfl) I
    · replace hr := zif_f hr c32
      refine lv_iconst (v := (0 : Int32)) hx hb dX11_layLeast_9 (by decide) ?_
      refine lv_istore (lv' := [(7, .int (0 : Int32)), (0, .ref (zA g 103)), (1, .int a1), (2, .int a2), (3, .int a3), (4, .int a4), (5, .int a5), (6, .int v6)]) hx hb dX11_layLeast_10 hl (by decide) rfl (fun ls hl => ?_)
      obtain ⟨x31, e_x31, hr⟩ := zb_some hr
      refine k_X11_layLeast_12 M  fu _ _  _ e_x31 ls _ _ (lv_sub hl [1, 2, 3, 4, 5, 6, 7, 0] rfl) I (fun ls H locs hl I => ?_)
      refine lv_iinc (lv' := [(6, .int (v6 + 1)), (0, .ref (zA g 103)), (1, .int a1), (2, .int a2), (3, .int a3), (4, .int a4), (5, .int a5)]) (k := 6) (v := (v6 + 1)) hx hb dX11_layLeast_261 hl rfl (zi_1 _) (by decide) rfl (fun ls hl => ?_)
      refine lv_goto (tgt := 3) hx hb dX11_layLeast_264 (by decide) ?_
      exact ih _ _  _ hr ls _ _ (lv_sub hl [1, 2, 3, 4, 5, 6, 0] rfl) I KF
def m_X11_layLeast (fu : Nat) (σ : zmem) (a1 : Int32) (a2 : Int32) (a3 : Int32) (a4 : Int32) (a5 : Int32) : Option (zmem) := (l_X11_layLeast_3 fu a1 a2 a3 a4 a5 fu (0 : Int32) σ).bind fun x33 => some x33
set_option maxHeartbeats 4000000 in
set_option maxRecDepth 100000 in
theorem c_X11_layLeast (l : Launch) (g : zgeo) (fu : Nat) {σ : zmem} {a1 : Int32} {a2 : Int32} {a3 : Int32} {a4 : Int32} {a5 : Int32} {r : zmem} (hr : m_X11_layLeast fu σ a1 a2 a3 a4 a5 = some r) : zCt (zQV g r) l g yX11_layLeast cX11_layLeast 12 none 1 22 [.ref (zA g 103), .int a1, .int a2, .int a3, .int a4, .int a5] σ := by
  refine zopen (by decide) (Nat.le_of_ble_eq_true rfl) ?_
  intro p e s m below meth c M ls hl I
  have M : zMC RX11 cX11_layLeast 12 none g p m c s ([.ref (zA g 103), .int a1, .int a2, .int a3, .int a4, .int a5] : List Value).toArray meth := M
  have hl : lv_has ls 12 [(0, .ref (zA g 103)), (1, .int a1), (2, .int a2), (3, .int a3), (4, .int a4), (5, .int a5)] := hl
  generalize ([.ref (zA g 103), .int a1, .int a2, .int a3, .int a4, .int a5] : List Value).toArray = args at M ⊢
  have hx := M.1.1
  have hb := M.1.2.1
  unfold m_X11_layLeast at hr
  refine lv_iconst (v := (0 : Int32)) hx hb dX11_layLeast_0 (by decide) ?_
  refine lv_istore (lv' := [(6, .int (0 : Int32)), (0, .ref (zA g 103)), (1, .int a1), (2, .int a2), (3, .int a3), (4, .int a4), (5, .int a5)]) hx hb dX11_layLeast_1 hl (by decide) rfl (fun ls hl => ?_)
  obtain ⟨x33, e_x33, hr⟩ := zb_some hr
  refine k_X11_layLeast_3 M  fu _ _  _ e_x33 ls _ _ (lv_sub hl [1, 2, 3, 4, 5, 6, 0] rfl) I (fun ls H locs hl I => ?_)
  obtain rfl := Option.some.inj hr
  exact zretV M I dX11_layLeast_267
def m_X11_bandFor (fu : Nat) (σ : zmem) (a0 : Int32) (a1 : Int32) (a2 : Int32) : Option (Int32) := ((if a0 ≤ a1 then some (a1 - a0) else some (a0 - a1)) : Option (Int32)).bind fun x1 => (if x1 ≤ a2 then some a2 else some x1)
set_option maxHeartbeats 4000000 in
set_option maxRecDepth 100000 in
theorem c_X11_bandFor (l : Launch) (g : zgeo) (fu : Nat) {σ : zmem} {a0 : Int32} {a1 : Int32} {a2 : Int32} {r : Int32} (hr : m_X11_bandFor fu σ a0 a1 a2 = some r) : zCt (zQI g r σ) l g yX11_bandFor cX11_bandFor 4 (some .int) 0 0 [.int a0, .int a1, .int a2] σ := by
  refine zopen (by decide) (Nat.le_of_ble_eq_true rfl) ?_
  intro p e s m below meth c M ls hl I
  have M : zMC RX11 cX11_bandFor 4 (some .int) g p m c s ([.int a0, .int a1, .int a2] : List Value).toArray meth := M
  have hl : lv_has ls 4 [(0, .int a0), (1, .int a1), (2, .int a2)] := hl
  generalize ([.int a0, .int a1, .int a2] : List Value).toArray = args at M ⊢
  have hx := M.1.1
  have hb := M.1.2.1
  unfold m_X11_bandFor at hr
  refine lv_iload_n hx hb dX11_bandFor_0 rfl (lv_at hl 0 rfl) ?_
  refine lv_iload_n hx hb dX11_bandFor_1 rfl (lv_at hl 1 rfl) ?_
  obtain ⟨x1, e_x1, hr⟩ := zb_some hr
  have K_x1 : ∀ (ls : Array Slot) (H : Heap) (locs : List Loc), lv_has ls 4 [(2, .int a2)] → zIV g σ (zAA g) s.heap H locs → W p l e (zrm 0 0) s m args below meth c H locs 0 0 (MQ below (zQI g r σ) args s 0 0 (zAA g)) (F0 m 14 ls [.int x1]) := by
    intro ls H locs hl I
    refine lv_istore_n (lv' := [(3, .int x1), (2, .int a2)]) hx hb dX11_bandFor_14 rfl hl (by decide) rfl (fun ls hl => ?_)
    refine lv_iload_n hx hb dX11_bandFor_15 rfl (lv_at hl 0 rfl) ?_
    refine lv_iload_n hx hb dX11_bandFor_16 rfl (lv_at hl 1 rfl) ?_
    refine lv_icmp_le (tgt := 24) hx hb dX11_bandFor_17 (by decide) (fun c2 => ?_) (fun c2 => ?_)
    · replace hr := zif_t hr c2
      refine lv_iload_n hx hb dX11_bandFor_24 rfl (lv_at hl 1 rfl) ?_
      obtain rfl := Option.some.inj hr
      exact zretI M I dX11_bandFor_25
    · replace hr := zif_f hr c2
      refine lv_iload_n hx hb dX11_bandFor_20 rfl (lv_at hl 0 rfl) ?_
      refine lv_goto (tgt := 25) hx hb dX11_bandFor_21 (by decide) ?_
      obtain rfl := Option.some.inj hr
      exact zretI M I dX11_bandFor_25
  refine lv_icmp_le (tgt := 11) hx hb dX11_bandFor_2 (by decide) (fun c3 => ?_) (fun c3 => ?_)
  · replace e_x1 := zif_t e_x1 c3
    refine lv_iload_n hx hb dX11_bandFor_11 rfl (lv_at hl 1 rfl) ?_
    refine lv_iload_n hx hb dX11_bandFor_12 rfl (lv_at hl 0 rfl) ?_
    refine lv_isub hx hb dX11_bandFor_13 ?_
    obtain rfl := Option.some.inj e_x1
    exact K_x1 ls _ _ (lv_sub hl [2] rfl) I
  · replace e_x1 := zif_f e_x1 c3
    refine lv_iload_n hx hb dX11_bandFor_5 rfl (lv_at hl 0 rfl) ?_
    refine lv_iload_n hx hb dX11_bandFor_6 rfl (lv_at hl 1 rfl) ?_
    refine lv_isub hx hb dX11_bandFor_7 ?_
    refine lv_goto (tgt := 14) hx hb dX11_bandFor_8 (by decide) ?_
    obtain rfl := Option.some.inj e_x1
    exact K_x1 ls _ _ (lv_sub hl [2] rfl) I
def m_X11_lineUp (fu : Nat) (σ : zmem) (a1 : Int32) (a2 : Int32) : Option (zmem) := (zwr σ 120 a1 a2).bind fun s1 => (zwr s1 120 ((24 : Int32) + a2) a1).bind fun s2 => some s2
set_option maxHeartbeats 4000000 in
set_option maxRecDepth 100000 in
theorem c_X11_lineUp (l : Launch) (g : zgeo) (fu : Nat) {σ : zmem} {a1 : Int32} {a2 : Int32} {r : zmem} (hr : m_X11_lineUp fu σ a1 a2 = some r) : zCt (zQV g r) l g yX11_lineUp cX11_lineUp 3 none 0 0 [.ref (zA g 103), .int a1, .int a2] σ := by
  refine zopen (by decide) (Nat.le_of_ble_eq_true rfl) ?_
  intro p e s m below meth c M ls hl I
  have M : zMC RX11 cX11_lineUp 3 none g p m c s ([.ref (zA g 103), .int a1, .int a2] : List Value).toArray meth := M
  have hl : lv_has ls 3 [(0, .ref (zA g 103)), (1, .int a1), (2, .int a2)] := hl
  generalize ([.ref (zA g 103), .int a1, .int a2] : List Value).toArray = args at M ⊢
  have hx := M.1.1
  have hb := M.1.2.1
  unfold m_X11_lineUp at hr
  refine lv_aload_n hx hb dX11_lineUp_0 rfl (lv_at hl 0 rfl) ?_
  refine zgetR (j := 120) M I zc_103 zfl_X11_58 dX11_lineUp_1 rfl ?_
  refine lv_iload_n hx hb dX11_lineUp_4 rfl (lv_at hl 1 rfl) ?_
  refine lv_iload_n hx hb dX11_lineUp_5 rfl (lv_at hl 2 rfl) ?_
  obtain ⟨s1, e_s1, hr⟩ := zb_some hr
  refine ziast M I zc_120 e_s1 dX11_lineUp_6 (fun H locs I => ?_)
  refine lv_aload_n hx hb dX11_lineUp_7 rfl (lv_at hl 0 rfl) ?_
  refine zgetR (j := 120) M I zc_103 zfl_X11_58 dX11_lineUp_8 rfl ?_
  refine lv_bipush (v := (24 : Int32)) hx hb dX11_lineUp_11 (by decide) ?_
  refine lv_iload_n hx hb dX11_lineUp_13 rfl (lv_at hl 2 rfl) ?_
  refine lv_iadd hx hb dX11_lineUp_14 ?_
  refine lv_iload_n hx hb dX11_lineUp_15 rfl (lv_at hl 1 rfl) ?_
  obtain ⟨s2, e_s2, hr⟩ := zb_some hr
  refine ziast M I zc_120 e_s2 dX11_lineUp_16 (fun H locs I => ?_)
  obtain rfl := Option.some.inj hr
  exact zretV M I dX11_lineUp_17
def l_X11_goBack_7 (fu : Nat) (a1 : Int32) (a3 : Int32) : Nat → Int32 → Int32 → zmem → Option (zmem)
  | 0, _, _, _ => none
  | n + 1, v5, v6, σ => (if 0 < v5 then (zrd σ 121 (((25 : Int32) * v5) + v6)).bind fun x1 => ((if v5 ≤ 0 then some (0 : Int32) else (if v6 ≤ 0 then some (0 : Int32) else some (1 : Int32))) : Option (Int32)).bind fun x2 => ((if x2 = 0 then (zrd σ 104 (1 : Int32)).bind fun x17 => some x17 else (m_X11_at fu σ (0 : Int32) ((a1 + v5) - (1 : Int32))).bind fun x18 => (m_X11_at fu σ (1 : Int32) ((a3 + v6) - (1 : Int32))).bind fun x19 => (if ¬ x18 = x19 then (zrd σ 104 (1 : Int32)).bind fun x20 => some x20 else some (0 : Int32))) : Option (Int32)).bind fun x3 => ((if x2 = 0 then (if v5 ≤ 0 then some (v5, (v6 - 1), σ) else (zrd σ 121 ((((25 : Int32) * v5) + v6) - (25 : Int32))).bind fun x5 => (zrd σ 104 (2 : Int32)).bind fun x6 => (if ¬ (x5 + x6) = x1 then some (v5, (v6 - 1), σ) else some ((v5 - 1), v6, σ))) else (zrd σ 121 ((((25 : Int32) * v5) + v6) - (26 : Int32))).bind fun x9 => (if ¬ (x9 + x3) = x1 then (if v5 ≤ 0 then some (v5, (v6 - 1), σ) else (zrd σ 121 ((((25 : Int32) * v5) + v6) - (25 : Int32))).bind fun x10 => (zrd σ 104 (2 : Int32)).bind fun x11 => (if ¬ (x10 + x11) = x1 then some (v5, (v6 - 1), σ) else some ((v5 - 1), v6, σ))) else (m_X11_lineUp fu σ (a1 + (v5 - 1)) (a3 + (v6 - 1))).bind fun x14 => some ((v5 - 1), (v6 - 1), x14))) : Option (Int32 × Int32 × zmem)).bind fun x4 => l_X11_goBack_7 fu a1 a3 n x4.1 x4.2.1 x4.2.2 else (if v6 ≤ 0 then some σ else (zrd σ 121 (((25 : Int32) * v5) + v6)).bind fun x25 => ((if v5 ≤ 0 then some (0 : Int32) else (if v6 ≤ 0 then some (0 : Int32) else some (1 : Int32))) : Option (Int32)).bind fun x26 => ((if x26 = 0 then (zrd σ 104 (1 : Int32)).bind fun x41 => some x41 else (m_X11_at fu σ (0 : Int32) ((a1 + v5) - (1 : Int32))).bind fun x42 => (m_X11_at fu σ (1 : Int32) ((a3 + v6) - (1 : Int32))).bind fun x43 => (if ¬ x42 = x43 then (zrd σ 104 (1 : Int32)).bind fun x44 => some x44 else some (0 : Int32))) : Option (Int32)).bind fun x27 => ((if x26 = 0 then (if v5 ≤ 0 then some (v5, (v6 - 1), σ) else (zrd σ 121 ((((25 : Int32) * v5) + v6) - (25 : Int32))).bind fun x29 => (zrd σ 104 (2 : Int32)).bind fun x30 => (if ¬ (x29 + x30) = x25 then some (v5, (v6 - 1), σ) else some ((v5 - 1), v6, σ))) else (zrd σ 121 ((((25 : Int32) * v5) + v6) - (26 : Int32))).bind fun x33 => (if ¬ (x33 + x27) = x25 then (if v5 ≤ 0 then some (v5, (v6 - 1), σ) else (zrd σ 121 ((((25 : Int32) * v5) + v6) - (25 : Int32))).bind fun x34 => (zrd σ 104 (2 : Int32)).bind fun x35 => (if ¬ (x34 + x35) = x25 then some (v5, (v6 - 1), σ) else some ((v5 - 1), v6, σ))) else (m_X11_lineUp fu σ (a1 + (v5 - 1)) (a3 + (v6 - 1))).bind fun x38 => some ((v5 - 1), (v6 - 1), x38))) : Option (Int32 × Int32 × zmem)).bind fun x28 => l_X11_goBack_7 fu a1 a3 n x28.1 x28.2.1 x28.2.2))
set_option maxHeartbeats 4000000 in
set_option maxRecDepth 100000 in
theorem k_X11_goBack_7 {l : Launch} {g : zgeo} {fu : Nat} {p : Program} {e : Env} {s : State} {m : MethodId} {args : Array Value} {below : List Frame} {meth : Method} {c : Code} (M : zMC RX11 cX11_goBack 10 none g p m c s args meth) {a1 : Int32} {a3 : Int32} {Q : State → Prop} : ∀ (n : Nat) (v5 : Int32) (v6 : Int32) (σ : zmem) (o : zmem), l_X11_goBack_7 fu a1 a3 n v5 v6 σ = some o → ∀ (ls : Array Slot) (H : Heap) (locs : List Loc), lv_has ls 10 [(0, .ref (zA g 103)), (1, .int a1), (3, .int a3), (5, .int v5), (6, .int v6)] → zIV g σ (zAA g) s.heap H locs → (∀ (ls : Array Slot) (H : Heap) (locs : List Loc), lv_has ls 10 [] → zIV g o (zAA g) s.heap H locs → W p l e (zrm 1 22) s m args below meth c H locs 0 0 Q (F0 m 186 ls [])) → W p l e (zrm 1 22) s m args below meth c H locs 0 0 Q (F0 m 7 ls []) := by
  have hx := M.1.1
  have hb := M.1.2.1
  intro n
  induction n with
  | zero =>
    intro v5 v6 σ o hr ls H locs hl I KF
    have hr : (none : Option (zmem)) = some o := hr
    cases hr
  | succ n ih =>
    intro v5 v6 σ o hr ls H locs hl I KF
    rw [l_X11_goBack_7] at hr
    refine lv_iload hx hb dX11_goBack_7 (lv_at hl 3 rfl) ?_
    refine lv_if_gt (tgt := 17) hx hb dX11_goBack_9 (by decide) (fun c50 => ?_) (fun c50 => ?_)
    · replace hr := zif_t hr c50
      refine lv_aload_n hx hb dX11_goBack_17 rfl (lv_at hl 0 rfl) ?_
      refine zgetR (j := 121) M I zc_103 zfl_X11_61 dX11_goBack_18 rfl ?_
      refine lv_bipush (v := (25 : Int32)) hx hb dX11_goBack_21 (by decide) ?_
      refine lv_iload hx hb dX11_goBack_23 (lv_at hl 3 rfl) ?_
      refine lv_imul hx hb dX11_goBack_25 ?_
      refine lv_iload hx hb dX11_goBack_26 (lv_at hl 4 rfl) ?_
      refine lv_iadd hx hb dX11_goBack_28 ?_
      obtain ⟨x1, e_x1, hr⟩ := zb_some hr
      refine ziald M I zc_121 e_x1 dX11_goBack_29 ?_
      refine lv_istore (lv' := [(7, .int x1), (0, .ref (zA g 103)), (1, .int a1), (3, .int a3), (5, .int v5), (6, .int v6)]) hx hb dX11_goBack_30 hl (by decide) rfl (fun ls hl => ?_)
      refine lv_iload hx hb dX11_goBack_32 (lv_at hl 4 rfl) ?_
      obtain ⟨x2, e_x2, hr⟩ := zb_some hr
      have K_x2 : ∀ (ls : Array Slot) (H : Heap) (locs : List Loc), lv_has ls 10 [(0, .ref (zA g 103)), (1, .int a1), (3, .int a3), (5, .int v5), (6, .int v6), (7, .int x1)] → zIV g σ (zAA g) s.heap H locs → W p l e (zrm 1 22) s m args below meth c H locs 0 0 Q (F0 m 47 ls [.int x2]) := by
        intro ls H locs hl I
        refine lv_istore (lv' := [(8, .int x2), (0, .ref (zA g 103)), (1, .int a1), (3, .int a3), (5, .int v5), (6, .int v6), (7, .int x1)]) hx hb dX11_goBack_47 hl (by decide) rfl (fun ls hl => ?_)
        refine lv_iload hx hb dX11_goBack_49 (lv_at hl 0 rfl) ?_
        obtain ⟨x3, e_x3, hr⟩ := zb_some hr
        have K_x3 : ∀ (ls : Array Slot) (H : Heap) (locs : List Loc), lv_has ls 10 [(0, .ref (zA g 103)), (1, .int a1), (3, .int a3), (5, .int v5), (6, .int v6), (7, .int x1), (8, .int x2)] → zIV g σ (zAA g) s.heap H locs → W p l e (zrm 1 22) s m args below meth c H locs 0 0 Q (F0 m 89 ls [.int x3]) := by
          intro ls H locs hl I
          refine lv_istore (lv' := [(9, .int x3), (0, .ref (zA g 103)), (1, .int a1), (3, .int a3), (5, .int v5), (6, .int v6), (7, .int x1), (8, .int x2)]) hx hb dX11_goBack_89 hl (by decide) rfl (fun ls hl => ?_)
          refine lv_iload hx hb dX11_goBack_91 (lv_at hl 7 rfl) ?_
          obtain ⟨x4, e_x4, hr⟩ := zb_some hr
          have K_x4 : ∀ (ls : Array Slot) (H : Heap) (locs : List Loc), lv_has ls 10 [(0, .ref (zA g 103)), (1, .int a1), (3, .int a3), (5, .int x4.1), (6, .int x4.2.1)] → zIV g x4.2.2 (zAA g) s.heap H locs → W p l e (zrm 1 22) s m args below meth c H locs 0 0 Q (F0 m 183 ls []) := by
            intro ls H locs hl I
            refine lv_goto (tgt := 7) hx hb dX11_goBack_183 (by decide) ?_
            exact ih _ _ _  _ hr ls _ _ hl I KF
          refine lv_if_eq (tgt := 141) hx hb dX11_goBack_93 (by decide) (fun c16 => ?_) (fun c16 => ?_)
          · replace e_x4 := zif_t e_x4 c16
            refine lv_iload hx hb dX11_goBack_141 (lv_at hl 4 rfl) ?_
            refine lv_if_le (tgt := 180) hx hb dX11_goBack_143 (by decide) (fun c8 => ?_) (fun c8 => ?_)
            · replace e_x4 := zif_t e_x4 c8
              refine lv_iinc (lv' := [(6, .int (v6 - 1)), (9, .int x3), (0, .ref (zA g 103)), (1, .int a1), (3, .int a3), (5, .int v5), (7, .int x1), (8, .int x2)]) (k := 5) (v := (v6 - 1)) hx hb dX11_goBack_180 hl rfl (zi_m1 _) (by decide) rfl (fun ls hl => ?_)
              obtain rfl := Option.some.inj e_x4
              exact K_x4 ls _ _ (lv_sub hl [2, 3, 4, 5, 0] rfl) I
            · replace e_x4 := zif_f e_x4 c8
              refine lv_aload_n hx hb dX11_goBack_146 rfl (lv_at hl 1 rfl) ?_
              refine zgetR (j := 121) M I zc_103 zfl_X11_61 dX11_goBack_147 rfl ?_
              refine lv_bipush (v := (25 : Int32)) hx hb dX11_goBack_150 (by decide) ?_
              refine lv_iload hx hb dX11_goBack_152 (lv_at hl 4 rfl) ?_
              refine lv_imul hx hb dX11_goBack_154 ?_
              refine lv_iload hx hb dX11_goBack_155 (lv_at hl 5 rfl) ?_
              refine lv_iadd hx hb dX11_goBack_157 ?_
              refine lv_bipush (v := (25 : Int32)) hx hb dX11_goBack_158 (by decide) ?_
              refine lv_isub hx hb dX11_goBack_160 ?_
              obtain ⟨x5, e_x5, e_x4⟩ := zb_some e_x4
              refine ziald M I zc_121 e_x5 dX11_goBack_161 ?_
              refine lv_aload_n hx hb dX11_goBack_162 rfl (lv_at hl 1 rfl) ?_
              refine zgetR (j := 104) M I zc_103 zfl_X11_7 dX11_goBack_163 rfl ?_
              refine lv_iconst (v := (2 : Int32)) hx hb dX11_goBack_166 (by decide) ?_
              obtain ⟨x6, e_x6, e_x4⟩ := zb_some e_x4
              refine ziald M I zc_104 e_x6 dX11_goBack_167 ?_
              refine lv_iadd hx hb dX11_goBack_168 ?_
              refine lv_iload hx hb dX11_goBack_169 (lv_at hl 6 rfl) ?_
              refine lv_icmp_ne (tgt := 180) hx hb dX11_goBack_171 (by decide) (fun c7 => ?_) (fun c7 => ?_)
              · replace e_x4 := zif_t e_x4 c7
                refine lv_iinc (lv' := [(6, .int (v6 - 1)), (9, .int x3), (0, .ref (zA g 103)), (1, .int a1), (3, .int a3), (5, .int v5), (7, .int x1), (8, .int x2)]) (k := 5) (v := (v6 - 1)) hx hb dX11_goBack_180 hl rfl (zi_m1 _) (by decide) rfl (fun ls hl => ?_)
                obtain rfl := Option.some.inj e_x4
                exact K_x4 ls _ _ (lv_sub hl [2, 3, 4, 5, 0] rfl) I
              · replace e_x4 := zif_f e_x4 (fun hq => hq c7)
                refine lv_iinc (lv' := [(5, .int (v5 - 1)), (9, .int x3), (0, .ref (zA g 103)), (1, .int a1), (3, .int a3), (6, .int v6), (7, .int x1), (8, .int x2)]) (k := 4) (v := (v5 - 1)) hx hb dX11_goBack_174 hl rfl (zi_m1 _) (by decide) rfl (fun ls hl => ?_)
                refine lv_goto (tgt := 183) hx hb dX11_goBack_177 (by decide) ?_
                obtain rfl := Option.some.inj e_x4
                exact K_x4 ls _ _ (lv_sub hl [2, 3, 4, 0, 5] rfl) I
          · replace e_x4 := zif_f e_x4 c16
            refine lv_aload_n hx hb dX11_goBack_96 rfl (lv_at hl 1 rfl) ?_
            refine zgetR (j := 121) M I zc_103 zfl_X11_61 dX11_goBack_97 rfl ?_
            refine lv_bipush (v := (25 : Int32)) hx hb dX11_goBack_100 (by decide) ?_
            refine lv_iload hx hb dX11_goBack_102 (lv_at hl 4 rfl) ?_
            refine lv_imul hx hb dX11_goBack_104 ?_
            refine lv_iload hx hb dX11_goBack_105 (lv_at hl 5 rfl) ?_
            refine lv_iadd hx hb dX11_goBack_107 ?_
            refine lv_bipush (v := (26 : Int32)) hx hb dX11_goBack_108 (by decide) ?_
            refine lv_isub hx hb dX11_goBack_110 ?_
            obtain ⟨x9, e_x9, e_x4⟩ := zb_some e_x4
            refine ziald M I zc_121 e_x9 dX11_goBack_111 ?_
            refine lv_iload hx hb dX11_goBack_112 (lv_at hl 0 rfl) ?_
            refine lv_iadd hx hb dX11_goBack_114 ?_
            refine lv_iload hx hb dX11_goBack_115 (lv_at hl 6 rfl) ?_
            refine lv_icmp_ne (tgt := 141) hx hb dX11_goBack_117 (by decide) (fun c15 => ?_) (fun c15 => ?_)
            · replace e_x4 := zif_t e_x4 c15
              refine lv_iload hx hb dX11_goBack_141 (lv_at hl 4 rfl) ?_
              refine lv_if_le (tgt := 180) hx hb dX11_goBack_143 (by decide) (fun c13 => ?_) (fun c13 => ?_)
              · replace e_x4 := zif_t e_x4 c13
                refine lv_iinc (lv' := [(6, .int (v6 - 1)), (9, .int x3), (0, .ref (zA g 103)), (1, .int a1), (3, .int a3), (5, .int v5), (7, .int x1), (8, .int x2)]) (k := 5) (v := (v6 - 1)) hx hb dX11_goBack_180 hl rfl (zi_m1 _) (by decide) rfl (fun ls hl => ?_)
                obtain rfl := Option.some.inj e_x4
                exact K_x4 ls _ _ (lv_sub hl [2, 3, 4, 5, 0] rfl) I
              · replace e_x4 := zif_f e_x4 c13
                refine lv_aload_n hx hb dX11_goBack_146 rfl (lv_at hl 1 rfl) ?_
                refine zgetR (j := 121) M I zc_103 zfl_X11_61 dX11_goBack_147 rfl ?_
                refine lv_bipush (v := (25 : Int32)) hx hb dX11_goBack_150 (by decide) ?_
                refine lv_iload hx hb dX11_goBack_152 (lv_at hl 4 rfl) ?_
                refine lv_imul hx hb dX11_goBack_154 ?_
                refine lv_iload hx hb dX11_goBack_155 (lv_at hl 5 rfl) ?_
                refine lv_iadd hx hb dX11_goBack_157 ?_
                refine lv_bipush (v := (25 : Int32)) hx hb dX11_goBack_158 (by decide) ?_
                refine lv_isub hx hb dX11_goBack_160 ?_
                obtain ⟨x10, e_x10, e_x4⟩ := zb_some e_x4
                refine ziald M I zc_121 e_x10 dX11_goBack_161 ?_
                refine lv_aload_n hx hb dX11_goBack_162 rfl (lv_at hl 1 rfl) ?_
                refine zgetR (j := 104) M I zc_103 zfl_X11_7 dX11_goBack_163 rfl ?_
                refine lv_iconst (v := (2 : Int32)) hx hb dX11_goBack_166 (by decide) ?_
                obtain ⟨x11, e_x11, e_x4⟩ := zb_some e_x4
                refine ziald M I zc_104 e_x11 dX11_goBack_167 ?_
                refine lv_iadd hx hb dX11_goBack_168 ?_
                refine lv_iload hx hb dX11_goBack_169 (lv_at hl 6 rfl) ?_
                refine lv_icmp_ne (tgt := 180) hx hb dX11_goBack_171 (by decide) (fun c12 => ?_) (fun c12 => ?_)
                · replace e_x4 := zif_t e_x4 c12
                  refine lv_iinc (lv' := [(6, .int (v6 - 1)), (9, .int x3), (0, .ref (zA g 103)), (1, .int a1), (3, .int a3), (5, .int v5), (7, .int x1), (8, .int x2)]) (k := 5) (v := (v6 - 1)) hx hb dX11_goBack_180 hl rfl (zi_m1 _) (by decide) rfl (fun ls hl => ?_)
                  obtain rfl := Option.some.inj e_x4
                  exact K_x4 ls _ _ (lv_sub hl [2, 3, 4, 5, 0] rfl) I
                · replace e_x4 := zif_f e_x4 (fun hq => hq c12)
                  refine lv_iinc (lv' := [(5, .int (v5 - 1)), (9, .int x3), (0, .ref (zA g 103)), (1, .int a1), (3, .int a3), (6, .int v6), (7, .int x1), (8, .int x2)]) (k := 4) (v := (v5 - 1)) hx hb dX11_goBack_174 hl rfl (zi_m1 _) (by decide) rfl (fun ls hl => ?_)
                  refine lv_goto (tgt := 183) hx hb dX11_goBack_177 (by decide) ?_
                  obtain rfl := Option.some.inj e_x4
                  exact K_x4 ls _ _ (lv_sub hl [2, 3, 4, 0, 5] rfl) I
            · replace e_x4 := zif_f e_x4 (fun hq => hq c15)
              refine lv_iinc (lv' := [(5, .int (v5 - 1)), (9, .int x3), (0, .ref (zA g 103)), (1, .int a1), (3, .int a3), (6, .int v6), (7, .int x1), (8, .int x2)]) (k := 4) (v := (v5 - 1)) hx hb dX11_goBack_120 hl rfl (zi_m1 _) (by decide) rfl (fun ls hl => ?_)
              refine lv_iinc (lv' := [(6, .int (v6 - 1)), (5, .int (v5 - 1)), (9, .int x3), (0, .ref (zA g 103)), (1, .int a1), (3, .int a3), (7, .int x1), (8, .int x2)]) (k := 5) (v := (v6 - 1)) hx hb dX11_goBack_123 hl rfl (zi_m1 _) (by decide) rfl (fun ls hl => ?_)
              refine lv_aload_n hx hb dX11_goBack_126 rfl (lv_at hl 3 rfl) ?_
              refine lv_iload_n hx hb dX11_goBack_127 rfl (lv_at hl 4 rfl) ?_
              refine lv_iload hx hb dX11_goBack_128 (lv_at hl 1 rfl) ?_
              refine lv_iadd hx hb dX11_goBack_130 ?_
              refine lv_iload_n hx hb dX11_goBack_131 rfl (lv_at hl 5 rfl) ?_
              refine lv_iload hx hb dX11_goBack_132 (lv_at hl 0 rfl) ?_
              refine lv_iadd hx hb dX11_goBack_134 ?_
              obtain ⟨x14, e_x14, e_x4⟩ := zb_some e_x4
              refine zcallU M I (zrunV (as := [.int (a1 + (v5 - 1)), .int (a3 + (v6 - 1))]) M I (c_X11_lineUp l g fu e_x14) zc_103 zK11.1 (by decide) zlv_X11_118 ⟨Nat.le_of_ble_eq_true rfl, Nat.le_of_ble_eq_true rfl⟩ ⟨Nat.zero_le _, Nat.zero_le _⟩ rfl rfl (Nat.le_of_ble_eq_true rfl) hl.1 dX11_goBack_135) (fun H locs I => ?_)
              refine lv_goto (tgt := 183) hx hb dX11_goBack_138 (by decide) ?_
              obtain rfl := Option.some.inj e_x4
              exact K_x4 ls _ _ (lv_sub hl [3, 4, 5, 1, 0] rfl) I
        refine lv_if_eq (tgt := 83) hx hb dX11_goBack_51 (by decide) (fun c22 => ?_) (fun c22 => ?_)
        · replace e_x3 := zif_t e_x3 c22
          refine lv_aload_n hx hb dX11_goBack_83 rfl (lv_at hl 1 rfl) ?_
          refine zgetR (j := 104) M I zc_103 zfl_X11_7 dX11_goBack_84 rfl ?_
          refine lv_iconst (v := (1 : Int32)) hx hb dX11_goBack_87 (by decide) ?_
          obtain ⟨x17, e_x17, e_x3⟩ := zb_some e_x3
          refine ziald M I zc_104 e_x17 dX11_goBack_88 ?_
          obtain rfl := Option.some.inj e_x3
          exact K_x3 ls _ _ (lv_sub hl [1, 2, 3, 4, 5, 6, 0] rfl) I
        · replace e_x3 := zif_f e_x3 c22
          refine lv_aload_n hx hb dX11_goBack_54 rfl (lv_at hl 1 rfl) ?_
          refine lv_iconst (v := (0 : Int32)) hx hb dX11_goBack_55 (by decide) ?_
          refine lv_iload_n hx hb dX11_goBack_56 rfl (lv_at hl 2 rfl) ?_
          refine lv_iload hx hb dX11_goBack_57 (lv_at hl 4 rfl) ?_
          refine lv_iadd hx hb dX11_goBack_59 ?_
          refine lv_iconst (v := (1 : Int32)) hx hb dX11_goBack_60 (by decide) ?_
          refine lv_isub hx hb dX11_goBack_61 ?_
          obtain ⟨x18, e_x18, e_x3⟩ := zb_some e_x3
          refine zcallI M I (zrunV (as := [.int (0 : Int32), .int ((a1 + v5) - (1 : Int32))]) M I (c_X11_at l g fu e_x18) zc_103 zK11.1 (by decide) zlv_X11_89 ⟨Nat.le_of_ble_eq_true rfl, Nat.le_of_ble_eq_true rfl⟩ ⟨Nat.zero_le _, Nat.zero_le _⟩ rfl rfl (Nat.le_of_ble_eq_true rfl) hl.1 dX11_goBack_62) (fun H locs I => ?_)
          refine lv_aload_n hx hb dX11_goBack_65 rfl (lv_at hl 1 rfl) ?_
          refine lv_iconst (v := (1 : Int32)) hx hb dX11_goBack_66 (by decide) ?_
          refine lv_iload_n hx hb dX11_goBack_67 rfl (lv_at hl 3 rfl) ?_
          refine lv_iload hx hb dX11_goBack_68 (lv_at hl 5 rfl) ?_
          refine lv_iadd hx hb dX11_goBack_70 ?_
          refine lv_iconst (v := (1 : Int32)) hx hb dX11_goBack_71 (by decide) ?_
          refine lv_isub hx hb dX11_goBack_72 ?_
          obtain ⟨x19, e_x19, e_x3⟩ := zb_some e_x3
          refine zcallI M I (zrunV (as := [.int (1 : Int32), .int ((a3 + v6) - (1 : Int32))]) M I (c_X11_at l g fu e_x19) zc_103 zK11.1 (by decide) zlv_X11_89 ⟨Nat.le_of_ble_eq_true rfl, Nat.le_of_ble_eq_true rfl⟩ ⟨Nat.zero_le _, Nat.zero_le _⟩ rfl rfl (Nat.le_of_ble_eq_true rfl) hl.1 dX11_goBack_73) (fun H locs I => ?_)
          refine lv_icmp_ne (tgt := 83) hx hb dX11_goBack_76 (by decide) (fun c21 => ?_) (fun c21 => ?_)
          · replace e_x3 := zif_t e_x3 c21
            refine lv_aload_n hx hb dX11_goBack_83 rfl (lv_at hl 1 rfl) ?_
            refine zgetR (j := 104) M I zc_103 zfl_X11_7 dX11_goBack_84 rfl ?_
            refine lv_iconst (v := (1 : Int32)) hx hb dX11_goBack_87 (by decide) ?_
            obtain ⟨x20, e_x20, e_x3⟩ := zb_some e_x3
            refine ziald M I zc_104 e_x20 dX11_goBack_88 ?_
            obtain rfl := Option.some.inj e_x3
            exact K_x3 ls _ _ (lv_sub hl [1, 2, 3, 4, 5, 6, 0] rfl) I
          · replace e_x3 := zif_f e_x3 (fun hq => hq c21)
            refine lv_iconst (v := (0 : Int32)) hx hb dX11_goBack_79 (by decide) ?_
            refine lv_goto (tgt := 89) hx hb dX11_goBack_80 (by decide) ?_
            obtain rfl := Option.some.inj e_x3
            exact K_x3 ls _ _ (lv_sub hl [1, 2, 3, 4, 5, 6, 0] rfl) I
      refine lv_if_le (tgt := 46) hx hb dX11_goBack_34 (by decide) (fun c24 => ?_) (fun c24 => ?_)
      · replace e_x2 := zif_t e_x2 c24
        refine lv_iconst (v := (0 : Int32)) hx hb dX11_goBack_46 (by decide) ?_
        obtain rfl := Option.some.inj e_x2
        exact K_x2 ls _ _ (lv_sub hl [1, 2, 3, 4, 5, 0] rfl) I
      · replace e_x2 := zif_f e_x2 c24
        refine lv_iload hx hb dX11_goBack_37 (lv_at hl 5 rfl) ?_
        refine lv_if_le (tgt := 46) hx hb dX11_goBack_39 (by decide) (fun c23 => ?_) (fun c23 => ?_)
        · replace e_x2 := zif_t e_x2 c23
          refine lv_iconst (v := (0 : Int32)) hx hb dX11_goBack_46 (by decide) ?_
          obtain rfl := Option.some.inj e_x2
          exact K_x2 ls _ _ (lv_sub hl [1, 2, 3, 4, 5, 0] rfl) I
        · replace e_x2 := zif_f e_x2 c23
          refine lv_iconst (v := (1 : Int32)) hx hb dX11_goBack_42 (by decide) ?_
          refine lv_goto (tgt := 47) hx hb dX11_goBack_43 (by decide) ?_
          obtain rfl := Option.some.inj e_x2
          exact K_x2 ls _ _ (lv_sub hl [1, 2, 3, 4, 5, 0] rfl) I
    · replace hr := zif_f hr c50
      refine lv_iload hx hb dX11_goBack_12 (lv_at hl 4 rfl) ?_
      refine lv_if_le (tgt := 186) hx hb dX11_goBack_14 (by decide) (fun c49 => ?_) (fun c49 => ?_)
      · replace hr := zif_t hr c49
        obtain rfl := Option.some.inj hr
        exact KF ls _ _ (lv_sub hl [] rfl) I
      · replace hr := zif_f hr c49
        refine lv_aload_n hx hb dX11_goBack_17 rfl (lv_at hl 0 rfl) ?_
        refine zgetR (j := 121) M I zc_103 zfl_X11_61 dX11_goBack_18 rfl ?_
        refine lv_bipush (v := (25 : Int32)) hx hb dX11_goBack_21 (by decide) ?_
        refine lv_iload hx hb dX11_goBack_23 (lv_at hl 3 rfl) ?_
        refine lv_imul hx hb dX11_goBack_25 ?_
        refine lv_iload hx hb dX11_goBack_26 (lv_at hl 4 rfl) ?_
        refine lv_iadd hx hb dX11_goBack_28 ?_
        obtain ⟨x25, e_x25, hr⟩ := zb_some hr
        refine ziald M I zc_121 e_x25 dX11_goBack_29 ?_
        refine lv_istore (lv' := [(7, .int x25), (0, .ref (zA g 103)), (1, .int a1), (3, .int a3), (5, .int v5), (6, .int v6)]) hx hb dX11_goBack_30 hl (by decide) rfl (fun ls hl => ?_)
        refine lv_iload hx hb dX11_goBack_32 (lv_at hl 4 rfl) ?_
        obtain ⟨x26, e_x26, hr⟩ := zb_some hr
        have K_x26 : ∀ (ls : Array Slot) (H : Heap) (locs : List Loc), lv_has ls 10 [(0, .ref (zA g 103)), (1, .int a1), (3, .int a3), (5, .int v5), (6, .int v6), (7, .int x25)] → zIV g σ (zAA g) s.heap H locs → W p l e (zrm 1 22) s m args below meth c H locs 0 0 Q (F0 m 47 ls [.int x26]) := by
          intro ls H locs hl I
          refine lv_istore (lv' := [(8, .int x26), (0, .ref (zA g 103)), (1, .int a1), (3, .int a3), (5, .int v5), (6, .int v6), (7, .int x25)]) hx hb dX11_goBack_47 hl (by decide) rfl (fun ls hl => ?_)
          refine lv_iload hx hb dX11_goBack_49 (lv_at hl 0 rfl) ?_
          obtain ⟨x27, e_x27, hr⟩ := zb_some hr
          have K_x27 : ∀ (ls : Array Slot) (H : Heap) (locs : List Loc), lv_has ls 10 [(0, .ref (zA g 103)), (1, .int a1), (3, .int a3), (5, .int v5), (6, .int v6), (7, .int x25), (8, .int x26)] → zIV g σ (zAA g) s.heap H locs → W p l e (zrm 1 22) s m args below meth c H locs 0 0 Q (F0 m 89 ls [.int x27]) := by
            intro ls H locs hl I
            refine lv_istore (lv' := [(9, .int x27), (0, .ref (zA g 103)), (1, .int a1), (3, .int a3), (5, .int v5), (6, .int v6), (7, .int x25), (8, .int x26)]) hx hb dX11_goBack_89 hl (by decide) rfl (fun ls hl => ?_)
            refine lv_iload hx hb dX11_goBack_91 (lv_at hl 7 rfl) ?_
            obtain ⟨x28, e_x28, hr⟩ := zb_some hr
            have K_x28 : ∀ (ls : Array Slot) (H : Heap) (locs : List Loc), lv_has ls 10 [(0, .ref (zA g 103)), (1, .int a1), (3, .int a3), (5, .int x28.1), (6, .int x28.2.1)] → zIV g x28.2.2 (zAA g) s.heap H locs → W p l e (zrm 1 22) s m args below meth c H locs 0 0 Q (F0 m 183 ls []) := by
              intro ls H locs hl I
              refine lv_goto (tgt := 7) hx hb dX11_goBack_183 (by decide) ?_
              exact ih _ _ _  _ hr ls _ _ hl I KF
            refine lv_if_eq (tgt := 141) hx hb dX11_goBack_93 (by decide) (fun c40 => ?_) (fun c40 => ?_)
            · replace e_x28 := zif_t e_x28 c40
              refine lv_iload hx hb dX11_goBack_141 (lv_at hl 4 rfl) ?_
              refine lv_if_le (tgt := 180) hx hb dX11_goBack_143 (by decide) (fun c32 => ?_) (fun c32 => ?_)
              · replace e_x28 := zif_t e_x28 c32
                refine lv_iinc (lv' := [(6, .int (v6 - 1)), (9, .int x27), (0, .ref (zA g 103)), (1, .int a1), (3, .int a3), (5, .int v5), (7, .int x25), (8, .int x26)]) (k := 5) (v := (v6 - 1)) hx hb dX11_goBack_180 hl rfl (zi_m1 _) (by decide) rfl (fun ls hl => ?_)
                obtain rfl := Option.some.inj e_x28
                exact K_x28 ls _ _ (lv_sub hl [2, 3, 4, 5, 0] rfl) I
              · replace e_x28 := zif_f e_x28 c32
                refine lv_aload_n hx hb dX11_goBack_146 rfl (lv_at hl 1 rfl) ?_
                refine zgetR (j := 121) M I zc_103 zfl_X11_61 dX11_goBack_147 rfl ?_
                refine lv_bipush (v := (25 : Int32)) hx hb dX11_goBack_150 (by decide) ?_
                refine lv_iload hx hb dX11_goBack_152 (lv_at hl 4 rfl) ?_
                refine lv_imul hx hb dX11_goBack_154 ?_
                refine lv_iload hx hb dX11_goBack_155 (lv_at hl 5 rfl) ?_
                refine lv_iadd hx hb dX11_goBack_157 ?_
                refine lv_bipush (v := (25 : Int32)) hx hb dX11_goBack_158 (by decide) ?_
                refine lv_isub hx hb dX11_goBack_160 ?_
                obtain ⟨x29, e_x29, e_x28⟩ := zb_some e_x28
                refine ziald M I zc_121 e_x29 dX11_goBack_161 ?_
                refine lv_aload_n hx hb dX11_goBack_162 rfl (lv_at hl 1 rfl) ?_
                refine zgetR (j := 104) M I zc_103 zfl_X11_7 dX11_goBack_163 rfl ?_
                refine lv_iconst (v := (2 : Int32)) hx hb dX11_goBack_166 (by decide) ?_
                obtain ⟨x30, e_x30, e_x28⟩ := zb_some e_x28
                refine ziald M I zc_104 e_x30 dX11_goBack_167 ?_
                refine lv_iadd hx hb dX11_goBack_168 ?_
                refine lv_iload hx hb dX11_goBack_169 (lv_at hl 6 rfl) ?_
                refine lv_icmp_ne (tgt := 180) hx hb dX11_goBack_171 (by decide) (fun c31 => ?_) (fun c31 => ?_)
                · replace e_x28 := zif_t e_x28 c31
                  refine lv_iinc (lv' := [(6, .int (v6 - 1)), (9, .int x27), (0, .ref (zA g 103)), (1, .int a1), (3, .int a3), (5, .int v5), (7, .int x25), (8, .int x26)]) (k := 5) (v := (v6 - 1)) hx hb dX11_goBack_180 hl rfl (zi_m1 _) (by decide) rfl (fun ls hl => ?_)
                  obtain rfl := Option.some.inj e_x28
                  exact K_x28 ls _ _ (lv_sub hl [2, 3, 4, 5, 0] rfl) I
                · replace e_x28 := zif_f e_x28 (fun hq => hq c31)
                  refine lv_iinc (lv' := [(5, .int (v5 - 1)), (9, .int x27), (0, .ref (zA g 103)), (1, .int a1), (3, .int a3), (6, .int v6), (7, .int x25), (8, .int x26)]) (k := 4) (v := (v5 - 1)) hx hb dX11_goBack_174 hl rfl (zi_m1 _) (by decide) rfl (fun ls hl => ?_)
                  refine lv_goto (tgt := 183) hx hb dX11_goBack_177 (by decide) ?_
                  obtain rfl := Option.some.inj e_x28
                  exact K_x28 ls _ _ (lv_sub hl [2, 3, 4, 0, 5] rfl) I
            · replace e_x28 := zif_f e_x28 c40
              refine lv_aload_n hx hb dX11_goBack_96 rfl (lv_at hl 1 rfl) ?_
              refine zgetR (j := 121) M I zc_103 zfl_X11_61 dX11_goBack_97 rfl ?_
              refine lv_bipush (v := (25 : Int32)) hx hb dX11_goBack_100 (by decide) ?_
              refine lv_iload hx hb dX11_goBack_102 (lv_at hl 4 rfl) ?_
              refine lv_imul hx hb dX11_goBack_104 ?_
              refine lv_iload hx hb dX11_goBack_105 (lv_at hl 5 rfl) ?_
              refine lv_iadd hx hb dX11_goBack_107 ?_
              refine lv_bipush (v := (26 : Int32)) hx hb dX11_goBack_108 (by decide) ?_
              refine lv_isub hx hb dX11_goBack_110 ?_
              obtain ⟨x33, e_x33, e_x28⟩ := zb_some e_x28
              refine ziald M I zc_121 e_x33 dX11_goBack_111 ?_
              refine lv_iload hx hb dX11_goBack_112 (lv_at hl 0 rfl) ?_
              refine lv_iadd hx hb dX11_goBack_114 ?_
              refine lv_iload hx hb dX11_goBack_115 (lv_at hl 6 rfl) ?_
              refine lv_icmp_ne (tgt := 141) hx hb dX11_goBack_117 (by decide) (fun c39 => ?_) (fun c39 => ?_)
              · replace e_x28 := zif_t e_x28 c39
                refine lv_iload hx hb dX11_goBack_141 (lv_at hl 4 rfl) ?_
                refine lv_if_le (tgt := 180) hx hb dX11_goBack_143 (by decide) (fun c37 => ?_) (fun c37 => ?_)
                · replace e_x28 := zif_t e_x28 c37
                  refine lv_iinc (lv' := [(6, .int (v6 - 1)), (9, .int x27), (0, .ref (zA g 103)), (1, .int a1), (3, .int a3), (5, .int v5), (7, .int x25), (8, .int x26)]) (k := 5) (v := (v6 - 1)) hx hb dX11_goBack_180 hl rfl (zi_m1 _) (by decide) rfl (fun ls hl => ?_)
                  obtain rfl := Option.some.inj e_x28
                  exact K_x28 ls _ _ (lv_sub hl [2, 3, 4, 5, 0] rfl) I
                · replace e_x28 := zif_f e_x28 c37
                  refine lv_aload_n hx hb dX11_goBack_146 rfl (lv_at hl 1 rfl) ?_
                  refine zgetR (j := 121) M I zc_103 zfl_X11_61 dX11_goBack_147 rfl ?_
                  refine lv_bipush (v := (25 : Int32)) hx hb dX11_goBack_150 (by decide) ?_
                  refine lv_iload hx hb dX11_goBack_152 (lv_at hl 4 rfl) ?_
                  refine lv_imul hx hb dX11_goBack_154 ?_
                  refine lv_iload hx hb dX11_goBack_155 (lv_at hl 5 rfl) ?_
                  refine lv_iadd hx hb dX11_goBack_157 ?_
                  refine lv_bipush (v := (25 : Int32)) hx hb dX11_goBack_158 (by decide) ?_
                  refine lv_isub hx hb dX11_goBack_160 ?_
                  obtain ⟨x34, e_x34, e_x28⟩ := zb_some e_x28
                  refine ziald M I zc_121 e_x34 dX11_goBack_161 ?_
                  refine lv_aload_n hx hb dX11_goBack_162 rfl (lv_at hl 1 rfl) ?_
                  refine zgetR (j := 104) M I zc_103 zfl_X11_7 dX11_goBack_163 rfl ?_
                  refine lv_iconst (v := (2 : Int32)) hx hb dX11_goBack_166 (by decide) ?_
                  obtain ⟨x35, e_x35, e_x28⟩ := zb_some e_x28
                  refine ziald M I zc_104 e_x35 dX11_goBack_167 ?_
                  refine lv_iadd hx hb dX11_goBack_168 ?_
                  refine lv_iload hx hb dX11_goBack_169 (lv_at hl 6 rfl) ?_
                  refine lv_icmp_ne (tgt := 180) hx hb dX11_goBack_171 (by decide) (fun c36 => ?_) (fun c36 => ?_)
                  · replace e_x28 := zif_t e_x28 c36
                    refine lv_iinc (lv' := [(6, .int (v6 - 1)), (9, .int x27), (0, .ref (zA g 103)), (1, .int a1), (3, .int a3), (5, .int v5), (7, .int x25), (8, .int x26)]) (k := 5) (v := (v6 - 1)) hx hb dX11_goBack_180 hl rfl (zi_m1 _) (by decide) rfl (fun ls hl => ?_)
                    obtain rfl := Option.some.inj e_x28
                    exact K_x28 ls _ _ (lv_sub hl [2, 3, 4, 5, 0] rfl) I
                  · replace e_x28 := zif_f e_x28 (fun hq => hq c36)
                    refine lv_iinc (lv' := [(5, .int (v5 - 1)), (9, .int x27), (0, .ref (zA g 103)), (1, .int a1), (3, .int a3), (6, .int v6), (7, .int x25), (8, .int x26)]) (k := 4) (v := (v5 - 1)) hx hb dX11_goBack_174 hl rfl (zi_m1 _) (by decide) rfl (fun ls hl => ?_)
                    refine lv_goto (tgt := 183) hx hb dX11_goBack_177 (by decide) ?_
                    obtain rfl := Option.some.inj e_x28
                    exact K_x28 ls _ _ (lv_sub hl [2, 3, 4, 0, 5] rfl) I
              · replace e_x28 := zif_f e_x28 (fun hq => hq c39)
                refine lv_iinc (lv' := [(5, .int (v5 - 1)), (9, .int x27), (0, .ref (zA g 103)), (1, .int a1), (3, .int a3), (6, .int v6), (7, .int x25), (8, .int x26)]) (k := 4) (v := (v5 - 1)) hx hb dX11_goBack_120 hl rfl (zi_m1 _) (by decide) rfl (fun ls hl => ?_)
                refine lv_iinc (lv' := [(6, .int (v6 - 1)), (5, .int (v5 - 1)), (9, .int x27), (0, .ref (zA g 103)), (1, .int a1), (3, .int a3), (7, .int x25), (8, .int x26)]) (k := 5) (v := (v6 - 1)) hx hb dX11_goBack_123 hl rfl (zi_m1 _) (by decide) rfl (fun ls hl => ?_)
                refine lv_aload_n hx hb dX11_goBack_126 rfl (lv_at hl 3 rfl) ?_
                refine lv_iload_n hx hb dX11_goBack_127 rfl (lv_at hl 4 rfl) ?_
                refine lv_iload hx hb dX11_goBack_128 (lv_at hl 1 rfl) ?_
                refine lv_iadd hx hb dX11_goBack_130 ?_
                refine lv_iload_n hx hb dX11_goBack_131 rfl (lv_at hl 5 rfl) ?_
                refine lv_iload hx hb dX11_goBack_132 (lv_at hl 0 rfl) ?_
                refine lv_iadd hx hb dX11_goBack_134 ?_
                obtain ⟨x38, e_x38, e_x28⟩ := zb_some e_x28
                refine zcallU M I (zrunV (as := [.int (a1 + (v5 - 1)), .int (a3 + (v6 - 1))]) M I (c_X11_lineUp l g fu e_x38) zc_103 zK11.1 (by decide) zlv_X11_118 ⟨Nat.le_of_ble_eq_true rfl, Nat.le_of_ble_eq_true rfl⟩ ⟨Nat.zero_le _, Nat.zero_le _⟩ rfl rfl (Nat.le_of_ble_eq_true rfl) hl.1 dX11_goBack_135) (fun H locs I => ?_)
                refine lv_goto (tgt := 183) hx hb dX11_goBack_138 (by decide) ?_
                obtain rfl := Option.some.inj e_x28
                exact K_x28 ls _ _ (lv_sub hl [3, 4, 5, 1, 0] rfl) I
          refine lv_if_eq (tgt := 83) hx hb dX11_goBack_51 (by decide) (fun c46 => ?_) (fun c46 => ?_)
          · replace e_x27 := zif_t e_x27 c46
            refine lv_aload_n hx hb dX11_goBack_83 rfl (lv_at hl 1 rfl) ?_
            refine zgetR (j := 104) M I zc_103 zfl_X11_7 dX11_goBack_84 rfl ?_
            refine lv_iconst (v := (1 : Int32)) hx hb dX11_goBack_87 (by decide) ?_
            obtain ⟨x41, e_x41, e_x27⟩ := zb_some e_x27
            refine ziald M I zc_104 e_x41 dX11_goBack_88 ?_
            obtain rfl := Option.some.inj e_x27
            exact K_x27 ls _ _ (lv_sub hl [1, 2, 3, 4, 5, 6, 0] rfl) I
          · replace e_x27 := zif_f e_x27 c46
            refine lv_aload_n hx hb dX11_goBack_54 rfl (lv_at hl 1 rfl) ?_
            refine lv_iconst (v := (0 : Int32)) hx hb dX11_goBack_55 (by decide) ?_
            refine lv_iload_n hx hb dX11_goBack_56 rfl (lv_at hl 2 rfl) ?_
            refine lv_iload hx hb dX11_goBack_57 (lv_at hl 4 rfl) ?_
            refine lv_iadd hx hb dX11_goBack_59 ?_
            refine lv_iconst (v := (1 : Int32)) hx hb dX11_goBack_60 (by decide) ?_
            refine lv_isub hx hb dX11_goBack_61 ?_
            obtain ⟨x42, e_x42, e_x27⟩ := zb_some e_x27
            refine zcallI M I (zrunV (as := [.int (0 : Int32), .int ((a1 + v5) - (1 : Int32))]) M I (c_X11_at l g fu e_x42) zc_103 zK11.1 (by decide) zlv_X11_89 ⟨Nat.le_of_ble_eq_true rfl, Nat.le_of_ble_eq_true rfl⟩ ⟨Nat.zero_le _, Nat.zero_le _⟩ rfl rfl (Nat.le_of_ble_eq_true rfl) hl.1 dX11_goBack_62) (fun H locs I => ?_)
            refine lv_aload_n hx hb dX11_goBack_65 rfl (lv_at hl 1 rfl) ?_
            refine lv_iconst (v := (1 : Int32)) hx hb dX11_goBack_66 (by decide) ?_
            refine lv_iload_n hx hb dX11_goBack_67 rfl (lv_at hl 3 rfl) ?_
            refine lv_iload hx hb dX11_goBack_68 (lv_at hl 5 rfl) ?_
            refine lv_iadd hx hb dX11_goBack_70 ?_
            refine lv_iconst (v := (1 : Int32)) hx hb dX11_goBack_71 (by decide) ?_
            refine lv_isub hx hb dX11_goBack_72 ?_
            obtain ⟨x43, e_x43, e_x27⟩ := zb_some e_x27
            refine zcallI M I (zrunV (as := [.int (1 : Int32), .int ((a3 + v6) - (1 : Int32))]) M I (c_X11_at l g fu e_x43) zc_103 zK11.1 (by decide) zlv_X11_89 ⟨Nat.le_of_ble_eq_true rfl, Nat.le_of_ble_eq_true rfl⟩ ⟨Nat.zero_le _, Nat.zero_le _⟩ rfl rfl (Nat.le_of_ble_eq_true rfl) hl.1 dX11_goBack_73) (fun H locs I => ?_)
            refine lv_icmp_ne (tgt := 83) hx hb dX11_goBack_76 (by decide) (fun c45 => ?_) (fun c45 => ?_)
            · replace e_x27 := zif_t e_x27 c45
              refine lv_aload_n hx hb dX11_goBack_83 rfl (lv_at hl 1 rfl) ?_
              refine zgetR (j := 104) M I zc_103 zfl_X11_7 dX11_goBack_84 rfl ?_
              refine lv_iconst (v := (1 : Int32)) hx hb dX11_goBack_87 (by decide) ?_
              obtain ⟨x44, e_x44, e_x27⟩ := zb_some e_x27
              refine ziald M I zc_104 e_x44 dX11_goBack_88 ?_
              obtain rfl := Option.some.inj e_x27
              exact K_x27 ls _ _ (lv_sub hl [1, 2, 3, 4, 5, 6, 0] rfl) I
            · replace e_x27 := zif_f e_x27 (fun hq => hq c45)
              refine lv_iconst (v := (0 : Int32)) hx hb dX11_goBack_79 (by decide) ?_
              refine lv_goto (tgt := 89) hx hb dX11_goBack_80 (by decide) ?_
              obtain rfl := Option.some.inj e_x27
              exact K_x27 ls _ _ (lv_sub hl [1, 2, 3, 4, 5, 6, 0] rfl) I
        refine lv_if_le (tgt := 46) hx hb dX11_goBack_34 (by decide) (fun c48 => ?_) (fun c48 => ?_)
        · replace e_x26 := zif_t e_x26 c48
          refine lv_iconst (v := (0 : Int32)) hx hb dX11_goBack_46 (by decide) ?_
          obtain rfl := Option.some.inj e_x26
          exact K_x26 ls _ _ (lv_sub hl [1, 2, 3, 4, 5, 0] rfl) I
        · replace e_x26 := zif_f e_x26 c48
          refine lv_iload hx hb dX11_goBack_37 (lv_at hl 5 rfl) ?_
          refine lv_if_le (tgt := 46) hx hb dX11_goBack_39 (by decide) (fun c47 => ?_) (fun c47 => ?_)
          · replace e_x26 := zif_t e_x26 c47
            refine lv_iconst (v := (0 : Int32)) hx hb dX11_goBack_46 (by decide) ?_
            obtain rfl := Option.some.inj e_x26
            exact K_x26 ls _ _ (lv_sub hl [1, 2, 3, 4, 5, 0] rfl) I
          · replace e_x26 := zif_f e_x26 c47
            refine lv_iconst (v := (1 : Int32)) hx hb dX11_goBack_42 (by decide) ?_
            refine lv_goto (tgt := 47) hx hb dX11_goBack_43 (by decide) ?_
            obtain rfl := Option.some.inj e_x26
            exact K_x26 ls _ _ (lv_sub hl [1, 2, 3, 4, 5, 0] rfl) I
def m_X11_goBack (fu : Nat) (σ : zmem) (a1 : Int32) (a2 : Int32) (a3 : Int32) (a4 : Int32) : Option (zmem) := (l_X11_goBack_7 fu a1 a3 fu a2 a4 σ).bind fun x51 => some x51
set_option maxHeartbeats 4000000 in
set_option maxRecDepth 100000 in
theorem c_X11_goBack (l : Launch) (g : zgeo) (fu : Nat) {σ : zmem} {a1 : Int32} {a2 : Int32} {a3 : Int32} {a4 : Int32} {r : zmem} (hr : m_X11_goBack fu σ a1 a2 a3 a4 = some r) : zCt (zQV g r) l g yX11_goBack cX11_goBack 10 none 1 22 [.ref (zA g 103), .int a1, .int a2, .int a3, .int a4] σ := by
  refine zopen (by decide) (Nat.le_of_ble_eq_true rfl) ?_
  intro p e s m below meth c M ls hl I
  have M : zMC RX11 cX11_goBack 10 none g p m c s ([.ref (zA g 103), .int a1, .int a2, .int a3, .int a4] : List Value).toArray meth := M
  have hl : lv_has ls 10 [(0, .ref (zA g 103)), (1, .int a1), (2, .int a2), (3, .int a3), (4, .int a4)] := hl
  generalize ([.ref (zA g 103), .int a1, .int a2, .int a3, .int a4] : List Value).toArray = args at M ⊢
  have hx := M.1.1
  have hb := M.1.2.1
  unfold m_X11_goBack at hr
  refine lv_iload_n hx hb dX11_goBack_0 rfl (lv_at hl 2 rfl) ?_
  refine lv_istore (lv' := [(5, .int a2), (0, .ref (zA g 103)), (1, .int a1), (2, .int a2), (3, .int a3), (4, .int a4)]) hx hb dX11_goBack_1 hl (by decide) rfl (fun ls hl => ?_)
  refine lv_iload hx hb dX11_goBack_3 (lv_at hl 5 rfl) ?_
  refine lv_istore (lv' := [(6, .int a4), (5, .int a2), (0, .ref (zA g 103)), (1, .int a1), (2, .int a2), (3, .int a3), (4, .int a4)]) hx hb dX11_goBack_5 hl (by decide) rfl (fun ls hl => ?_)
  obtain ⟨x51, e_x51, hr⟩ := zb_some hr
  refine k_X11_goBack_7 M  fu _ _ _  _ e_x51 ls _ _ (lv_sub hl [2, 3, 5, 1, 0] rfl) I (fun ls H locs hl I => ?_)
  obtain rfl := Option.some.inj hr
  exact zretV M I dX11_goBack_186
def m_X11_addGap (fu : Nat) (σ : zmem) (a1 : Int32) (a2 : Int32) (a3 : Int32) (a4 : Int32) : Option (zmem) := (zwr σ 117 ((2 : Int32) * (σ.1 103 22)) a1).bind fun s1 => (zwr s1 117 (((2 : Int32) * (s1.1 103 22)) + (1 : Int32)) a3).bind fun s2 => (zwr s2 118 ((2 : Int32) * (s2.1 103 22)) a2).bind fun s3 => (zwr s3 118 (((2 : Int32) * (s3.1 103 22)) + (1 : Int32)) a4).bind fun s4 => (zrd s4 104 (3 : Int32)).bind fun x5 => (m_X11_bandFor fu s4 a2 a4 x5).bind fun x6 => (m_X11_layLeast fu s4 a1 a2 a3 a4 x6).bind fun x7 => (zrd x7 121 (((25 : Int32) * a2) + a4)).bind fun x8 => (zwr x7 119 (x7.1 103 22) x8).bind fun s9 => (m_X11_goBack fu s9 a1 a2 a3 a4).bind fun x10 => some (zst x10 103 22 ((x10.1 103 22) + (1 : Int32)))
set_option maxHeartbeats 4000000 in
set_option maxRecDepth 100000 in
theorem c_X11_addGap (l : Launch) (g : zgeo) (fu : Nat) {σ : zmem} {a1 : Int32} {a2 : Int32} {a3 : Int32} {a4 : Int32} {r : zmem} (hr : m_X11_addGap fu σ a1 a2 a3 a4 = some r) : zCt (zQV g r) l g yX11_addGap cX11_addGap 5 none 2 53 [.ref (zA g 103), .int a1, .int a2, .int a3, .int a4] σ := by
  refine zopen (by decide) (Nat.le_of_ble_eq_true rfl) ?_
  intro p e s m below meth c M ls hl I
  have M : zMC RX11 cX11_addGap 5 none g p m c s ([.ref (zA g 103), .int a1, .int a2, .int a3, .int a4] : List Value).toArray meth := M
  have hl : lv_has ls 5 [(0, .ref (zA g 103)), (1, .int a1), (2, .int a2), (3, .int a3), (4, .int a4)] := hl
  generalize ([.ref (zA g 103), .int a1, .int a2, .int a3, .int a4] : List Value).toArray = args at M ⊢
  have hx := M.1.1
  have hb := M.1.2.1
  unfold m_X11_addGap at hr
  refine lv_aload_n hx hb dX11_addGap_0 rfl (lv_at hl 0 rfl) ?_
  refine zgetR (j := 117) M I zc_103 zfl_X11_49 dX11_addGap_1 rfl ?_
  refine lv_iconst (v := (2 : Int32)) hx hb dX11_addGap_4 (by decide) ?_
  refine lv_aload_n hx hb dX11_addGap_5 rfl (lv_at hl 0 rfl) ?_
  refine zgetI M I zc_103 zfl_X11_122 dX11_addGap_6 ?_
  refine lv_imul hx hb dX11_addGap_9 ?_
  refine lv_iload_n hx hb dX11_addGap_10 rfl (lv_at hl 1 rfl) ?_
  obtain ⟨s1, e_s1, hr⟩ := zb_some hr
  refine ziast M I zc_117 e_s1 dX11_addGap_11 (fun H locs I => ?_)
  refine lv_aload_n hx hb dX11_addGap_12 rfl (lv_at hl 0 rfl) ?_
  refine zgetR (j := 117) M I zc_103 zfl_X11_49 dX11_addGap_13 rfl ?_
  refine lv_iconst (v := (2 : Int32)) hx hb dX11_addGap_16 (by decide) ?_
  refine lv_aload_n hx hb dX11_addGap_17 rfl (lv_at hl 0 rfl) ?_
  refine zgetI M I zc_103 zfl_X11_122 dX11_addGap_18 ?_
  refine lv_imul hx hb dX11_addGap_21 ?_
  refine lv_iconst (v := (1 : Int32)) hx hb dX11_addGap_22 (by decide) ?_
  refine lv_iadd hx hb dX11_addGap_23 ?_
  refine lv_iload_n hx hb dX11_addGap_24 rfl (lv_at hl 3 rfl) ?_
  obtain ⟨s2, e_s2, hr⟩ := zb_some hr
  refine ziast M I zc_117 e_s2 dX11_addGap_25 (fun H locs I => ?_)
  refine lv_aload_n hx hb dX11_addGap_26 rfl (lv_at hl 0 rfl) ?_
  refine zgetR (j := 118) M I zc_103 zfl_X11_52 dX11_addGap_27 rfl ?_
  refine lv_iconst (v := (2 : Int32)) hx hb dX11_addGap_30 (by decide) ?_
  refine lv_aload_n hx hb dX11_addGap_31 rfl (lv_at hl 0 rfl) ?_
  refine zgetI M I zc_103 zfl_X11_122 dX11_addGap_32 ?_
  refine lv_imul hx hb dX11_addGap_35 ?_
  refine lv_iload_n hx hb dX11_addGap_36 rfl (lv_at hl 2 rfl) ?_
  obtain ⟨s3, e_s3, hr⟩ := zb_some hr
  refine ziast M I zc_118 e_s3 dX11_addGap_37 (fun H locs I => ?_)
  refine lv_aload_n hx hb dX11_addGap_38 rfl (lv_at hl 0 rfl) ?_
  refine zgetR (j := 118) M I zc_103 zfl_X11_52 dX11_addGap_39 rfl ?_
  refine lv_iconst (v := (2 : Int32)) hx hb dX11_addGap_42 (by decide) ?_
  refine lv_aload_n hx hb dX11_addGap_43 rfl (lv_at hl 0 rfl) ?_
  refine zgetI M I zc_103 zfl_X11_122 dX11_addGap_44 ?_
  refine lv_imul hx hb dX11_addGap_47 ?_
  refine lv_iconst (v := (1 : Int32)) hx hb dX11_addGap_48 (by decide) ?_
  refine lv_iadd hx hb dX11_addGap_49 ?_
  refine lv_iload hx hb dX11_addGap_50 (lv_at hl 4 rfl) ?_
  obtain ⟨s4, e_s4, hr⟩ := zb_some hr
  refine ziast M I zc_118 e_s4 dX11_addGap_52 (fun H locs I => ?_)
  refine lv_aload_n hx hb dX11_addGap_53 rfl (lv_at hl 0 rfl) ?_
  refine lv_iload_n hx hb dX11_addGap_54 rfl (lv_at hl 1 rfl) ?_
  refine lv_iload_n hx hb dX11_addGap_55 rfl (lv_at hl 2 rfl) ?_
  refine lv_iload_n hx hb dX11_addGap_56 rfl (lv_at hl 3 rfl) ?_
  refine lv_iload hx hb dX11_addGap_57 (lv_at hl 4 rfl) ?_
  refine lv_iload_n hx hb dX11_addGap_59 rfl (lv_at hl 2 rfl) ?_
  refine lv_iload hx hb dX11_addGap_60 (lv_at hl 4 rfl) ?_
  refine lv_aload_n hx hb dX11_addGap_62 rfl (lv_at hl 0 rfl) ?_
  refine zgetR (j := 104) M I zc_103 zfl_X11_7 dX11_addGap_63 rfl ?_
  refine lv_iconst (v := (3 : Int32)) hx hb dX11_addGap_66 (by decide) ?_
  obtain ⟨x5, e_x5, hr⟩ := zb_some hr
  refine ziald M I zc_104 e_x5 dX11_addGap_67 ?_
  obtain ⟨x6, e_x6, hr⟩ := zb_some hr
  refine zcallI M I (zrunS (as := [.int a2, .int a4, .int x5]) M I (c_X11_bandFor l g fu e_x6) zls_X11_125 ⟨Nat.le_of_ble_eq_true rfl, Nat.le_of_ble_eq_true rfl⟩ ⟨Nat.zero_le _, Nat.zero_le _⟩ rfl rfl (Nat.le_of_ble_eq_true rfl) hl.1 dX11_addGap_68) (fun H locs I => ?_)
  obtain ⟨x7, e_x7, hr⟩ := zb_some hr
  refine zcallU M I (zrunV (as := [.int a1, .int a2, .int a3, .int a4, .int x6]) M I (c_X11_layLeast l g fu e_x7) zc_103 zK11.1 (by decide) zlv_X11_129 ⟨Nat.le_of_ble_eq_true rfl, Nat.le_of_ble_eq_true rfl⟩ ⟨Nat.zero_le _, Nat.zero_le _⟩ rfl rfl (Nat.le_of_ble_eq_true rfl) hl.1 dX11_addGap_71) (fun H locs I => ?_)
  refine lv_aload_n hx hb dX11_addGap_74 rfl (lv_at hl 0 rfl) ?_
  refine zgetR (j := 119) M I zc_103 zfl_X11_55 dX11_addGap_75 rfl ?_
  refine lv_aload_n hx hb dX11_addGap_78 rfl (lv_at hl 0 rfl) ?_
  refine zgetI M I zc_103 zfl_X11_122 dX11_addGap_79 ?_
  refine lv_aload_n hx hb dX11_addGap_82 rfl (lv_at hl 0 rfl) ?_
  refine zgetR (j := 121) M I zc_103 zfl_X11_61 dX11_addGap_83 rfl ?_
  refine lv_bipush (v := (25 : Int32)) hx hb dX11_addGap_86 (by decide) ?_
  refine lv_iload_n hx hb dX11_addGap_88 rfl (lv_at hl 2 rfl) ?_
  refine lv_imul hx hb dX11_addGap_89 ?_
  refine lv_iload hx hb dX11_addGap_90 (lv_at hl 4 rfl) ?_
  refine lv_iadd hx hb dX11_addGap_92 ?_
  obtain ⟨x8, e_x8, hr⟩ := zb_some hr
  refine ziald M I zc_121 e_x8 dX11_addGap_93 ?_
  obtain ⟨s9, e_s9, hr⟩ := zb_some hr
  refine ziast M I zc_119 e_s9 dX11_addGap_94 (fun H locs I => ?_)
  refine lv_aload_n hx hb dX11_addGap_95 rfl (lv_at hl 0 rfl) ?_
  refine lv_iload_n hx hb dX11_addGap_96 rfl (lv_at hl 1 rfl) ?_
  refine lv_iload_n hx hb dX11_addGap_97 rfl (lv_at hl 2 rfl) ?_
  refine lv_iload_n hx hb dX11_addGap_98 rfl (lv_at hl 3 rfl) ?_
  refine lv_iload hx hb dX11_addGap_99 (lv_at hl 4 rfl) ?_
  obtain ⟨x10, e_x10, hr⟩ := zb_some hr
  refine zcallU M I (zrunV (as := [.int a1, .int a2, .int a3, .int a4]) M I (c_X11_goBack l g fu e_x10) zc_103 zK11.1 (by decide) zlv_X11_133 ⟨Nat.le_of_ble_eq_true rfl, Nat.le_of_ble_eq_true rfl⟩ ⟨Nat.zero_le _, Nat.zero_le _⟩ rfl rfl (Nat.le_of_ble_eq_true rfl) hl.1 dX11_addGap_101) (fun H locs I => ?_)
  refine lv_aload_n hx hb dX11_addGap_104 rfl (lv_at hl 0 rfl) ?_
  refine lv_dup hx hb dX11_addGap_105 rfl ?_
  refine zgetI M I zc_103 zfl_X11_122 dX11_addGap_106 ?_
  refine lv_iconst (v := (1 : Int32)) hx hb dX11_addGap_109 (by decide) ?_
  refine lv_iadd hx hb dX11_addGap_110 ?_
  refine zputI M I zc_103 zfw_X11_122 dX11_addGap_111 (fun H locs I => ?_)
  obtain rfl := Option.some.inj hr
  exact zretV M I dX11_addGap_114
def l_X11_layAll_11 (fu : Nat) : Nat → Int32 → zmem → Option (zmem)
  | 0, _, _ => none
  | n + 1, v1, σ => (if (48 : Int32) ≤ v1 then some σ else (zwr σ 120 v1 (-1 : Int32)).bind fun s2 => l_X11_layAll_11 fu n (v1 + 1) s2)
set_option maxHeartbeats 4000000 in
set_option maxRecDepth 100000 in
theorem k_X11_layAll_11 {l : Launch} {g : zgeo} {fu : Nat} {p : Program} {e : Env} {s : State} {m : MethodId} {args : Array Value} {below : List Frame} {meth : Method} {c : Code} (M : zMC RX11 cX11_layAll 7 none g p m c s args meth) {Q : State → Prop} : ∀ (n : Nat) (v1 : Int32) (σ : zmem) (o : zmem), l_X11_layAll_11 fu n v1 σ = some o → ∀ (ls : Array Slot) (H : Heap) (locs : List Loc), lv_has ls 7 [(0, .ref (zA g 103)), (1, .int v1)] → zIV g σ (zAA g) s.heap H locs → (∀ (ls : Array Slot) (H : Heap) (locs : List Loc), lv_has ls 7 [(0, .ref (zA g 103))] → zIV g o (zAA g) s.heap H locs → W p l e (zrm 5 121) s m args below meth c H locs 0 0 Q (F0 m 30 ls [])) → W p l e (zrm 5 121) s m args below meth c H locs 0 0 Q (F0 m 11 ls []) := by
  have hx := M.1.1
  have hb := M.1.2.1
  intro n
  induction n with
  | zero =>
    intro v1 σ o hr ls H locs hl I KF
    have hr : (none : Option (zmem)) = some o := hr
    cases hr
  | succ n ih =>
    intro v1 σ o hr ls H locs hl I KF
    rw [l_X11_layAll_11] at hr
    refine lv_iload_n hx hb dX11_layAll_11 rfl (lv_at hl 1 rfl) ?_
    refine lv_bipush (v := (48 : Int32)) hx hb dX11_layAll_12 (by decide) ?_
    refine lv_icmp_ge (tgt := 30) hx hb dX11_layAll_14 (by decide) (fun c3 => ?_) (fun c3 => ?_)
    · replace hr := zif_t hr c3
      obtain rfl := Option.some.inj hr
      exact KF ls _ _ (lv_sub hl [0] rfl) I
    · replace hr := zif_f hr c3
      refine lv_aload_n hx hb dX11_layAll_17 rfl (lv_at hl 0 rfl) ?_
      refine zgetR (j := 120) M I zc_103 zfl_X11_58 dX11_layAll_18 rfl ?_
      refine lv_iload_n hx hb dX11_layAll_21 rfl (lv_at hl 1 rfl) ?_
      refine lv_iconst (v := (-1 : Int32)) hx hb dX11_layAll_22 (by decide) ?_
      obtain ⟨s2, e_s2, hr⟩ := zb_some hr
      refine ziast M I zc_120 e_s2 dX11_layAll_23 (fun H locs I => ?_)
      refine lv_iinc (lv' := [(1, .int (v1 + 1)), (0, .ref (zA g 103))]) (k := 1) (v := (v1 + 1)) hx hb dX11_layAll_24 hl rfl (zi_1 _) (by decide) rfl (fun ls hl => ?_)
      refine lv_goto (tgt := 11) hx hb dX11_layAll_27 (by decide) ?_
      exact ih _ _  _ hr ls _ _ (lv_sub hl [1, 0] rfl) I KF
def l_X11_layAll_101 (fu : Nat) (a3 : Int32) : Nat → Int32 → zmem → Option (zmem)
  | 0, _, _ => none
  | n + 1, v6, σ => (zrd σ 104 (0 : Int32)).bind fun x10 => (if x10 ≤ v6 then some σ else (zrd σ 116 a3).bind fun x11 => (zrd σ 109 x11).bind fun x12 => (zrd σ 116 a3).bind fun x13 => (zrd σ 110 x13).bind fun x14 => (m_X11_lineUp fu σ (x12 + v6) (x14 + v6)).bind fun x15 => l_X11_layAll_101 fu a3 n (v6 + 1) x15)
set_option maxHeartbeats 4000000 in
set_option maxRecDepth 100000 in
theorem k_X11_layAll_101 {l : Launch} {g : zgeo} {fu : Nat} {p : Program} {e : Env} {s : State} {m : MethodId} {args : Array Value} {below : List Frame} {meth : Method} {c : Code} (M : zMC RX11 cX11_layAll 7 none g p m c s args meth) {a3 : Int32} {Q : State → Prop} : ∀ (n : Nat) (v6 : Int32) (σ : zmem) (o : zmem), l_X11_layAll_101 fu a3 n v6 σ = some o → ∀ (ls : Array Slot) (H : Heap) (locs : List Loc), lv_has ls 7 [(0, .ref (zA g 103)), (3, .int a3), (6, .int v6)] → zIV g σ (zAA g) s.heap H locs → (∀ (ls : Array Slot) (H : Heap) (locs : List Loc), lv_has ls 7 [(0, .ref (zA g 103)), (3, .int a3)] → zIV g o (zAA g) s.heap H locs → W p l e (zrm 5 121) s m args below meth c H locs 0 0 Q (F0 m 150 ls [])) → W p l e (zrm 5 121) s m args below meth c H locs 0 0 Q (F0 m 101 ls []) := by
  have hx := M.1.1
  have hb := M.1.2.1
  intro n
  induction n with
  | zero =>
    intro v6 σ o hr ls H locs hl I KF
    have hr : (none : Option (zmem)) = some o := hr
    cases hr
  | succ n ih =>
    intro v6 σ o hr ls H locs hl I KF
    rw [l_X11_layAll_101] at hr
    refine lv_iload hx hb dX11_layAll_101 (lv_at hl 2 rfl) ?_
    refine lv_aload_n hx hb dX11_layAll_103 rfl (lv_at hl 0 rfl) ?_
    refine zgetR (j := 104) M I zc_103 zfl_X11_7 dX11_layAll_104 rfl ?_
    refine lv_iconst (v := (0 : Int32)) hx hb dX11_layAll_107 (by decide) ?_
    obtain ⟨x10, e_x10, hr⟩ := zb_some hr
    refine ziald M I zc_104 e_x10 dX11_layAll_108 ?_
    refine lv_icmp_ge (tgt := 150) hx hb dX11_layAll_109 (by decide) (fun c16 => ?_) (fun c16 => ?_)
    · replace hr := zif_t hr c16
      obtain rfl := Option.some.inj hr
      exact KF ls _ _ (lv_sub hl [0, 1] rfl) I
    · replace hr := zif_f hr c16
      refine lv_aload_n hx hb dX11_layAll_112 rfl (lv_at hl 0 rfl) ?_
      refine lv_aload_n hx hb dX11_layAll_113 rfl (lv_at hl 0 rfl) ?_
      refine zgetR (j := 109) M I zc_103 zfl_X11_25 dX11_layAll_114 rfl ?_
      refine lv_aload_n hx hb dX11_layAll_117 rfl (lv_at hl 0 rfl) ?_
      refine zgetR (j := 116) M I zc_103 zfl_X11_46 dX11_layAll_118 rfl ?_
      refine lv_iload_n hx hb dX11_layAll_121 rfl (lv_at hl 1 rfl) ?_
      obtain ⟨x11, e_x11, hr⟩ := zb_some hr
      refine ziald M I zc_116 e_x11 dX11_layAll_122 ?_
      obtain ⟨x12, e_x12, hr⟩ := zb_some hr
      refine ziald M I zc_109 e_x12 dX11_layAll_123 ?_
      refine lv_iload hx hb dX11_layAll_124 (lv_at hl 2 rfl) ?_
      refine lv_iadd hx hb dX11_layAll_126 ?_
      refine lv_aload_n hx hb dX11_layAll_127 rfl (lv_at hl 0 rfl) ?_
      refine zgetR (j := 110) M I zc_103 zfl_X11_28 dX11_layAll_128 rfl ?_
      refine lv_aload_n hx hb dX11_layAll_131 rfl (lv_at hl 0 rfl) ?_
      refine zgetR (j := 116) M I zc_103 zfl_X11_46 dX11_layAll_132 rfl ?_
      refine lv_iload_n hx hb dX11_layAll_135 rfl (lv_at hl 1 rfl) ?_
      obtain ⟨x13, e_x13, hr⟩ := zb_some hr
      refine ziald M I zc_116 e_x13 dX11_layAll_136 ?_
      obtain ⟨x14, e_x14, hr⟩ := zb_some hr
      refine ziald M I zc_110 e_x14 dX11_layAll_137 ?_
      refine lv_iload hx hb dX11_layAll_138 (lv_at hl 2 rfl) ?_
      refine lv_iadd hx hb dX11_layAll_140 ?_
      obtain ⟨x15, e_x15, hr⟩ := zb_some hr
      refine zcallU M I (zrunV (as := [.int (x12 + v6), .int (x14 + v6)]) M I (c_X11_lineUp l g fu e_x15) zc_103 zK11.1 (by decide) zlv_X11_118 ⟨Nat.le_of_ble_eq_true rfl, Nat.le_of_ble_eq_true rfl⟩ ⟨Nat.zero_le _, Nat.zero_le _⟩ rfl rfl (Nat.le_of_ble_eq_true rfl) hl.1 dX11_layAll_141) (fun H locs I => ?_)
      refine lv_iinc (lv' := [(6, .int (v6 + 1)), (0, .ref (zA g 103)), (3, .int a3)]) (k := 2) (v := (v6 + 1)) hx hb dX11_layAll_144 hl rfl (zi_1 _) (by decide) rfl (fun ls hl => ?_)
      refine lv_goto (tgt := 101) hx hb dX11_layAll_147 (by decide) ?_
      exact ih _ _  _ hr ls _ _ (lv_sub hl [1, 2, 0] rfl) I KF
def l_X11_layAll_36 (fu : Nat) : Nat → Int32 → Int32 → Int32 → zmem → Option (Int32 × Int32 × zmem)
  | 0, _, _, _, _ => none
  | n + 1, v1, v2, v3, σ => (if (σ.1 103 18) ≤ v3 then some (v1, v2, σ) else (zrd σ 116 v3).bind fun x5 => (zrd σ 109 x5).bind fun x6 => (zrd σ 116 v3).bind fun x7 => (zrd σ 110 x7).bind fun x8 => ((if v3 = 0 then (m_X11_addGap fu σ v1 (x6 - v1) v2 (x8 - v2)).bind fun x24 => some x24 else (if 0 < (x6 - v1) then (m_X11_addGap fu σ v1 (x6 - v1) v2 (x8 - v2)).bind fun x25 => some x25 else (if (x8 - v2) ≤ 0 then some σ else (m_X11_addGap fu σ v1 (x6 - v1) v2 (x8 - v2)).bind fun x26 => some x26))) : Option (zmem)).bind fun x9 => (l_X11_layAll_101 fu v3 fu (0 : Int32) x9).bind fun x17 => (zrd x17 116 v3).bind fun x18 => (zrd x17 109 x18).bind fun x19 => (zrd x17 104 (0 : Int32)).bind fun x20 => (zrd x17 116 v3).bind fun x21 => (zrd x17 110 x21).bind fun x22 => (zrd x17 104 (0 : Int32)).bind fun x23 => l_X11_layAll_36 fu n (x19 + x20) (x22 + x23) (v3 + 1) x17)
set_option maxHeartbeats 4000000 in
set_option maxRecDepth 100000 in
theorem k_X11_layAll_36 {l : Launch} {g : zgeo} {fu : Nat} {p : Program} {e : Env} {s : State} {m : MethodId} {args : Array Value} {below : List Frame} {meth : Method} {c : Code} (M : zMC RX11 cX11_layAll 7 none g p m c s args meth) {Q : State → Prop} : ∀ (n : Nat) (v1 : Int32) (v2 : Int32) (v3 : Int32) (σ : zmem) (o : Int32 × Int32 × zmem), l_X11_layAll_36 fu n v1 v2 v3 σ = some o → ∀ (ls : Array Slot) (H : Heap) (locs : List Loc), lv_has ls 7 [(0, .ref (zA g 103)), (1, .int v1), (2, .int v2), (3, .int v3)] → zIV g σ (zAA g) s.heap H locs → (∀ (ls : Array Slot) (H : Heap) (locs : List Loc), lv_has ls 7 [(0, .ref (zA g 103)), (1, .int o.1), (2, .int o.2.1)] → zIV g o.2.2 (zAA g) s.heap H locs → W p l e (zrm 5 121) s m args below meth c H locs 0 0 Q (F0 m 194 ls [])) → W p l e (zrm 5 121) s m args below meth c H locs 0 0 Q (F0 m 36 ls []) := by
  have hx := M.1.1
  have hb := M.1.2.1
  intro n
  induction n with
  | zero =>
    intro v1 v2 v3 σ o hr ls H locs hl I KF
    have hr : (none : Option (Int32 × Int32 × zmem)) = some o := hr
    cases hr
  | succ n ih =>
    intro v1 v2 v3 σ o hr ls H locs hl I KF
    rw [l_X11_layAll_36] at hr
    refine lv_iload_n hx hb dX11_layAll_36 rfl (lv_at hl 3 rfl) ?_
    refine lv_aload_n hx hb dX11_layAll_37 rfl (lv_at hl 0 rfl) ?_
    refine zgetI M I zc_103 zfl_X11_114 dX11_layAll_38 ?_
    refine lv_icmp_ge (tgt := 194) hx hb dX11_layAll_41 (by decide) (fun c30 => ?_) (fun c30 => ?_)
    · replace hr := zif_t hr c30
      obtain rfl := Option.some.inj hr
      exact KF ls _ _ (lv_sub hl [0, 1, 2] rfl) I
    · replace hr := zif_f hr c30
      refine lv_aload_n hx hb dX11_layAll_44 rfl (lv_at hl 0 rfl) ?_
      refine zgetR (j := 109) M I zc_103 zfl_X11_25 dX11_layAll_45 rfl ?_
      refine lv_aload_n hx hb dX11_layAll_48 rfl (lv_at hl 0 rfl) ?_
      refine zgetR (j := 116) M I zc_103 zfl_X11_46 dX11_layAll_49 rfl ?_
      refine lv_iload_n hx hb dX11_layAll_52 rfl (lv_at hl 3 rfl) ?_
      obtain ⟨x5, e_x5, hr⟩ := zb_some hr
      refine ziald M I zc_116 e_x5 dX11_layAll_53 ?_
      obtain ⟨x6, e_x6, hr⟩ := zb_some hr
      refine ziald M I zc_109 e_x6 dX11_layAll_54 ?_
      refine lv_iload_n hx hb dX11_layAll_55 rfl (lv_at hl 1 rfl) ?_
      refine lv_isub hx hb dX11_layAll_56 ?_
      refine lv_istore (lv' := [(4, .int (x6 - v1)), (0, .ref (zA g 103)), (1, .int v1), (2, .int v2), (3, .int v3)]) hx hb dX11_layAll_57 hl (by decide) rfl (fun ls hl => ?_)
      refine lv_aload_n hx hb dX11_layAll_59 rfl (lv_at hl 1 rfl) ?_
      refine zgetR (j := 110) M I zc_103 zfl_X11_28 dX11_layAll_60 rfl ?_
      refine lv_aload_n hx hb dX11_layAll_63 rfl (lv_at hl 1 rfl) ?_
      refine zgetR (j := 116) M I zc_103 zfl_X11_46 dX11_layAll_64 rfl ?_
      refine lv_iload_n hx hb dX11_layAll_67 rfl (lv_at hl 4 rfl) ?_
      obtain ⟨x7, e_x7, hr⟩ := zb_some hr
      refine ziald M I zc_116 e_x7 dX11_layAll_68 ?_
      obtain ⟨x8, e_x8, hr⟩ := zb_some hr
      refine ziald M I zc_110 e_x8 dX11_layAll_69 ?_
      refine lv_iload_n hx hb dX11_layAll_70 rfl (lv_at hl 3 rfl) ?_
      refine lv_isub hx hb dX11_layAll_71 ?_
      refine lv_istore (lv' := [(5, .int (x8 - v2)), (4, .int (x6 - v1)), (0, .ref (zA g 103)), (1, .int v1), (2, .int v2), (3, .int v3)]) hx hb dX11_layAll_72 hl (by decide) rfl (fun ls hl => ?_)
      refine lv_iload_n hx hb dX11_layAll_74 rfl (lv_at hl 5 rfl) ?_
      obtain ⟨x9, e_x9, hr⟩ := zb_some hr
      have K_x9 : ∀ (ls : Array Slot) (H : Heap) (locs : List Loc), lv_has ls 7 [(0, .ref (zA g 103)), (3, .int v3)] → zIV g x9 (zAA g) s.heap H locs → W p l e (zrm 5 121) s m args below meth c H locs 0 0 Q (F0 m 98 ls []) := by
        intro ls H locs hl I
        refine lv_iconst (v := (0 : Int32)) hx hb dX11_layAll_98 (by decide) ?_
        refine lv_istore (lv' := [(6, .int (0 : Int32)), (0, .ref (zA g 103)), (3, .int v3)]) hx hb dX11_layAll_99 hl (by decide) rfl (fun ls hl => ?_)
        obtain ⟨x17, e_x17, hr⟩ := zb_some hr
        refine k_X11_layAll_101 M  fu _ _  _ e_x17 ls _ _ (lv_sub hl [1, 2, 0] rfl) I (fun ls H locs hl I => ?_)
        refine lv_aload_n hx hb dX11_layAll_150 rfl (lv_at hl 0 rfl) ?_
        refine zgetR (j := 109) M I zc_103 zfl_X11_25 dX11_layAll_151 rfl ?_
        refine lv_aload_n hx hb dX11_layAll_154 rfl (lv_at hl 0 rfl) ?_
        refine zgetR (j := 116) M I zc_103 zfl_X11_46 dX11_layAll_155 rfl ?_
        refine lv_iload_n hx hb dX11_layAll_158 rfl (lv_at hl 1 rfl) ?_
        obtain ⟨x18, e_x18, hr⟩ := zb_some hr
        refine ziald M I zc_116 e_x18 dX11_layAll_159 ?_
        obtain ⟨x19, e_x19, hr⟩ := zb_some hr
        refine ziald M I zc_109 e_x19 dX11_layAll_160 ?_
        refine lv_aload_n hx hb dX11_layAll_161 rfl (lv_at hl 0 rfl) ?_
        refine zgetR (j := 104) M I zc_103 zfl_X11_7 dX11_layAll_162 rfl ?_
        refine lv_iconst (v := (0 : Int32)) hx hb dX11_layAll_165 (by decide) ?_
        obtain ⟨x20, e_x20, hr⟩ := zb_some hr
        refine ziald M I zc_104 e_x20 dX11_layAll_166 ?_
        refine lv_iadd hx hb dX11_layAll_167 ?_
        refine lv_istore_n (lv' := [(1, .int (x19 + x20)), (0, .ref (zA g 103)), (3, .int v3)]) hx hb dX11_layAll_168 rfl hl (by decide) rfl (fun ls hl => ?_)
        refine lv_aload_n hx hb dX11_layAll_169 rfl (lv_at hl 1 rfl) ?_
        refine zgetR (j := 110) M I zc_103 zfl_X11_28 dX11_layAll_170 rfl ?_
        refine lv_aload_n hx hb dX11_layAll_173 rfl (lv_at hl 1 rfl) ?_
        refine zgetR (j := 116) M I zc_103 zfl_X11_46 dX11_layAll_174 rfl ?_
        refine lv_iload_n hx hb dX11_layAll_177 rfl (lv_at hl 2 rfl) ?_
        obtain ⟨x21, e_x21, hr⟩ := zb_some hr
        refine ziald M I zc_116 e_x21 dX11_layAll_178 ?_
        obtain ⟨x22, e_x22, hr⟩ := zb_some hr
        refine ziald M I zc_110 e_x22 dX11_layAll_179 ?_
        refine lv_aload_n hx hb dX11_layAll_180 rfl (lv_at hl 1 rfl) ?_
        refine zgetR (j := 104) M I zc_103 zfl_X11_7 dX11_layAll_181 rfl ?_
        refine lv_iconst (v := (0 : Int32)) hx hb dX11_layAll_184 (by decide) ?_
        obtain ⟨x23, e_x23, hr⟩ := zb_some hr
        refine ziald M I zc_104 e_x23 dX11_layAll_185 ?_
        refine lv_iadd hx hb dX11_layAll_186 ?_
        refine lv_istore_n (lv' := [(2, .int (x22 + x23)), (1, .int (x19 + x20)), (0, .ref (zA g 103)), (3, .int v3)]) hx hb dX11_layAll_187 rfl hl (by decide) rfl (fun ls hl => ?_)
        refine lv_iinc (lv' := [(3, .int (v3 + 1)), (2, .int (x22 + x23)), (1, .int (x19 + x20)), (0, .ref (zA g 103))]) (k := 3) (v := (v3 + 1)) hx hb dX11_layAll_188 hl rfl (zi_1 _) (by decide) rfl (fun ls hl => ?_)
        refine lv_goto (tgt := 36) hx hb dX11_layAll_191 (by decide) ?_
        exact ih _ _ _ _  _ hr ls _ _ (lv_sub hl [3, 2, 1, 0] rfl) I KF
      refine lv_if_eq (tgt := 88) hx hb dX11_layAll_75 (by decide) (fun c29 => ?_) (fun c29 => ?_)
      · replace e_x9 := zif_t e_x9 c29
        refine lv_aload_n hx hb dX11_layAll_88 rfl (lv_at hl 2 rfl) ?_
        refine lv_iload_n hx hb dX11_layAll_89 rfl (lv_at hl 3 rfl) ?_
        refine lv_iload hx hb dX11_layAll_90 (lv_at hl 1 rfl) ?_
        refine lv_iload_n hx hb dX11_layAll_92 rfl (lv_at hl 4 rfl) ?_
        refine lv_iload hx hb dX11_layAll_93 (lv_at hl 0 rfl) ?_
        obtain ⟨x24, e_x24, e_x9⟩ := zb_some e_x9
        refine zcallU M I (zrunV (as := [.int v1, .int (x6 - v1), .int v2, .int (x8 - v2)]) M I (c_X11_addGap l g fu e_x24) zc_103 zK11.1 (by decide) zlv_X11_140 ⟨Nat.le_of_ble_eq_true rfl, Nat.le_of_ble_eq_true rfl⟩ ⟨Nat.zero_le _, Nat.zero_le _⟩ rfl rfl (Nat.le_of_ble_eq_true rfl) hl.1 dX11_layAll_95) (fun H locs I => ?_)
        obtain rfl := Option.some.inj e_x9
        exact K_x9 ls _ _ (lv_sub hl [2, 5] rfl) I
      · replace e_x9 := zif_f e_x9 c29
        refine lv_iload hx hb dX11_layAll_78 (lv_at hl 1 rfl) ?_
        refine lv_if_gt (tgt := 88) hx hb dX11_layAll_80 (by decide) (fun c28 => ?_) (fun c28 => ?_)
        · replace e_x9 := zif_t e_x9 c28
          refine lv_aload_n hx hb dX11_layAll_88 rfl (lv_at hl 2 rfl) ?_
          refine lv_iload_n hx hb dX11_layAll_89 rfl (lv_at hl 3 rfl) ?_
          refine lv_iload hx hb dX11_layAll_90 (lv_at hl 1 rfl) ?_
          refine lv_iload_n hx hb dX11_layAll_92 rfl (lv_at hl 4 rfl) ?_
          refine lv_iload hx hb dX11_layAll_93 (lv_at hl 0 rfl) ?_
          obtain ⟨x25, e_x25, e_x9⟩ := zb_some e_x9
          refine zcallU M I (zrunV (as := [.int v1, .int (x6 - v1), .int v2, .int (x8 - v2)]) M I (c_X11_addGap l g fu e_x25) zc_103 zK11.1 (by decide) zlv_X11_140 ⟨Nat.le_of_ble_eq_true rfl, Nat.le_of_ble_eq_true rfl⟩ ⟨Nat.zero_le _, Nat.zero_le _⟩ rfl rfl (Nat.le_of_ble_eq_true rfl) hl.1 dX11_layAll_95) (fun H locs I => ?_)
          obtain rfl := Option.some.inj e_x9
          exact K_x9 ls _ _ (lv_sub hl [2, 5] rfl) I
        · replace e_x9 := zif_f e_x9 c28
          refine lv_iload hx hb dX11_layAll_83 (lv_at hl 0 rfl) ?_
          refine lv_if_le (tgt := 98) hx hb dX11_layAll_85 (by decide) (fun c27 => ?_) (fun c27 => ?_)
          · replace e_x9 := zif_t e_x9 c27
            obtain rfl := Option.some.inj e_x9
            exact K_x9 ls _ _ (lv_sub hl [2, 5] rfl) I
          · replace e_x9 := zif_f e_x9 c27
            refine lv_aload_n hx hb dX11_layAll_88 rfl (lv_at hl 2 rfl) ?_
            refine lv_iload_n hx hb dX11_layAll_89 rfl (lv_at hl 3 rfl) ?_
            refine lv_iload hx hb dX11_layAll_90 (lv_at hl 1 rfl) ?_
            refine lv_iload_n hx hb dX11_layAll_92 rfl (lv_at hl 4 rfl) ?_
            refine lv_iload hx hb dX11_layAll_93 (lv_at hl 0 rfl) ?_
            obtain ⟨x26, e_x26, e_x9⟩ := zb_some e_x9
            refine zcallU M I (zrunV (as := [.int v1, .int (x6 - v1), .int v2, .int (x8 - v2)]) M I (c_X11_addGap l g fu e_x26) zc_103 zK11.1 (by decide) zlv_X11_140 ⟨Nat.le_of_ble_eq_true rfl, Nat.le_of_ble_eq_true rfl⟩ ⟨Nat.zero_le _, Nat.zero_le _⟩ rfl rfl (Nat.le_of_ble_eq_true rfl) hl.1 dX11_layAll_95) (fun H locs I => ?_)
            obtain rfl := Option.some.inj e_x9
            exact K_x9 ls _ _ (lv_sub hl [2, 5] rfl) I
def m_X11_layAll (fu : Nat) (σ : zmem) : Option (zmem) := (m_X11_layChain fu σ).bind fun x1 => (l_X11_layAll_11 fu fu (0 : Int32) (zst x1 103 22 (0 : Int32))).bind fun x4 => (l_X11_layAll_36 fu fu (0 : Int32) (0 : Int32) (0 : Int32) x4).bind fun x31 => (m_X11_signs fu x31.2.2 (0 : Int32)).bind fun x32 => (m_X11_signs fu x31.2.2 (1 : Int32)).bind fun x33 => (m_X11_addGap fu x31.2.2 x31.1 (x32 - x31.1) x31.2.1 (x33 - x31.2.1)).bind fun x34 => some x34
set_option maxHeartbeats 4000000 in
set_option maxRecDepth 100000 in
theorem c_X11_layAll (l : Launch) (g : zgeo) (fu : Nat) {σ : zmem} {r : zmem} (hr : m_X11_layAll fu σ = some r) : zCt (zQV g r) l g yX11_layAll cX11_layAll 7 none 5 121 [.ref (zA g 103)] σ := by
  refine zopen (by decide) (Nat.le_of_ble_eq_true rfl) ?_
  intro p e s m below meth c M ls hl I
  have M : zMC RX11 cX11_layAll 7 none g p m c s ([.ref (zA g 103)] : List Value).toArray meth := M
  have hl : lv_has ls 7 [(0, .ref (zA g 103))] := hl
  generalize ([.ref (zA g 103)] : List Value).toArray = args at M ⊢
  have hx := M.1.1
  have hb := M.1.2.1
  unfold m_X11_layAll at hr
  refine lv_aload_n hx hb dX11_layAll_0 rfl (lv_at hl 0 rfl) ?_
  obtain ⟨x1, e_x1, hr⟩ := zb_some hr
  refine zcallU M I (zrunV (as := []) M I (c_X11_layChain l g fu e_x1) zc_103 zK11.1 (by decide) zlv_X11_137 ⟨Nat.le_of_ble_eq_true rfl, Nat.le_of_ble_eq_true rfl⟩ ⟨Nat.zero_le _, Nat.zero_le _⟩ rfl rfl (Nat.le_of_ble_eq_true rfl) hl.1 dX11_layAll_1) (fun H locs I => ?_)
  refine lv_aload_n hx hb dX11_layAll_4 rfl (lv_at hl 0 rfl) ?_
  refine lv_iconst (v := (0 : Int32)) hx hb dX11_layAll_5 (by decide) ?_
  refine zputI M I zc_103 zfw_X11_122 dX11_layAll_6 (fun H locs I => ?_)
  refine lv_iconst (v := (0 : Int32)) hx hb dX11_layAll_9 (by decide) ?_
  refine lv_istore_n (lv' := [(1, .int (0 : Int32)), (0, .ref (zA g 103))]) hx hb dX11_layAll_10 rfl hl (by decide) rfl (fun ls hl => ?_)
  obtain ⟨x4, e_x4, hr⟩ := zb_some hr
  refine k_X11_layAll_11 M  fu _ _  _ e_x4 ls _ _ (lv_sub hl [1, 0] rfl) I (fun ls H locs hl I => ?_)
  refine lv_iconst (v := (0 : Int32)) hx hb dX11_layAll_30 (by decide) ?_
  refine lv_istore_n (lv' := [(1, .int (0 : Int32)), (0, .ref (zA g 103))]) hx hb dX11_layAll_31 rfl hl (by decide) rfl (fun ls hl => ?_)
  refine lv_iconst (v := (0 : Int32)) hx hb dX11_layAll_32 (by decide) ?_
  refine lv_istore_n (lv' := [(2, .int (0 : Int32)), (1, .int (0 : Int32)), (0, .ref (zA g 103))]) hx hb dX11_layAll_33 rfl hl (by decide) rfl (fun ls hl => ?_)
  refine lv_iconst (v := (0 : Int32)) hx hb dX11_layAll_34 (by decide) ?_
  refine lv_istore_n (lv' := [(3, .int (0 : Int32)), (2, .int (0 : Int32)), (1, .int (0 : Int32)), (0, .ref (zA g 103))]) hx hb dX11_layAll_35 rfl hl (by decide) rfl (fun ls hl => ?_)
  obtain ⟨x31, e_x31, hr⟩ := zb_some hr
  refine k_X11_layAll_36 M  fu _ _ _ _  _ e_x31 ls _ _ (lv_sub hl [3, 2, 1, 0] rfl) I (fun ls H locs hl I => ?_)
  refine lv_aload_n hx hb dX11_layAll_194 rfl (lv_at hl 0 rfl) ?_
  refine lv_iload_n hx hb dX11_layAll_195 rfl (lv_at hl 1 rfl) ?_
  refine lv_aload_n hx hb dX11_layAll_196 rfl (lv_at hl 0 rfl) ?_
  refine lv_iconst (v := (0 : Int32)) hx hb dX11_layAll_197 (by decide) ?_
  obtain ⟨x32, e_x32, hr⟩ := zb_some hr
  refine zcallI M I (zrunV (as := [.int (0 : Int32)]) M I (c_X11_signs l g fu e_x32) zc_103 zK11.1 (by decide) zlv_X11_85 ⟨Nat.le_of_ble_eq_true rfl, Nat.le_of_ble_eq_true rfl⟩ ⟨Nat.zero_le _, Nat.zero_le _⟩ rfl rfl (Nat.le_of_ble_eq_true rfl) hl.1 dX11_layAll_198) (fun H locs I => ?_)
  refine lv_iload_n hx hb dX11_layAll_201 rfl (lv_at hl 1 rfl) ?_
  refine lv_isub hx hb dX11_layAll_202 ?_
  refine lv_iload_n hx hb dX11_layAll_203 rfl (lv_at hl 2 rfl) ?_
  refine lv_aload_n hx hb dX11_layAll_204 rfl (lv_at hl 0 rfl) ?_
  refine lv_iconst (v := (1 : Int32)) hx hb dX11_layAll_205 (by decide) ?_
  obtain ⟨x33, e_x33, hr⟩ := zb_some hr
  refine zcallI M I (zrunV (as := [.int (1 : Int32)]) M I (c_X11_signs l g fu e_x33) zc_103 zK11.1 (by decide) zlv_X11_85 ⟨Nat.le_of_ble_eq_true rfl, Nat.le_of_ble_eq_true rfl⟩ ⟨Nat.zero_le _, Nat.zero_le _⟩ rfl rfl (Nat.le_of_ble_eq_true rfl) hl.1 dX11_layAll_206) (fun H locs I => ?_)
  refine lv_iload_n hx hb dX11_layAll_209 rfl (lv_at hl 2 rfl) ?_
  refine lv_isub hx hb dX11_layAll_210 ?_
  obtain ⟨x34, e_x34, hr⟩ := zb_some hr
  refine zcallU M I (zrunV (as := [.int x31.1, .int (x32 - x31.1), .int x31.2.1, .int (x33 - x31.2.1)]) M I (c_X11_addGap l g fu e_x34) zc_103 zK11.1 (by decide) zlv_X11_140 ⟨Nat.le_of_ble_eq_true rfl, Nat.le_of_ble_eq_true rfl⟩ ⟨Nat.zero_le _, Nat.zero_le _⟩ rfl rfl (Nat.le_of_ble_eq_true rfl) hl.1 dX11_layAll_211) (fun H locs I => ?_)
  obtain rfl := Option.some.inj hr
  exact zretV M I dX11_layAll_214
def l_X11_costNow_8 (fu : Nat) (σ : zmem) : Nat → Int32 → Int32 → Option (Int32)
  | 0, _, _ => none
  | n + 1, v1, v2 => (if (σ.1 103 22) ≤ v2 then some v1 else (zrd σ 119 v2).bind fun x2 => l_X11_costNow_8 fu σ n (v1 + x2) (v2 + 1))
set_option maxHeartbeats 4000000 in
set_option maxRecDepth 100000 in
theorem k_X11_costNow_8 {l : Launch} {g : zgeo} {fu : Nat} {p : Program} {e : Env} {s : State} {m : MethodId} {args : Array Value} {below : List Frame} {meth : Method} {c : Code} (M : zMC RX11 cX11_costNow 3 (some .int) g p m c s args meth) {σ : zmem} {Q : State → Prop} : ∀ (n : Nat) (v1 : Int32) (v2 : Int32) (o : Int32), l_X11_costNow_8 fu σ n v1 v2 = some o → ∀ (ls : Array Slot) (H : Heap) (locs : List Loc), lv_has ls 3 [(0, .ref (zA g 103)), (1, .int v1), (2, .int v2)] → zIV g σ (zAA g) s.heap H locs → (∀ (ls : Array Slot) (H : Heap) (locs : List Loc), lv_has ls 3 [(1, .int o)] → zIV g σ (zAA g) s.heap H locs → W p l e (zrm 6 147) s m args below meth c H locs 0 0 Q (F0 m 31 ls [])) → W p l e (zrm 6 147) s m args below meth c H locs 0 0 Q (F0 m 8 ls []) := by
  have hx := M.1.1
  have hb := M.1.2.1
  intro n
  induction n with
  | zero =>
    intro v1 v2 o hr ls H locs hl I KF
    have hr : (none : Option (Int32)) = some o := hr
    cases hr
  | succ n ih =>
    intro v1 v2 o hr ls H locs hl I KF
    rw [l_X11_costNow_8] at hr
    refine lv_iload_n hx hb dX11_costNow_8 rfl (lv_at hl 2 rfl) ?_
    refine lv_aload_n hx hb dX11_costNow_9 rfl (lv_at hl 0 rfl) ?_
    refine zgetI M I zc_103 zfl_X11_122 dX11_costNow_10 ?_
    refine lv_icmp_ge (tgt := 31) hx hb dX11_costNow_13 (by decide) (fun c3 => ?_) (fun c3 => ?_)
    · replace hr := zif_t hr c3
      obtain rfl := Option.some.inj hr
      exact KF ls _ _ (lv_sub hl [1] rfl) I
    · replace hr := zif_f hr c3
      refine lv_iload_n hx hb dX11_costNow_16 rfl (lv_at hl 1 rfl) ?_
      refine lv_aload_n hx hb dX11_costNow_17 rfl (lv_at hl 0 rfl) ?_
      refine zgetR (j := 119) M I zc_103 zfl_X11_55 dX11_costNow_18 rfl ?_
      refine lv_iload_n hx hb dX11_costNow_21 rfl (lv_at hl 2 rfl) ?_
      obtain ⟨x2, e_x2, hr⟩ := zb_some hr
      refine ziald M I zc_119 e_x2 dX11_costNow_22 ?_
      refine lv_iadd hx hb dX11_costNow_23 ?_
      refine lv_istore_n (lv' := [(1, .int (v1 + x2)), (0, .ref (zA g 103)), (2, .int v2)]) hx hb dX11_costNow_24 rfl hl (by decide) rfl (fun ls hl => ?_)
      refine lv_iinc (lv' := [(2, .int (v2 + 1)), (1, .int (v1 + x2)), (0, .ref (zA g 103))]) (k := 2) (v := (v2 + 1)) hx hb dX11_costNow_25 hl rfl (zi_1 _) (by decide) rfl (fun ls hl => ?_)
      refine lv_goto (tgt := 8) hx hb dX11_costNow_28 (by decide) ?_
      exact ih _ _  _ hr ls _ _ (lv_sub hl [2, 1, 0] rfl) I KF
def m_X11_costNow (fu : Nat) (σ : zmem) : Option (Int32 × zmem) := (m_X11_layAll fu σ).bind fun x1 => (l_X11_costNow_8 fu x1 fu (0 : Int32) (0 : Int32)).bind fun x4 => some (x4, x1)
set_option maxHeartbeats 4000000 in
set_option maxRecDepth 100000 in
theorem c_X11_costNow (l : Launch) (g : zgeo) (fu : Nat) {σ : zmem} {r : Int32 × zmem} (hr : m_X11_costNow fu σ = some r) : zCt (zQI g r.1 r.2) l g yX11_costNow cX11_costNow 3 (some .int) 6 147 [.ref (zA g 103)] σ := by
  refine zopen (by decide) (Nat.le_of_ble_eq_true rfl) ?_
  intro p e s m below meth c M ls hl I
  have M : zMC RX11 cX11_costNow 3 (some .int) g p m c s ([.ref (zA g 103)] : List Value).toArray meth := M
  have hl : lv_has ls 3 [(0, .ref (zA g 103))] := hl
  generalize ([.ref (zA g 103)] : List Value).toArray = args at M ⊢
  have hx := M.1.1
  have hb := M.1.2.1
  unfold m_X11_costNow at hr
  refine lv_aload_n hx hb dX11_costNow_0 rfl (lv_at hl 0 rfl) ?_
  obtain ⟨x1, e_x1, hr⟩ := zb_some hr
  refine zcallU M I (zrunV (as := []) M I (c_X11_layAll l g fu e_x1) zc_103 zK11.1 (by decide) zlv_X11_143 ⟨Nat.le_of_ble_eq_true rfl, Nat.le_of_ble_eq_true rfl⟩ ⟨Nat.zero_le _, Nat.zero_le _⟩ rfl rfl (Nat.le_of_ble_eq_true rfl) hl.1 dX11_costNow_1) (fun H locs I => ?_)
  refine lv_iconst (v := (0 : Int32)) hx hb dX11_costNow_4 (by decide) ?_
  refine lv_istore_n (lv' := [(1, .int (0 : Int32)), (0, .ref (zA g 103))]) hx hb dX11_costNow_5 rfl hl (by decide) rfl (fun ls hl => ?_)
  refine lv_iconst (v := (0 : Int32)) hx hb dX11_costNow_6 (by decide) ?_
  refine lv_istore_n (lv' := [(2, .int (0 : Int32)), (1, .int (0 : Int32)), (0, .ref (zA g 103))]) hx hb dX11_costNow_7 rfl hl (by decide) rfl (fun ls hl => ?_)
  obtain ⟨x4, e_x4, hr⟩ := zb_some hr
  refine k_X11_costNow_8 M  fu _ _  _ e_x4 ls _ _ (lv_sub hl [2, 1, 0] rfl) I (fun ls H locs hl I => ?_)
  refine lv_iload_n hx hb dX11_costNow_31 rfl (lv_at hl 0 rfl) ?_
  obtain rfl := Option.some.inj hr
  exact zretI M I dX11_costNow_32
def m_X11_freeCost (fu : Nat) (σ : zmem) : Option (Int32 × zmem) := (m_X11_signs fu σ (0 : Int32)).bind fun x1 => (m_X11_signs fu σ (1 : Int32)).bind fun x2 => (m_X11_layLeast fu σ (0 : Int32) x1 (0 : Int32) x2 (24 : Int32)).bind fun x3 => (m_X11_signs fu x3 (0 : Int32)).bind fun x4 => (m_X11_signs fu x3 (1 : Int32)).bind fun x5 => (zrd x3 121 (((25 : Int32) * x4) + x5)).bind fun x6 => some (x6, x3)
set_option maxHeartbeats 4000000 in
set_option maxRecDepth 100000 in
theorem c_X11_freeCost (l : Launch) (g : zgeo) (fu : Nat) {σ : zmem} {r : Int32 × zmem} (hr : m_X11_freeCost fu σ = some r) : zCt (zQI g r.1 r.2) l g yX11_freeCost cX11_freeCost 1 (some .int) 2 53 [.ref (zA g 103)] σ := by
  refine zopen (by decide) (Nat.le_of_ble_eq_true rfl) ?_
  intro p e s m below meth c M ls hl I
  have M : zMC RX11 cX11_freeCost 1 (some .int) g p m c s ([.ref (zA g 103)] : List Value).toArray meth := M
  have hl : lv_has ls 1 [(0, .ref (zA g 103))] := hl
  generalize ([.ref (zA g 103)] : List Value).toArray = args at M ⊢
  have hx := M.1.1
  have hb := M.1.2.1
  unfold m_X11_freeCost at hr
  refine lv_aload_n hx hb dX11_freeCost_0 rfl (lv_at hl 0 rfl) ?_
  refine lv_iconst (v := (0 : Int32)) hx hb dX11_freeCost_1 (by decide) ?_
  refine lv_aload_n hx hb dX11_freeCost_2 rfl (lv_at hl 0 rfl) ?_
  refine lv_iconst (v := (0 : Int32)) hx hb dX11_freeCost_3 (by decide) ?_
  obtain ⟨x1, e_x1, hr⟩ := zb_some hr
  refine zcallI M I (zrunV (as := [.int (0 : Int32)]) M I (c_X11_signs l g fu e_x1) zc_103 zK11.1 (by decide) zlv_X11_85 ⟨Nat.le_of_ble_eq_true rfl, Nat.le_of_ble_eq_true rfl⟩ ⟨Nat.zero_le _, Nat.zero_le _⟩ rfl rfl (Nat.le_of_ble_eq_true rfl) hl.1 dX11_freeCost_4) (fun H locs I => ?_)
  refine lv_iconst (v := (0 : Int32)) hx hb dX11_freeCost_7 (by decide) ?_
  refine lv_aload_n hx hb dX11_freeCost_8 rfl (lv_at hl 0 rfl) ?_
  refine lv_iconst (v := (1 : Int32)) hx hb dX11_freeCost_9 (by decide) ?_
  obtain ⟨x2, e_x2, hr⟩ := zb_some hr
  refine zcallI M I (zrunV (as := [.int (1 : Int32)]) M I (c_X11_signs l g fu e_x2) zc_103 zK11.1 (by decide) zlv_X11_85 ⟨Nat.le_of_ble_eq_true rfl, Nat.le_of_ble_eq_true rfl⟩ ⟨Nat.zero_le _, Nat.zero_le _⟩ rfl rfl (Nat.le_of_ble_eq_true rfl) hl.1 dX11_freeCost_10) (fun H locs I => ?_)
  refine lv_bipush (v := (24 : Int32)) hx hb dX11_freeCost_13 (by decide) ?_
  obtain ⟨x3, e_x3, hr⟩ := zb_some hr
  refine zcallU M I (zrunV (as := [.int (0 : Int32), .int x1, .int (0 : Int32), .int x2, .int (24 : Int32)]) M I (c_X11_layLeast l g fu e_x3) zc_103 zK11.1 (by decide) zlv_X11_129 ⟨Nat.le_of_ble_eq_true rfl, Nat.le_of_ble_eq_true rfl⟩ ⟨Nat.zero_le _, Nat.zero_le _⟩ rfl rfl (Nat.le_of_ble_eq_true rfl) hl.1 dX11_freeCost_15) (fun H locs I => ?_)
  refine lv_aload_n hx hb dX11_freeCost_18 rfl (lv_at hl 0 rfl) ?_
  refine zgetR (j := 121) M I zc_103 zfl_X11_61 dX11_freeCost_19 rfl ?_
  refine lv_bipush (v := (25 : Int32)) hx hb dX11_freeCost_22 (by decide) ?_
  refine lv_aload_n hx hb dX11_freeCost_24 rfl (lv_at hl 0 rfl) ?_
  refine lv_iconst (v := (0 : Int32)) hx hb dX11_freeCost_25 (by decide) ?_
  obtain ⟨x4, e_x4, hr⟩ := zb_some hr
  refine zcallI M I (zrunV (as := [.int (0 : Int32)]) M I (c_X11_signs l g fu e_x4) zc_103 zK11.1 (by decide) zlv_X11_85 ⟨Nat.le_of_ble_eq_true rfl, Nat.le_of_ble_eq_true rfl⟩ ⟨Nat.zero_le _, Nat.zero_le _⟩ rfl rfl (Nat.le_of_ble_eq_true rfl) hl.1 dX11_freeCost_26) (fun H locs I => ?_)
  refine lv_imul hx hb dX11_freeCost_29 ?_
  refine lv_aload_n hx hb dX11_freeCost_30 rfl (lv_at hl 0 rfl) ?_
  refine lv_iconst (v := (1 : Int32)) hx hb dX11_freeCost_31 (by decide) ?_
  obtain ⟨x5, e_x5, hr⟩ := zb_some hr
  refine zcallI M I (zrunV (as := [.int (1 : Int32)]) M I (c_X11_signs l g fu e_x5) zc_103 zK11.1 (by decide) zlv_X11_85 ⟨Nat.le_of_ble_eq_true rfl, Nat.le_of_ble_eq_true rfl⟩ ⟨Nat.zero_le _, Nat.zero_le _⟩ rfl rfl (Nat.le_of_ble_eq_true rfl) hl.1 dX11_freeCost_32) (fun H locs I => ?_)
  refine lv_iadd hx hb dX11_freeCost_35 ?_
  obtain ⟨x6, e_x6, hr⟩ := zb_some hr
  refine ziald M I zc_121 e_x6 dX11_freeCost_36 ?_
  obtain rfl := Option.some.inj hr
  exact zretI M I dX11_freeCost_37
def l_X11_put_74 (fu : Nat) (a1 : Int32) (a2 : Int32) (a3 : Int32) : Nat → Int32 → zmem → Option (zmem)
  | 0, _, _ => none
  | n + 1, v4, σ => (if v4 ≤ a2 then some σ else (m_X11_at fu σ a1 (v4 - (1 : Int32))).bind fun x5 => (m_X11_lay fu σ a1 v4 x5).bind fun x6 => l_X11_put_74 fu a1 a2 a3 n (v4 - 1) x6)
set_option maxHeartbeats 4000000 in
set_option maxRecDepth 100000 in
theorem k_X11_put_74 {l : Launch} {g : zgeo} {fu : Nat} {p : Program} {e : Env} {s : State} {m : MethodId} {args : Array Value} {below : List Frame} {meth : Method} {c : Code} (M : zMC RX11 cX11_put 5 (some .int) g p m c s args meth) {a1 : Int32} {a2 : Int32} {a3 : Int32} {Q : State → Prop} : ∀ (n : Nat) (v4 : Int32) (σ : zmem) (o : zmem), l_X11_put_74 fu a1 a2 a3 n v4 σ = some o → ∀ (ls : Array Slot) (H : Heap) (locs : List Loc), lv_has ls 5 [(0, .ref (zA g 103)), (1, .int a1), (2, .int a2), (3, .int a3), (4, .int v4)] → zIV g σ (zAA g) s.heap H locs → (∀ (ls : Array Slot) (H : Heap) (locs : List Loc), lv_has ls 5 [(0, .ref (zA g 103)), (1, .int a1), (2, .int a2), (3, .int a3)] → zIV g o (zAA g) s.heap H locs → W p l e (zrm 2 42) s m args below meth c H locs 0 0 Q (F0 m 102 ls [])) → W p l e (zrm 2 42) s m args below meth c H locs 0 0 Q (F0 m 74 ls []) := by
  have hx := M.1.1
  have hb := M.1.2.1
  intro n
  induction n with
  | zero =>
    intro v4 σ o hr ls H locs hl I KF
    have hr : (none : Option (zmem)) = some o := hr
    cases hr
  | succ n ih =>
    intro v4 σ o hr ls H locs hl I KF
    rw [l_X11_put_74] at hr
    refine lv_iload hx hb dX11_put_74 (lv_at hl 4 rfl) ?_
    refine lv_iload_n hx hb dX11_put_76 rfl (lv_at hl 2 rfl) ?_
    refine lv_icmp_le (tgt := 102) hx hb dX11_put_77 (by decide) (fun c7 => ?_) (fun c7 => ?_)
    · replace hr := zif_t hr c7
      obtain rfl := Option.some.inj hr
      exact KF ls _ _ (lv_sub hl [0, 1, 2, 3] rfl) I
    · replace hr := zif_f hr c7
      refine lv_aload_n hx hb dX11_put_80 rfl (lv_at hl 0 rfl) ?_
      refine lv_iload_n hx hb dX11_put_81 rfl (lv_at hl 1 rfl) ?_
      refine lv_iload hx hb dX11_put_82 (lv_at hl 4 rfl) ?_
      refine lv_aload_n hx hb dX11_put_84 rfl (lv_at hl 0 rfl) ?_
      refine lv_iload_n hx hb dX11_put_85 rfl (lv_at hl 1 rfl) ?_
      refine lv_iload hx hb dX11_put_86 (lv_at hl 4 rfl) ?_
      refine lv_iconst (v := (1 : Int32)) hx hb dX11_put_88 (by decide) ?_
      refine lv_isub hx hb dX11_put_89 ?_
      obtain ⟨x5, e_x5, hr⟩ := zb_some hr
      refine zcallI M I (zrunV (as := [.int a1, .int (v4 - (1 : Int32))]) M I (c_X11_at l g fu e_x5) zc_103 zK11.1 (by decide) zlv_X11_89 ⟨Nat.le_of_ble_eq_true rfl, Nat.le_of_ble_eq_true rfl⟩ ⟨Nat.zero_le _, Nat.zero_le _⟩ rfl rfl (Nat.le_of_ble_eq_true rfl) hl.1 dX11_put_90) (fun H locs I => ?_)
      obtain ⟨x6, e_x6, hr⟩ := zb_some hr
      refine zcallU M I (zrunV (as := [.int a1, .int v4, .int x5]) M I (c_X11_lay l g fu e_x6) zc_103 zK11.1 (by decide) zlv_X11_152 ⟨Nat.le_of_ble_eq_true rfl, Nat.le_of_ble_eq_true rfl⟩ ⟨Nat.zero_le _, Nat.zero_le _⟩ rfl rfl (Nat.le_of_ble_eq_true rfl) hl.1 dX11_put_93) (fun H locs I => ?_)
      refine lv_iinc (lv' := [(4, .int (v4 - 1)), (0, .ref (zA g 103)), (1, .int a1), (2, .int a2), (3, .int a3)]) (k := 4) (v := (v4 - 1)) hx hb dX11_put_96 hl rfl (zi_m1 _) (by decide) rfl (fun ls hl => ?_)
      refine lv_goto (tgt := 74) hx hb dX11_put_99 (by decide) ?_
      exact ih _ _  _ hr ls _ _ (lv_sub hl [1, 2, 3, 4, 0] rfl) I KF
def m_X11_put (fu : Nat) (σ : zmem) (a1 : Int32) (a2 : Int32) (a3 : Int32) : Option (Int32 × zmem) := (m_X11_isRow fu σ a1).bind fun x1 => ((if x1 = 0 then some (1 : Int32) else (m_X11_signs fu σ a1).bind fun x14 => (m_X11_within fu σ a2 (0 : Int32) x14).bind fun x15 => (if ¬ x15 = 0 then (m_X11_isSign fu σ a3).bind fun x16 => (if ¬ x16 = 0 then (m_X11_signs fu σ a1).bind fun x17 => (if ¬ x17 = (24 : Int32) then some (0 : Int32) else some (3 : Int32)) else some (2 : Int32)) else some (1 : Int32))) : Option (Int32)).bind fun x2 => (if ((zst σ 103 7 x2).1 103 7) ≤ 0 then (m_X11_save fu (zst σ 103 7 x2)).bind fun x3 => (m_X11_signs fu x3 a1).bind fun x4 => (l_X11_put_74 fu a1 a2 a3 fu x4 x3).bind fun x8 => (m_X11_lay fu x8 a1 a2 a3).bind fun x9 => (zrd x9 104 ((4 : Int32) + a1)).bind fun x10 => (zwr x9 104 ((4 : Int32) + a1) (x10 + (1 : Int32))).bind fun s11 => (m_X11_signs fu s11 a1).bind fun x12 => some (x12, s11) else some ((0 : Int32), (zst σ 103 7 x2)))
set_option maxHeartbeats 4000000 in
set_option maxRecDepth 100000 in
theorem c_X11_put (l : Launch) (g : zgeo) (fu : Nat) {σ : zmem} {a1 : Int32} {a2 : Int32} {a3 : Int32} {r : Int32 × zmem} (hr : m_X11_put fu σ a1 a2 a3 = some r) : zCt (zQI g r.1 r.2) l g yX11_put cX11_put 5 (some .int) 2 42 [.ref (zA g 103), .int a1, .int a2, .int a3] σ := by
  refine zopen (by decide) (Nat.le_of_ble_eq_true rfl) ?_
  intro p e s m below meth c M ls hl I
  have M : zMC RX11 cX11_put 5 (some .int) g p m c s ([.ref (zA g 103), .int a1, .int a2, .int a3] : List Value).toArray meth := M
  have hl : lv_has ls 5 [(0, .ref (zA g 103)), (1, .int a1), (2, .int a2), (3, .int a3)] := hl
  generalize ([.ref (zA g 103), .int a1, .int a2, .int a3] : List Value).toArray = args at M ⊢
  have hx := M.1.1
  have hb := M.1.2.1
  unfold m_X11_put at hr
  refine lv_aload_n hx hb dX11_put_0 rfl (lv_at hl 0 rfl) ?_
  refine lv_iload_n hx hb dX11_put_1 rfl (lv_at hl 1 rfl) ?_
  obtain ⟨x1, e_x1, hr⟩ := zb_some hr
  refine zcallI M I (zrunS (as := [.int a1]) M I (c_X11_isRow l g fu e_x1) zls_X11_81 ⟨Nat.le_of_ble_eq_true rfl, Nat.le_of_ble_eq_true rfl⟩ ⟨Nat.zero_le _, Nat.zero_le _⟩ rfl rfl (Nat.le_of_ble_eq_true rfl) hl.1 dX11_put_2) (fun H locs I => ?_)
  obtain ⟨x2, e_x2, hr⟩ := zb_some hr
  have K_x2 : ∀ (ls : Array Slot) (H : Heap) (locs : List Loc), lv_has ls 5 [(0, .ref (zA g 103)), (1, .int a1), (2, .int a2), (3, .int a3)] → zIV g σ (zAA g) s.heap H locs → W p l e (zrm 2 42) s m args below meth c H locs 0 0 (MQ below (zQI g r.1 r.2) args s 0 0 (zAA g)) (F0 m 51 ls [.int x2, .ref (zA g 103)]) := by
    intro ls H locs hl I
    refine zputI M I zc_103 zfw_X11_70 dX11_put_51 (fun H locs I => ?_)
    refine lv_aload_n hx hb dX11_put_54 rfl (lv_at hl 0 rfl) ?_
    refine zgetI M I zc_103 zfl_X11_70 dX11_put_55 ?_
    refine lv_if_le (tgt := 63) hx hb dX11_put_58 (by decide) (fun c13 => ?_) (fun c13 => ?_)
    · replace hr := zif_t hr c13
      refine lv_aload_n hx hb dX11_put_63 rfl (lv_at hl 0 rfl) ?_
      obtain ⟨x3, e_x3, hr⟩ := zb_some hr
      refine zcallU M I (zrunV (as := []) M I (c_X11_save l g fu e_x3) zc_103 zK11.1 (by decide) zlv_X11_149 ⟨Nat.le_of_ble_eq_true rfl, Nat.le_of_ble_eq_true rfl⟩ ⟨Nat.zero_le _, Nat.zero_le _⟩ rfl rfl (Nat.le_of_ble_eq_true rfl) hl.1 dX11_put_64) (fun H locs I => ?_)
      refine lv_aload_n hx hb dX11_put_67 rfl (lv_at hl 0 rfl) ?_
      refine lv_iload_n hx hb dX11_put_68 rfl (lv_at hl 1 rfl) ?_
      obtain ⟨x4, e_x4, hr⟩ := zb_some hr
      refine zcallI M I (zrunV (as := [.int a1]) M I (c_X11_signs l g fu e_x4) zc_103 zK11.1 (by decide) zlv_X11_85 ⟨Nat.le_of_ble_eq_true rfl, Nat.le_of_ble_eq_true rfl⟩ ⟨Nat.zero_le _, Nat.zero_le _⟩ rfl rfl (Nat.le_of_ble_eq_true rfl) hl.1 dX11_put_69) (fun H locs I => ?_)
      refine lv_istore (lv' := [(4, .int x4), (0, .ref (zA g 103)), (1, .int a1), (2, .int a2), (3, .int a3)]) hx hb dX11_put_72 hl (by decide) rfl (fun ls hl => ?_)
      obtain ⟨x8, e_x8, hr⟩ := zb_some hr
      refine k_X11_put_74 M  fu _ _  _ e_x8 ls _ _ (lv_sub hl [1, 2, 3, 4, 0] rfl) I (fun ls H locs hl I => ?_)
      refine lv_aload_n hx hb dX11_put_102 rfl (lv_at hl 0 rfl) ?_
      refine lv_iload_n hx hb dX11_put_103 rfl (lv_at hl 1 rfl) ?_
      refine lv_iload_n hx hb dX11_put_104 rfl (lv_at hl 2 rfl) ?_
      refine lv_iload_n hx hb dX11_put_105 rfl (lv_at hl 3 rfl) ?_
      obtain ⟨x9, e_x9, hr⟩ := zb_some hr
      refine zcallU M I (zrunV (as := [.int a1, .int a2, .int a3]) M I (c_X11_lay l g fu e_x9) zc_103 zK11.1 (by decide) zlv_X11_152 ⟨Nat.le_of_ble_eq_true rfl, Nat.le_of_ble_eq_true rfl⟩ ⟨Nat.zero_le _, Nat.zero_le _⟩ rfl rfl (Nat.le_of_ble_eq_true rfl) hl.1 dX11_put_106) (fun H locs I => ?_)
      refine lv_aload_n hx hb dX11_put_109 rfl (lv_at hl 0 rfl) ?_
      refine zgetR (j := 104) M I zc_103 zfl_X11_7 dX11_put_110 rfl ?_
      refine lv_iconst (v := (4 : Int32)) hx hb dX11_put_113 (by decide) ?_
      refine lv_iload_n hx hb dX11_put_114 rfl (lv_at hl 1 rfl) ?_
      refine lv_iadd hx hb dX11_put_115 ?_
      refine lv_dup2_11 hx hb dX11_put_116 rfl rfl ?_
      obtain ⟨x10, e_x10, hr⟩ := zb_some hr
      refine ziald M I zc_104 e_x10 dX11_put_117 ?_
      refine lv_iconst (v := (1 : Int32)) hx hb dX11_put_118 (by decide) ?_
      refine lv_iadd hx hb dX11_put_119 ?_
      obtain ⟨s11, e_s11, hr⟩ := zb_some hr
      refine ziast M I zc_104 e_s11 dX11_put_120 (fun H locs I => ?_)
      refine lv_aload_n hx hb dX11_put_121 rfl (lv_at hl 0 rfl) ?_
      refine lv_iload_n hx hb dX11_put_122 rfl (lv_at hl 1 rfl) ?_
      obtain ⟨x12, e_x12, hr⟩ := zb_some hr
      refine zcallI M I (zrunV (as := [.int a1]) M I (c_X11_signs l g fu e_x12) zc_103 zK11.1 (by decide) zlv_X11_85 ⟨Nat.le_of_ble_eq_true rfl, Nat.le_of_ble_eq_true rfl⟩ ⟨Nat.zero_le _, Nat.zero_le _⟩ rfl rfl (Nat.le_of_ble_eq_true rfl) hl.1 dX11_put_123) (fun H locs I => ?_)
      obtain rfl := Option.some.inj hr
      exact zretI M I dX11_put_126
    · replace hr := zif_f hr c13
      refine lv_iconst (v := (0 : Int32)) hx hb dX11_put_61 (by decide) ?_
      obtain rfl := Option.some.inj hr
      exact zretI M I dX11_put_62
  refine lv_if_eq (tgt := 21) hx hb dX11_put_5 (by decide) (fun c21 => ?_) (fun c21 => ?_)
  · replace e_x2 := zif_t e_x2 c21
    refine lv_iconst (v := (1 : Int32)) hx hb dX11_put_21 (by decide) ?_
    refine lv_goto (tgt := 51) hx hb dX11_put_22 (by decide) ?_
    obtain rfl := Option.some.inj e_x2
    exact K_x2 ls _ _ hl I
  · replace e_x2 := zif_f e_x2 c21
    refine lv_iload_n hx hb dX11_put_8 rfl (lv_at hl 2 rfl) ?_
    refine lv_iconst (v := (0 : Int32)) hx hb dX11_put_9 (by decide) ?_
    refine lv_aload_n hx hb dX11_put_10 rfl (lv_at hl 0 rfl) ?_
    refine lv_iload_n hx hb dX11_put_11 rfl (lv_at hl 1 rfl) ?_
    obtain ⟨x14, e_x14, e_x2⟩ := zb_some e_x2
    refine zcallI M I (zrunV (as := [.int a1]) M I (c_X11_signs l g fu e_x14) zc_103 zK11.1 (by decide) zlv_X11_85 ⟨Nat.le_of_ble_eq_true rfl, Nat.le_of_ble_eq_true rfl⟩ ⟨Nat.zero_le _, Nat.zero_le _⟩ rfl rfl (Nat.le_of_ble_eq_true rfl) hl.1 dX11_put_12) (fun H locs I => ?_)
    obtain ⟨x15, e_x15, e_x2⟩ := zb_some e_x2
    refine zcallI M I (zrunS (as := [.int a2, .int (0 : Int32), .int x14]) M I (c_X11_within l g fu e_x15) zls_X11_77 ⟨Nat.le_of_ble_eq_true rfl, Nat.le_of_ble_eq_true rfl⟩ ⟨Nat.zero_le _, Nat.zero_le _⟩ rfl rfl (Nat.le_of_ble_eq_true rfl) hl.1 dX11_put_15) (fun H locs I => ?_)
    refine lv_if_ne (tgt := 25) hx hb dX11_put_18 (by decide) (fun c20 => ?_) (fun c20 => ?_)
    · replace e_x2 := zif_t e_x2 c20
      refine lv_iload_n hx hb dX11_put_25 rfl (lv_at hl 3 rfl) ?_
      obtain ⟨x16, e_x16, e_x2⟩ := zb_some e_x2
      refine zcallI M I (zrunS (as := [.int a3]) M I (c_X11_isSign l g fu e_x16) zls_X11_146 ⟨Nat.le_of_ble_eq_true rfl, Nat.le_of_ble_eq_true rfl⟩ ⟨Nat.zero_le _, Nat.zero_le _⟩ rfl rfl (Nat.le_of_ble_eq_true rfl) hl.1 dX11_put_26) (fun H locs I => ?_)
      refine lv_if_ne (tgt := 36) hx hb dX11_put_29 (by decide) (fun c19 => ?_) (fun c19 => ?_)
      · replace e_x2 := zif_t e_x2 c19
        refine lv_aload_n hx hb dX11_put_36 rfl (lv_at hl 0 rfl) ?_
        refine lv_iload_n hx hb dX11_put_37 rfl (lv_at hl 1 rfl) ?_
        obtain ⟨x17, e_x17, e_x2⟩ := zb_some e_x2
        refine zcallI M I (zrunV (as := [.int a1]) M I (c_X11_signs l g fu e_x17) zc_103 zK11.1 (by decide) zlv_X11_85 ⟨Nat.le_of_ble_eq_true rfl, Nat.le_of_ble_eq_true rfl⟩ ⟨Nat.zero_le _, Nat.zero_le _⟩ rfl rfl (Nat.le_of_ble_eq_true rfl) hl.1 dX11_put_38) (fun H locs I => ?_)
        refine lv_bipush (v := (24 : Int32)) hx hb dX11_put_41 (by decide) ?_
        refine lv_icmp_ne (tgt := 50) hx hb dX11_put_43 (by decide) (fun c18 => ?_) (fun c18 => ?_)
        · replace e_x2 := zif_t e_x2 c18
          refine lv_iconst (v := (0 : Int32)) hx hb dX11_put_50 (by decide) ?_
          obtain rfl := Option.some.inj e_x2
          exact K_x2 ls _ _ hl I
        · replace e_x2 := zif_f e_x2 (fun hq => hq c18)
          refine lv_iconst (v := (3 : Int32)) hx hb dX11_put_46 (by decide) ?_
          refine lv_goto (tgt := 51) hx hb dX11_put_47 (by decide) ?_
          obtain rfl := Option.some.inj e_x2
          exact K_x2 ls _ _ hl I
      · replace e_x2 := zif_f e_x2 (fun hq => hq c19)
        refine lv_iconst (v := (2 : Int32)) hx hb dX11_put_32 (by decide) ?_
        refine lv_goto (tgt := 51) hx hb dX11_put_33 (by decide) ?_
        obtain rfl := Option.some.inj e_x2
        exact K_x2 ls _ _ hl I
    · replace e_x2 := zif_f e_x2 (fun hq => hq c20)
      refine lv_iconst (v := (1 : Int32)) hx hb dX11_put_21 (by decide) ?_
      refine lv_goto (tgt := 51) hx hb dX11_put_22 (by decide) ?_
      obtain rfl := Option.some.inj e_x2
      exact K_x2 ls _ _ hl I
def l_X11_take_65 (fu : Nat) (a1 : Int32) (a3 : Int32) : Nat → Int32 → zmem → Option (zmem)
  | 0, _, _ => none
  | n + 1, v4, σ => (m_X11_signs fu σ a1).bind fun x6 => (if x6 ≤ v4 then some σ else (m_X11_at fu σ a1 (v4 + a3)).bind fun x7 => (m_X11_lay fu σ a1 v4 x7).bind fun x8 => l_X11_take_65 fu a1 a3 n (v4 + 1) x8)
set_option maxHeartbeats 4000000 in
set_option maxRecDepth 100000 in
theorem k_X11_take_65 {l : Launch} {g : zgeo} {fu : Nat} {p : Program} {e : Env} {s : State} {m : MethodId} {args : Array Value} {below : List Frame} {meth : Method} {c : Code} (M : zMC RX11 cX11_take 5 (some .int) g p m c s args meth) {a1 : Int32} {a3 : Int32} {Q : State → Prop} : ∀ (n : Nat) (v4 : Int32) (σ : zmem) (o : zmem), l_X11_take_65 fu a1 a3 n v4 σ = some o → ∀ (ls : Array Slot) (H : Heap) (locs : List Loc), lv_has ls 5 [(0, .ref (zA g 103)), (1, .int a1), (3, .int a3), (4, .int v4)] → zIV g σ (zAA g) s.heap H locs → (∀ (ls : Array Slot) (H : Heap) (locs : List Loc), lv_has ls 5 [(0, .ref (zA g 103)), (1, .int a1)] → zIV g o (zAA g) s.heap H locs → W p l e (zrm 3 64) s m args below meth c H locs 0 0 Q (F0 m 97 ls [])) → W p l e (zrm 3 64) s m args below meth c H locs 0 0 Q (F0 m 65 ls []) := by
  have hx := M.1.1
  have hb := M.1.2.1
  intro n
  induction n with
  | zero =>
    intro v4 σ o hr ls H locs hl I KF
    have hr : (none : Option (zmem)) = some o := hr
    cases hr
  | succ n ih =>
    intro v4 σ o hr ls H locs hl I KF
    rw [l_X11_take_65] at hr
    refine lv_iload hx hb dX11_take_65 (lv_at hl 3 rfl) ?_
    refine lv_aload_n hx hb dX11_take_67 rfl (lv_at hl 0 rfl) ?_
    refine lv_iload_n hx hb dX11_take_68 rfl (lv_at hl 1 rfl) ?_
    obtain ⟨x6, e_x6, hr⟩ := zb_some hr
    refine zcallI M I (zrunV (as := [.int a1]) M I (c_X11_signs l g fu e_x6) zc_103 zK11.1 (by decide) zlv_X11_85 ⟨Nat.le_of_ble_eq_true rfl, Nat.le_of_ble_eq_true rfl⟩ ⟨Nat.zero_le _, Nat.zero_le _⟩ rfl rfl (Nat.le_of_ble_eq_true rfl) hl.1 dX11_take_69) (fun H locs I => ?_)
    refine lv_icmp_ge (tgt := 97) hx hb dX11_take_72 (by decide) (fun c9 => ?_) (fun c9 => ?_)
    · replace hr := zif_t hr c9
      obtain rfl := Option.some.inj hr
      exact KF ls _ _ (lv_sub hl [0, 1] rfl) I
    · replace hr := zif_f hr c9
      refine lv_aload_n hx hb dX11_take_75 rfl (lv_at hl 0 rfl) ?_
      refine lv_iload_n hx hb dX11_take_76 rfl (lv_at hl 1 rfl) ?_
      refine lv_iload hx hb dX11_take_77 (lv_at hl 3 rfl) ?_
      refine lv_aload_n hx hb dX11_take_79 rfl (lv_at hl 0 rfl) ?_
      refine lv_iload_n hx hb dX11_take_80 rfl (lv_at hl 1 rfl) ?_
      refine lv_iload hx hb dX11_take_81 (lv_at hl 3 rfl) ?_
      refine lv_iload_n hx hb dX11_take_83 rfl (lv_at hl 2 rfl) ?_
      refine lv_iadd hx hb dX11_take_84 ?_
      obtain ⟨x7, e_x7, hr⟩ := zb_some hr
      refine zcallI M I (zrunV (as := [.int a1, .int (v4 + a3)]) M I (c_X11_at l g fu e_x7) zc_103 zK11.1 (by decide) zlv_X11_89 ⟨Nat.le_of_ble_eq_true rfl, Nat.le_of_ble_eq_true rfl⟩ ⟨Nat.zero_le _, Nat.zero_le _⟩ rfl rfl (Nat.le_of_ble_eq_true rfl) hl.1 dX11_take_85) (fun H locs I => ?_)
      obtain ⟨x8, e_x8, hr⟩ := zb_some hr
      refine zcallU M I (zrunV (as := [.int a1, .int v4, .int x7]) M I (c_X11_lay l g fu e_x8) zc_103 zK11.1 (by decide) zlv_X11_152 ⟨Nat.le_of_ble_eq_true rfl, Nat.le_of_ble_eq_true rfl⟩ ⟨Nat.zero_le _, Nat.zero_le _⟩ rfl rfl (Nat.le_of_ble_eq_true rfl) hl.1 dX11_take_88) (fun H locs I => ?_)
      refine lv_iinc (lv' := [(4, .int (v4 + 1)), (0, .ref (zA g 103)), (1, .int a1), (3, .int a3)]) (k := 3) (v := (v4 + 1)) hx hb dX11_take_91 hl rfl (zi_1 _) (by decide) rfl (fun ls hl => ?_)
      refine lv_goto (tgt := 65) hx hb dX11_take_94 (by decide) ?_
      exact ih _ _  _ hr ls _ _ (lv_sub hl [1, 2, 3, 0] rfl) I KF
def l_X11_take_104 (fu : Nat) (a1 : Int32) : Nat → Int32 → zmem → Option (zmem)
  | 0, _, _ => none
  | n + 1, v4, σ => (if (24 : Int32) ≤ v4 then some σ else (m_X11_lay fu σ a1 v4 (0 : Int32)).bind fun x12 => l_X11_take_104 fu a1 n (v4 + 1) x12)
set_option maxHeartbeats 4000000 in
set_option maxRecDepth 100000 in
theorem k_X11_take_104 {l : Launch} {g : zgeo} {fu : Nat} {p : Program} {e : Env} {s : State} {m : MethodId} {args : Array Value} {below : List Frame} {meth : Method} {c : Code} (M : zMC RX11 cX11_take 5 (some .int) g p m c s args meth) {a1 : Int32} {Q : State → Prop} : ∀ (n : Nat) (v4 : Int32) (σ : zmem) (o : zmem), l_X11_take_104 fu a1 n v4 σ = some o → ∀ (ls : Array Slot) (H : Heap) (locs : List Loc), lv_has ls 5 [(0, .ref (zA g 103)), (1, .int a1), (4, .int v4)] → zIV g σ (zAA g) s.heap H locs → (∀ (ls : Array Slot) (H : Heap) (locs : List Loc), lv_has ls 5 [(0, .ref (zA g 103)), (1, .int a1)] → zIV g o (zAA g) s.heap H locs → W p l e (zrm 3 64) s m args below meth c H locs 0 0 Q (F0 m 125 ls [])) → W p l e (zrm 3 64) s m args below meth c H locs 0 0 Q (F0 m 104 ls []) := by
  have hx := M.1.1
  have hb := M.1.2.1
  intro n
  induction n with
  | zero =>
    intro v4 σ o hr ls H locs hl I KF
    have hr : (none : Option (zmem)) = some o := hr
    cases hr
  | succ n ih =>
    intro v4 σ o hr ls H locs hl I KF
    rw [l_X11_take_104] at hr
    refine lv_iload hx hb dX11_take_104 (lv_at hl 2 rfl) ?_
    refine lv_bipush (v := (24 : Int32)) hx hb dX11_take_106 (by decide) ?_
    refine lv_icmp_ge (tgt := 125) hx hb dX11_take_108 (by decide) (fun c13 => ?_) (fun c13 => ?_)
    · replace hr := zif_t hr c13
      obtain rfl := Option.some.inj hr
      exact KF ls _ _ (lv_sub hl [0, 1] rfl) I
    · replace hr := zif_f hr c13
      refine lv_aload_n hx hb dX11_take_111 rfl (lv_at hl 0 rfl) ?_
      refine lv_iload_n hx hb dX11_take_112 rfl (lv_at hl 1 rfl) ?_
      refine lv_iload hx hb dX11_take_113 (lv_at hl 2 rfl) ?_
      refine lv_iconst (v := (0 : Int32)) hx hb dX11_take_115 (by decide) ?_
      obtain ⟨x12, e_x12, hr⟩ := zb_some hr
      refine zcallU M I (zrunV (as := [.int a1, .int v4, .int (0 : Int32)]) M I (c_X11_lay l g fu e_x12) zc_103 zK11.1 (by decide) zlv_X11_152 ⟨Nat.le_of_ble_eq_true rfl, Nat.le_of_ble_eq_true rfl⟩ ⟨Nat.zero_le _, Nat.zero_le _⟩ rfl rfl (Nat.le_of_ble_eq_true rfl) hl.1 dX11_take_116) (fun H locs I => ?_)
      refine lv_iinc (lv' := [(4, .int (v4 + 1)), (0, .ref (zA g 103)), (1, .int a1)]) (k := 2) (v := (v4 + 1)) hx hb dX11_take_119 hl rfl (zi_1 _) (by decide) rfl (fun ls hl => ?_)
      refine lv_goto (tgt := 104) hx hb dX11_take_122 (by decide) ?_
      exact ih _ _  _ hr ls _ _ (lv_sub hl [1, 2, 0] rfl) I KF
def m_X11_take (fu : Nat) (σ : zmem) (a1 : Int32) (a2 : Int32) (a3 : Int32) : Option (Int32 × zmem) := (m_X11_isPlace fu σ a1 a2).bind fun x1 => ((if ¬ x1 = 0 then (m_X11_signs fu σ a1).bind fun x17 => (m_X11_within fu σ a3 (1 : Int32) (x17 - a2)).bind fun x18 => (if x18 = 0 then some (2 : Int32) else some (0 : Int32)) else some (1 : Int32)) : Option (Int32)).bind fun x2 => (if ((zst σ 103 7 x2).1 103 7) ≤ 0 then (m_X11_save fu (zst σ 103 7 x2)).bind fun x3 => (zrd x3 104 ((4 : Int32) + a1)).bind fun x4 => (zwr x3 104 ((4 : Int32) + a1) (x4 - a3)).bind fun s5 => (l_X11_take_65 fu a1 a3 fu a2 s5).bind fun x10 => (m_X11_signs fu x10 a1).bind fun x11 => (l_X11_take_104 fu a1 fu x11 x10).bind fun x14 => (m_X11_signs fu x14 a1).bind fun x15 => some (x15, x14) else some ((0 : Int32), (zst σ 103 7 x2)))
set_option maxHeartbeats 4000000 in
set_option maxRecDepth 100000 in
theorem c_X11_take (l : Launch) (g : zgeo) (fu : Nat) {σ : zmem} {a1 : Int32} {a2 : Int32} {a3 : Int32} {r : Int32 × zmem} (hr : m_X11_take fu σ a1 a2 a3 = some r) : zCt (zQI g r.1 r.2) l g yX11_take cX11_take 5 (some .int) 3 64 [.ref (zA g 103), .int a1, .int a2, .int a3] σ := by
  refine zopen (by decide) (Nat.le_of_ble_eq_true rfl) ?_
  intro p e s m below meth c M ls hl I
  have M : zMC RX11 cX11_take 5 (some .int) g p m c s ([.ref (zA g 103), .int a1, .int a2, .int a3] : List Value).toArray meth := M
  have hl : lv_has ls 5 [(0, .ref (zA g 103)), (1, .int a1), (2, .int a2), (3, .int a3)] := hl
  generalize ([.ref (zA g 103), .int a1, .int a2, .int a3] : List Value).toArray = args at M ⊢
  have hx := M.1.1
  have hb := M.1.2.1
  unfold m_X11_take at hr
  refine lv_aload_n hx hb dX11_take_0 rfl (lv_at hl 0 rfl) ?_
  refine lv_aload_n hx hb dX11_take_1 rfl (lv_at hl 0 rfl) ?_
  refine lv_iload_n hx hb dX11_take_2 rfl (lv_at hl 1 rfl) ?_
  refine lv_iload_n hx hb dX11_take_3 rfl (lv_at hl 2 rfl) ?_
  obtain ⟨x1, e_x1, hr⟩ := zb_some hr
  refine zcallI M I (zrunV (as := [.int a1, .int a2]) M I (c_X11_isPlace l g fu e_x1) zc_103 zK11.1 (by decide) zlv_X11_156 ⟨Nat.le_of_ble_eq_true rfl, Nat.le_of_ble_eq_true rfl⟩ ⟨Nat.zero_le _, Nat.zero_le _⟩ rfl rfl (Nat.le_of_ble_eq_true rfl) hl.1 dX11_take_4) (fun H locs I => ?_)
  obtain ⟨x2, e_x2, hr⟩ := zb_some hr
  have K_x2 : ∀ (ls : Array Slot) (H : Heap) (locs : List Loc), lv_has ls 5 [(0, .ref (zA g 103)), (1, .int a1), (2, .int a2), (3, .int a3)] → zIV g σ (zAA g) s.heap H locs → W p l e (zrm 3 64) s m args below meth c H locs 0 0 (MQ below (zQI g r.1 r.2) args s 0 0 (zAA g)) (F0 m 34 ls [.int x2, .ref (zA g 103)]) := by
    intro ls H locs hl I
    refine zputI M I zc_103 zfw_X11_70 dX11_take_34 (fun H locs I => ?_)
    refine lv_aload_n hx hb dX11_take_37 rfl (lv_at hl 0 rfl) ?_
    refine zgetI M I zc_103 zfl_X11_70 dX11_take_38 ?_
    refine lv_if_le (tgt := 46) hx hb dX11_take_41 (by decide) (fun c16 => ?_) (fun c16 => ?_)
    · replace hr := zif_t hr c16
      refine lv_aload_n hx hb dX11_take_46 rfl (lv_at hl 0 rfl) ?_
      obtain ⟨x3, e_x3, hr⟩ := zb_some hr
      refine zcallU M I (zrunV (as := []) M I (c_X11_save l g fu e_x3) zc_103 zK11.1 (by decide) zlv_X11_149 ⟨Nat.le_of_ble_eq_true rfl, Nat.le_of_ble_eq_true rfl⟩ ⟨Nat.zero_le _, Nat.zero_le _⟩ rfl rfl (Nat.le_of_ble_eq_true rfl) hl.1 dX11_take_47) (fun H locs I => ?_)
      refine lv_aload_n hx hb dX11_take_50 rfl (lv_at hl 0 rfl) ?_
      refine zgetR (j := 104) M I zc_103 zfl_X11_7 dX11_take_51 rfl ?_
      refine lv_iconst (v := (4 : Int32)) hx hb dX11_take_54 (by decide) ?_
      refine lv_iload_n hx hb dX11_take_55 rfl (lv_at hl 1 rfl) ?_
      refine lv_iadd hx hb dX11_take_56 ?_
      refine lv_dup2_11 hx hb dX11_take_57 rfl rfl ?_
      obtain ⟨x4, e_x4, hr⟩ := zb_some hr
      refine ziald M I zc_104 e_x4 dX11_take_58 ?_
      refine lv_iload_n hx hb dX11_take_59 rfl (lv_at hl 3 rfl) ?_
      refine lv_isub hx hb dX11_take_60 ?_
      obtain ⟨s5, e_s5, hr⟩ := zb_some hr
      refine ziast M I zc_104 e_s5 dX11_take_61 (fun H locs I => ?_)
      refine lv_iload_n hx hb dX11_take_62 rfl (lv_at hl 2 rfl) ?_
      refine lv_istore (lv' := [(4, .int a2), (0, .ref (zA g 103)), (1, .int a1), (2, .int a2), (3, .int a3)]) hx hb dX11_take_63 hl (by decide) rfl (fun ls hl => ?_)
      obtain ⟨x10, e_x10, hr⟩ := zb_some hr
      refine k_X11_take_65 M  fu _ _  _ e_x10 ls _ _ (lv_sub hl [1, 2, 4, 0] rfl) I (fun ls H locs hl I => ?_)
      refine lv_aload_n hx hb dX11_take_97 rfl (lv_at hl 0 rfl) ?_
      refine lv_iload_n hx hb dX11_take_98 rfl (lv_at hl 1 rfl) ?_
      obtain ⟨x11, e_x11, hr⟩ := zb_some hr
      refine zcallI M I (zrunV (as := [.int a1]) M I (c_X11_signs l g fu e_x11) zc_103 zK11.1 (by decide) zlv_X11_85 ⟨Nat.le_of_ble_eq_true rfl, Nat.le_of_ble_eq_true rfl⟩ ⟨Nat.zero_le _, Nat.zero_le _⟩ rfl rfl (Nat.le_of_ble_eq_true rfl) hl.1 dX11_take_99) (fun H locs I => ?_)
      refine lv_istore (lv' := [(4, .int x11), (0, .ref (zA g 103)), (1, .int a1)]) hx hb dX11_take_102 hl (by decide) rfl (fun ls hl => ?_)
      obtain ⟨x14, e_x14, hr⟩ := zb_some hr
      refine k_X11_take_104 M  fu _ _  _ e_x14 ls _ _ (lv_sub hl [1, 2, 0] rfl) I (fun ls H locs hl I => ?_)
      refine lv_aload_n hx hb dX11_take_125 rfl (lv_at hl 0 rfl) ?_
      refine lv_iload_n hx hb dX11_take_126 rfl (lv_at hl 1 rfl) ?_
      obtain ⟨x15, e_x15, hr⟩ := zb_some hr
      refine zcallI M I (zrunV (as := [.int a1]) M I (c_X11_signs l g fu e_x15) zc_103 zK11.1 (by decide) zlv_X11_85 ⟨Nat.le_of_ble_eq_true rfl, Nat.le_of_ble_eq_true rfl⟩ ⟨Nat.zero_le _, Nat.zero_le _⟩ rfl rfl (Nat.le_of_ble_eq_true rfl) hl.1 dX11_take_127) (fun H locs I => ?_)
      obtain rfl := Option.some.inj hr
      exact zretI M I dX11_take_130
    · replace hr := zif_f hr c16
      refine lv_iconst (v := (0 : Int32)) hx hb dX11_take_44 (by decide) ?_
      obtain rfl := Option.some.inj hr
      exact zretI M I dX11_take_45
  refine lv_if_ne (tgt := 14) hx hb dX11_take_7 (by decide) (fun c20 => ?_) (fun c20 => ?_)
  · replace e_x2 := zif_t e_x2 c20
    refine lv_iload_n hx hb dX11_take_14 rfl (lv_at hl 3 rfl) ?_
    refine lv_iconst (v := (1 : Int32)) hx hb dX11_take_15 (by decide) ?_
    refine lv_aload_n hx hb dX11_take_16 rfl (lv_at hl 0 rfl) ?_
    refine lv_iload_n hx hb dX11_take_17 rfl (lv_at hl 1 rfl) ?_
    obtain ⟨x17, e_x17, e_x2⟩ := zb_some e_x2
    refine zcallI M I (zrunV (as := [.int a1]) M I (c_X11_signs l g fu e_x17) zc_103 zK11.1 (by decide) zlv_X11_85 ⟨Nat.le_of_ble_eq_true rfl, Nat.le_of_ble_eq_true rfl⟩ ⟨Nat.zero_le _, Nat.zero_le _⟩ rfl rfl (Nat.le_of_ble_eq_true rfl) hl.1 dX11_take_18) (fun H locs I => ?_)
    refine lv_iload_n hx hb dX11_take_21 rfl (lv_at hl 2 rfl) ?_
    refine lv_isub hx hb dX11_take_22 ?_
    obtain ⟨x18, e_x18, e_x2⟩ := zb_some e_x2
    refine zcallI M I (zrunS (as := [.int a3, .int (1 : Int32), .int (x17 - a2)]) M I (c_X11_within l g fu e_x18) zls_X11_77 ⟨Nat.le_of_ble_eq_true rfl, Nat.le_of_ble_eq_true rfl⟩ ⟨Nat.zero_le _, Nat.zero_le _⟩ rfl rfl (Nat.le_of_ble_eq_true rfl) hl.1 dX11_take_23) (fun H locs I => ?_)
    refine lv_if_eq (tgt := 33) hx hb dX11_take_26 (by decide) (fun c19 => ?_) (fun c19 => ?_)
    · replace e_x2 := zif_t e_x2 c19
      refine lv_iconst (v := (2 : Int32)) hx hb dX11_take_33 (by decide) ?_
      obtain rfl := Option.some.inj e_x2
      exact K_x2 ls _ _ hl I
    · replace e_x2 := zif_f e_x2 c19
      refine lv_iconst (v := (0 : Int32)) hx hb dX11_take_29 (by decide) ?_
      refine lv_goto (tgt := 34) hx hb dX11_take_30 (by decide) ?_
      obtain rfl := Option.some.inj e_x2
      exact K_x2 ls _ _ hl I
  · replace e_x2 := zif_f e_x2 (fun hq => hq c20)
    refine lv_iconst (v := (1 : Int32)) hx hb dX11_take_10 (by decide) ?_
    refine lv_goto (tgt := 34) hx hb dX11_take_11 (by decide) ?_
    obtain rfl := Option.some.inj e_x2
    exact K_x2 ls _ _ hl I
def m_X11_change (fu : Nat) (σ : zmem) (a1 : Int32) (a2 : Int32) (a3 : Int32) : Option (Int32 × zmem) := (m_X11_isPlace fu σ a1 a2).bind fun x1 => ((if ¬ x1 = 0 then (m_X11_isSign fu σ a3).bind fun x7 => (if x7 = 0 then some (2 : Int32) else some (0 : Int32)) else some (1 : Int32)) : Option (Int32)).bind fun x2 => (if ((zst σ 103 7 x2).1 103 7) ≤ 0 then (m_X11_save fu (zst σ 103 7 x2)).bind fun x3 => (m_X11_at fu x3 a1 a2).bind fun x4 => (m_X11_lay fu x3 a1 a2 a3).bind fun x5 => some (x4, x5) else some ((0 : Int32), (zst σ 103 7 x2)))
set_option maxHeartbeats 4000000 in
set_option maxRecDepth 100000 in
theorem c_X11_change (l : Launch) (g : zgeo) (fu : Nat) {σ : zmem} {a1 : Int32} {a2 : Int32} {a3 : Int32} {r : Int32 × zmem} (hr : m_X11_change fu σ a1 a2 a3 = some r) : zCt (zQI g r.1 r.2) l g yX11_change cX11_change 5 (some .int) 3 64 [.ref (zA g 103), .int a1, .int a2, .int a3] σ := by
  refine zopen (by decide) (Nat.le_of_ble_eq_true rfl) ?_
  intro p e s m below meth c M ls hl I
  have M : zMC RX11 cX11_change 5 (some .int) g p m c s ([.ref (zA g 103), .int a1, .int a2, .int a3] : List Value).toArray meth := M
  have hl : lv_has ls 5 [(0, .ref (zA g 103)), (1, .int a1), (2, .int a2), (3, .int a3)] := hl
  generalize ([.ref (zA g 103), .int a1, .int a2, .int a3] : List Value).toArray = args at M ⊢
  have hx := M.1.1
  have hb := M.1.2.1
  unfold m_X11_change at hr
  refine lv_aload_n hx hb dX11_change_0 rfl (lv_at hl 0 rfl) ?_
  refine lv_aload_n hx hb dX11_change_1 rfl (lv_at hl 0 rfl) ?_
  refine lv_iload_n hx hb dX11_change_2 rfl (lv_at hl 1 rfl) ?_
  refine lv_iload_n hx hb dX11_change_3 rfl (lv_at hl 2 rfl) ?_
  obtain ⟨x1, e_x1, hr⟩ := zb_some hr
  refine zcallI M I (zrunV (as := [.int a1, .int a2]) M I (c_X11_isPlace l g fu e_x1) zc_103 zK11.1 (by decide) zlv_X11_156 ⟨Nat.le_of_ble_eq_true rfl, Nat.le_of_ble_eq_true rfl⟩ ⟨Nat.zero_le _, Nat.zero_le _⟩ rfl rfl (Nat.le_of_ble_eq_true rfl) hl.1 dX11_change_4) (fun H locs I => ?_)
  obtain ⟨x2, e_x2, hr⟩ := zb_some hr
  have K_x2 : ∀ (ls : Array Slot) (H : Heap) (locs : List Loc), lv_has ls 5 [(0, .ref (zA g 103)), (1, .int a1), (2, .int a2), (3, .int a3)] → zIV g σ (zAA g) s.heap H locs → W p l e (zrm 3 64) s m args below meth c H locs 0 0 (MQ below (zQI g r.1 r.2) args s 0 0 (zAA g)) (F0 m 26 ls [.int x2, .ref (zA g 103)]) := by
    intro ls H locs hl I
    refine zputI M I zc_103 zfw_X11_70 dX11_change_26 (fun H locs I => ?_)
    refine lv_aload_n hx hb dX11_change_29 rfl (lv_at hl 0 rfl) ?_
    refine zgetI M I zc_103 zfl_X11_70 dX11_change_30 ?_
    refine lv_if_le (tgt := 38) hx hb dX11_change_33 (by decide) (fun c6 => ?_) (fun c6 => ?_)
    · replace hr := zif_t hr c6
      refine lv_aload_n hx hb dX11_change_38 rfl (lv_at hl 0 rfl) ?_
      obtain ⟨x3, e_x3, hr⟩ := zb_some hr
      refine zcallU M I (zrunV (as := []) M I (c_X11_save l g fu e_x3) zc_103 zK11.1 (by decide) zlv_X11_149 ⟨Nat.le_of_ble_eq_true rfl, Nat.le_of_ble_eq_true rfl⟩ ⟨Nat.zero_le _, Nat.zero_le _⟩ rfl rfl (Nat.le_of_ble_eq_true rfl) hl.1 dX11_change_39) (fun H locs I => ?_)
      refine lv_aload_n hx hb dX11_change_42 rfl (lv_at hl 0 rfl) ?_
      refine lv_iload_n hx hb dX11_change_43 rfl (lv_at hl 1 rfl) ?_
      refine lv_iload_n hx hb dX11_change_44 rfl (lv_at hl 2 rfl) ?_
      obtain ⟨x4, e_x4, hr⟩ := zb_some hr
      refine zcallI M I (zrunV (as := [.int a1, .int a2]) M I (c_X11_at l g fu e_x4) zc_103 zK11.1 (by decide) zlv_X11_89 ⟨Nat.le_of_ble_eq_true rfl, Nat.le_of_ble_eq_true rfl⟩ ⟨Nat.zero_le _, Nat.zero_le _⟩ rfl rfl (Nat.le_of_ble_eq_true rfl) hl.1 dX11_change_45) (fun H locs I => ?_)
      refine lv_istore (lv' := [(4, .int x4), (0, .ref (zA g 103)), (1, .int a1), (2, .int a2), (3, .int a3)]) hx hb dX11_change_48 hl (by decide) rfl (fun ls hl => ?_)
      refine lv_aload_n hx hb dX11_change_50 rfl (lv_at hl 1 rfl) ?_
      refine lv_iload_n hx hb dX11_change_51 rfl (lv_at hl 2 rfl) ?_
      refine lv_iload_n hx hb dX11_change_52 rfl (lv_at hl 3 rfl) ?_
      refine lv_iload_n hx hb dX11_change_53 rfl (lv_at hl 4 rfl) ?_
      obtain ⟨x5, e_x5, hr⟩ := zb_some hr
      refine zcallU M I (zrunV (as := [.int a1, .int a2, .int a3]) M I (c_X11_lay l g fu e_x5) zc_103 zK11.1 (by decide) zlv_X11_152 ⟨Nat.le_of_ble_eq_true rfl, Nat.le_of_ble_eq_true rfl⟩ ⟨Nat.zero_le _, Nat.zero_le _⟩ rfl rfl (Nat.le_of_ble_eq_true rfl) hl.1 dX11_change_54) (fun H locs I => ?_)
      refine lv_iload hx hb dX11_change_57 (lv_at hl 0 rfl) ?_
      obtain rfl := Option.some.inj hr
      exact zretI M I dX11_change_59
    · replace hr := zif_f hr c6
      refine lv_iconst (v := (0 : Int32)) hx hb dX11_change_36 (by decide) ?_
      obtain rfl := Option.some.inj hr
      exact zretI M I dX11_change_37
  refine lv_if_ne (tgt := 14) hx hb dX11_change_7 (by decide) (fun c9 => ?_) (fun c9 => ?_)
  · replace e_x2 := zif_t e_x2 c9
    refine lv_iload_n hx hb dX11_change_14 rfl (lv_at hl 3 rfl) ?_
    obtain ⟨x7, e_x7, e_x2⟩ := zb_some e_x2
    refine zcallI M I (zrunS (as := [.int a3]) M I (c_X11_isSign l g fu e_x7) zls_X11_146 ⟨Nat.le_of_ble_eq_true rfl, Nat.le_of_ble_eq_true rfl⟩ ⟨Nat.zero_le _, Nat.zero_le _⟩ rfl rfl (Nat.le_of_ble_eq_true rfl) hl.1 dX11_change_15) (fun H locs I => ?_)
    refine lv_if_eq (tgt := 25) hx hb dX11_change_18 (by decide) (fun c8 => ?_) (fun c8 => ?_)
    · replace e_x2 := zif_t e_x2 c8
      refine lv_iconst (v := (2 : Int32)) hx hb dX11_change_25 (by decide) ?_
      obtain rfl := Option.some.inj e_x2
      exact K_x2 ls _ _ hl I
    · replace e_x2 := zif_f e_x2 c8
      refine lv_iconst (v := (0 : Int32)) hx hb dX11_change_21 (by decide) ?_
      refine lv_goto (tgt := 26) hx hb dX11_change_22 (by decide) ?_
      obtain rfl := Option.some.inj e_x2
      exact K_x2 ls _ _ hl I
  · replace e_x2 := zif_f e_x2 (fun hq => hq c9)
    refine lv_iconst (v := (1 : Int32)) hx hb dX11_change_10 (by decide) ?_
    refine lv_goto (tgt := 26) hx hb dX11_change_11 (by decide) ?_
    obtain rfl := Option.some.inj e_x2
    exact K_x2 ls _ _ hl I
def l_X11_turn_55 (fu : Nat) (a1 : Int32) (a2 : Int32) (a3 : Int32) : Nat → Int32 → Int32 → zmem → Option (Int32 × zmem)
  | 0, _, _, _ => none
  | n + 1, v4, v5, σ => (if (a3 - v5) ≤ (a2 + v5) then some (v4, σ) else (m_X11_at fu σ a1 (a2 + v5)).bind fun x4 => (m_X11_at fu σ a1 (a3 - v5)).bind fun x5 => ((if ¬ x4 = x5 then some (2 : Int32) else some (0 : Int32)) : Option (Int32)).bind fun x6 => (m_X11_at fu σ a1 (a3 - v5)).bind fun x7 => (m_X11_lay fu σ a1 (a2 + v5) x7).bind fun x8 => (m_X11_lay fu x8 a1 (a3 - v5) x4).bind fun x9 => l_X11_turn_55 fu a1 a2 a3 n (v4 + x6) (v5 + 1) x9)
set_option maxHeartbeats 4000000 in
set_option maxRecDepth 100000 in
theorem k_X11_turn_55 {l : Launch} {g : zgeo} {fu : Nat} {p : Program} {e : Env} {s : State} {m : MethodId} {args : Array Value} {below : List Frame} {meth : Method} {c : Code} (M : zMC RX11 cX11_turn 7 (some .int) g p m c s args meth) {a1 : Int32} {a2 : Int32} {a3 : Int32} {Q : State → Prop} : ∀ (n : Nat) (v4 : Int32) (v5 : Int32) (σ : zmem) (o : Int32 × zmem), l_X11_turn_55 fu a1 a2 a3 n v4 v5 σ = some o → ∀ (ls : Array Slot) (H : Heap) (locs : List Loc), lv_has ls 7 [(0, .ref (zA g 103)), (1, .int a1), (2, .int a2), (3, .int a3), (4, .int v4), (5, .int v5)] → zIV g σ (zAA g) s.heap H locs → (∀ (ls : Array Slot) (H : Heap) (locs : List Loc), lv_has ls 7 [(4, .int o.1)] → zIV g o.2 (zAA g) s.heap H locs → W p l e (zrm 3 64) s m args below meth c H locs 0 0 Q (F0 m 136 ls [])) → W p l e (zrm 3 64) s m args below meth c H locs 0 0 Q (F0 m 55 ls []) := by
  have hx := M.1.1
  have hb := M.1.2.1
  intro n
  induction n with
  | zero =>
    intro v4 v5 σ o hr ls H locs hl I KF
    have hr : (none : Option (Int32 × zmem)) = some o := hr
    cases hr
  | succ n ih =>
    intro v4 v5 σ o hr ls H locs hl I KF
    rw [l_X11_turn_55] at hr
    refine lv_iload_n hx hb dX11_turn_55 rfl (lv_at hl 2 rfl) ?_
    refine lv_iload hx hb dX11_turn_56 (lv_at hl 5 rfl) ?_
    refine lv_iadd hx hb dX11_turn_58 ?_
    refine lv_iload_n hx hb dX11_turn_59 rfl (lv_at hl 3 rfl) ?_
    refine lv_iload hx hb dX11_turn_60 (lv_at hl 5 rfl) ?_
    refine lv_isub hx hb dX11_turn_62 ?_
    refine lv_icmp_ge (tgt := 136) hx hb dX11_turn_63 (by decide) (fun c11 => ?_) (fun c11 => ?_)
    · replace hr := zif_t hr c11
      obtain rfl := Option.some.inj hr
      exact KF ls _ _ (lv_sub hl [4] rfl) I
    · replace hr := zif_f hr c11
      refine lv_aload_n hx hb dX11_turn_66 rfl (lv_at hl 0 rfl) ?_
      refine lv_iload_n hx hb dX11_turn_67 rfl (lv_at hl 1 rfl) ?_
      refine lv_iload_n hx hb dX11_turn_68 rfl (lv_at hl 2 rfl) ?_
      refine lv_iload hx hb dX11_turn_69 (lv_at hl 5 rfl) ?_
      refine lv_iadd hx hb dX11_turn_71 ?_
      obtain ⟨x4, e_x4, hr⟩ := zb_some hr
      refine zcallI M I (zrunV (as := [.int a1, .int (a2 + v5)]) M I (c_X11_at l g fu e_x4) zc_103 zK11.1 (by decide) zlv_X11_89 ⟨Nat.le_of_ble_eq_true rfl, Nat.le_of_ble_eq_true rfl⟩ ⟨Nat.zero_le _, Nat.zero_le _⟩ rfl rfl (Nat.le_of_ble_eq_true rfl) hl.1 dX11_turn_72) (fun H locs I => ?_)
      refine lv_istore (lv' := [(6, .int x4), (0, .ref (zA g 103)), (1, .int a1), (2, .int a2), (3, .int a3), (4, .int v4), (5, .int v5)]) hx hb dX11_turn_75 hl (by decide) rfl (fun ls hl => ?_)
      refine lv_iload hx hb dX11_turn_77 (lv_at hl 5 rfl) ?_
      refine lv_iload hx hb dX11_turn_79 (lv_at hl 0 rfl) ?_
      refine lv_aload_n hx hb dX11_turn_81 rfl (lv_at hl 1 rfl) ?_
      refine lv_iload_n hx hb dX11_turn_82 rfl (lv_at hl 2 rfl) ?_
      refine lv_iload_n hx hb dX11_turn_83 rfl (lv_at hl 4 rfl) ?_
      refine lv_iload hx hb dX11_turn_84 (lv_at hl 6 rfl) ?_
      refine lv_isub hx hb dX11_turn_86 ?_
      obtain ⟨x5, e_x5, hr⟩ := zb_some hr
      refine zcallI M I (zrunV (as := [.int a1, .int (a3 - v5)]) M I (c_X11_at l g fu e_x5) zc_103 zK11.1 (by decide) zlv_X11_89 ⟨Nat.le_of_ble_eq_true rfl, Nat.le_of_ble_eq_true rfl⟩ ⟨Nat.zero_le _, Nat.zero_le _⟩ rfl rfl (Nat.le_of_ble_eq_true rfl) hl.1 dX11_turn_87) (fun H locs I => ?_)
      obtain ⟨x6, e_x6, hr⟩ := zb_some hr
      have K_x6 : ∀ (ls : Array Slot) (H : Heap) (locs : List Loc), lv_has ls 7 [(0, .ref (zA g 103)), (1, .int a1), (2, .int a2), (3, .int a3), (5, .int v5), (6, .int x4)] → zIV g σ (zAA g) s.heap H locs → W p l e (zrm 3 64) s m args below meth c H locs 0 0 Q (F0 m 98 ls [.int x6, .int v4]) := by
        intro ls H locs hl I
        refine lv_iadd hx hb dX11_turn_98 ?_
        refine lv_istore (lv' := [(4, .int (v4 + x6)), (0, .ref (zA g 103)), (1, .int a1), (2, .int a2), (3, .int a3), (5, .int v5), (6, .int x4)]) hx hb dX11_turn_99 hl (by decide) rfl (fun ls hl => ?_)
        refine lv_aload_n hx hb dX11_turn_101 rfl (lv_at hl 1 rfl) ?_
        refine lv_iload_n hx hb dX11_turn_102 rfl (lv_at hl 2 rfl) ?_
        refine lv_iload_n hx hb dX11_turn_103 rfl (lv_at hl 3 rfl) ?_
        refine lv_iload hx hb dX11_turn_104 (lv_at hl 5 rfl) ?_
        refine lv_iadd hx hb dX11_turn_106 ?_
        refine lv_aload_n hx hb dX11_turn_107 rfl (lv_at hl 1 rfl) ?_
        refine lv_iload_n hx hb dX11_turn_108 rfl (lv_at hl 2 rfl) ?_
        refine lv_iload_n hx hb dX11_turn_109 rfl (lv_at hl 4 rfl) ?_
        refine lv_iload hx hb dX11_turn_110 (lv_at hl 5 rfl) ?_
        refine lv_isub hx hb dX11_turn_112 ?_
        obtain ⟨x7, e_x7, hr⟩ := zb_some hr
        refine zcallI M I (zrunV (as := [.int a1, .int (a3 - v5)]) M I (c_X11_at l g fu e_x7) zc_103 zK11.1 (by decide) zlv_X11_89 ⟨Nat.le_of_ble_eq_true rfl, Nat.le_of_ble_eq_true rfl⟩ ⟨Nat.zero_le _, Nat.zero_le _⟩ rfl rfl (Nat.le_of_ble_eq_true rfl) hl.1 dX11_turn_113) (fun H locs I => ?_)
        obtain ⟨x8, e_x8, hr⟩ := zb_some hr
        refine zcallU M I (zrunV (as := [.int a1, .int (a2 + v5), .int x7]) M I (c_X11_lay l g fu e_x8) zc_103 zK11.1 (by decide) zlv_X11_152 ⟨Nat.le_of_ble_eq_true rfl, Nat.le_of_ble_eq_true rfl⟩ ⟨Nat.zero_le _, Nat.zero_le _⟩ rfl rfl (Nat.le_of_ble_eq_true rfl) hl.1 dX11_turn_116) (fun H locs I => ?_)
        refine lv_aload_n hx hb dX11_turn_119 rfl (lv_at hl 1 rfl) ?_
        refine lv_iload_n hx hb dX11_turn_120 rfl (lv_at hl 2 rfl) ?_
        refine lv_iload_n hx hb dX11_turn_121 rfl (lv_at hl 4 rfl) ?_
        refine lv_iload hx hb dX11_turn_122 (lv_at hl 5 rfl) ?_
        refine lv_isub hx hb dX11_turn_124 ?_
        refine lv_iload hx hb dX11_turn_125 (lv_at hl 6 rfl) ?_
        obtain ⟨x9, e_x9, hr⟩ := zb_some hr
        refine zcallU M I (zrunV (as := [.int a1, .int (a3 - v5), .int x4]) M I (c_X11_lay l g fu e_x9) zc_103 zK11.1 (by decide) zlv_X11_152 ⟨Nat.le_of_ble_eq_true rfl, Nat.le_of_ble_eq_true rfl⟩ ⟨Nat.zero_le _, Nat.zero_le _⟩ rfl rfl (Nat.le_of_ble_eq_true rfl) hl.1 dX11_turn_127) (fun H locs I => ?_)
        refine lv_iinc (lv' := [(5, .int (v5 + 1)), (4, .int (v4 + x6)), (0, .ref (zA g 103)), (1, .int a1), (2, .int a2), (3, .int a3), (6, .int x4)]) (k := 5) (v := (v5 + 1)) hx hb dX11_turn_130 hl rfl (zi_1 _) (by decide) rfl (fun ls hl => ?_)
        refine lv_goto (tgt := 55) hx hb dX11_turn_133 (by decide) ?_
        exact ih _ _ _  _ hr ls _ _ (lv_sub hl [2, 3, 4, 5, 1, 0] rfl) I KF
      refine lv_icmp_ne (tgt := 97) hx hb dX11_turn_90 (by decide) (fun c10 => ?_) (fun c10 => ?_)
      · replace e_x6 := zif_t e_x6 c10
        refine lv_iconst (v := (2 : Int32)) hx hb dX11_turn_97 (by decide) ?_
        obtain rfl := Option.some.inj e_x6
        exact K_x6 ls _ _ (lv_sub hl [1, 2, 3, 4, 6, 0] rfl) I
      · replace e_x6 := zif_f e_x6 (fun hq => hq c10)
        refine lv_iconst (v := (0 : Int32)) hx hb dX11_turn_93 (by decide) ?_
        refine lv_goto (tgt := 98) hx hb dX11_turn_94 (by decide) ?_
        obtain rfl := Option.some.inj e_x6
        exact K_x6 ls _ _ (lv_sub hl [1, 2, 3, 4, 6, 0] rfl) I
def m_X11_turn (fu : Nat) (σ : zmem) (a1 : Int32) (a2 : Int32) (a3 : Int32) : Option (Int32 × zmem) := (m_X11_isPlace fu σ a1 a2).bind fun x1 => ((if x1 = 0 then some (1 : Int32) else (m_X11_isPlace fu σ a1 a3).bind fun x14 => (if ¬ x14 = 0 then (if a2 ≤ a3 then some (0 : Int32) else some (2 : Int32)) else some (1 : Int32))) : Option (Int32)).bind fun x2 => (if ((zst σ 103 7 x2).1 103 7) ≤ 0 then (m_X11_save fu (zst σ 103 7 x2)).bind fun x3 => (l_X11_turn_55 fu a1 a2 a3 fu (0 : Int32) (0 : Int32) x3).bind fun x12 => some (x12.1, x12.2) else some ((0 : Int32), (zst σ 103 7 x2)))
set_option maxHeartbeats 4000000 in
set_option maxRecDepth 100000 in
theorem c_X11_turn (l : Launch) (g : zgeo) (fu : Nat) {σ : zmem} {a1 : Int32} {a2 : Int32} {a3 : Int32} {r : Int32 × zmem} (hr : m_X11_turn fu σ a1 a2 a3 = some r) : zCt (zQI g r.1 r.2) l g yX11_turn cX11_turn 7 (some .int) 3 64 [.ref (zA g 103), .int a1, .int a2, .int a3] σ := by
  refine zopen (by decide) (Nat.le_of_ble_eq_true rfl) ?_
  intro p e s m below meth c M ls hl I
  have M : zMC RX11 cX11_turn 7 (some .int) g p m c s ([.ref (zA g 103), .int a1, .int a2, .int a3] : List Value).toArray meth := M
  have hl : lv_has ls 7 [(0, .ref (zA g 103)), (1, .int a1), (2, .int a2), (3, .int a3)] := hl
  generalize ([.ref (zA g 103), .int a1, .int a2, .int a3] : List Value).toArray = args at M ⊢
  have hx := M.1.1
  have hb := M.1.2.1
  unfold m_X11_turn at hr
  refine lv_aload_n hx hb dX11_turn_0 rfl (lv_at hl 0 rfl) ?_
  refine lv_aload_n hx hb dX11_turn_1 rfl (lv_at hl 0 rfl) ?_
  refine lv_iload_n hx hb dX11_turn_2 rfl (lv_at hl 1 rfl) ?_
  refine lv_iload_n hx hb dX11_turn_3 rfl (lv_at hl 2 rfl) ?_
  obtain ⟨x1, e_x1, hr⟩ := zb_some hr
  refine zcallI M I (zrunV (as := [.int a1, .int a2]) M I (c_X11_isPlace l g fu e_x1) zc_103 zK11.1 (by decide) zlv_X11_156 ⟨Nat.le_of_ble_eq_true rfl, Nat.le_of_ble_eq_true rfl⟩ ⟨Nat.zero_le _, Nat.zero_le _⟩ rfl rfl (Nat.le_of_ble_eq_true rfl) hl.1 dX11_turn_4) (fun H locs I => ?_)
  obtain ⟨x2, e_x2, hr⟩ := zb_some hr
  have K_x2 : ∀ (ls : Array Slot) (H : Heap) (locs : List Loc), lv_has ls 7 [(0, .ref (zA g 103)), (1, .int a1), (2, .int a2), (3, .int a3)] → zIV g σ (zAA g) s.heap H locs → W p l e (zrm 3 64) s m args below meth c H locs 0 0 (MQ below (zQI g r.1 r.2) args s 0 0 (zAA g)) (F0 m 33 ls [.int x2, .ref (zA g 103)]) := by
    intro ls H locs hl I
    refine zputI M I zc_103 zfw_X11_70 dX11_turn_33 (fun H locs I => ?_)
    refine lv_aload_n hx hb dX11_turn_36 rfl (lv_at hl 0 rfl) ?_
    refine zgetI M I zc_103 zfl_X11_70 dX11_turn_37 ?_
    refine lv_if_le (tgt := 45) hx hb dX11_turn_40 (by decide) (fun c13 => ?_) (fun c13 => ?_)
    · replace hr := zif_t hr c13
      refine lv_aload_n hx hb dX11_turn_45 rfl (lv_at hl 0 rfl) ?_
      obtain ⟨x3, e_x3, hr⟩ := zb_some hr
      refine zcallU M I (zrunV (as := []) M I (c_X11_save l g fu e_x3) zc_103 zK11.1 (by decide) zlv_X11_149 ⟨Nat.le_of_ble_eq_true rfl, Nat.le_of_ble_eq_true rfl⟩ ⟨Nat.zero_le _, Nat.zero_le _⟩ rfl rfl (Nat.le_of_ble_eq_true rfl) hl.1 dX11_turn_46) (fun H locs I => ?_)
      refine lv_iconst (v := (0 : Int32)) hx hb dX11_turn_49 (by decide) ?_
      refine lv_istore (lv' := [(4, .int (0 : Int32)), (0, .ref (zA g 103)), (1, .int a1), (2, .int a2), (3, .int a3)]) hx hb dX11_turn_50 hl (by decide) rfl (fun ls hl => ?_)
      refine lv_iconst (v := (0 : Int32)) hx hb dX11_turn_52 (by decide) ?_
      refine lv_istore (lv' := [(5, .int (0 : Int32)), (4, .int (0 : Int32)), (0, .ref (zA g 103)), (1, .int a1), (2, .int a2), (3, .int a3)]) hx hb dX11_turn_53 hl (by decide) rfl (fun ls hl => ?_)
      obtain ⟨x12, e_x12, hr⟩ := zb_some hr
      refine k_X11_turn_55 M  fu _ _ _  _ e_x12 ls _ _ (lv_sub hl [2, 3, 4, 5, 1, 0] rfl) I (fun ls H locs hl I => ?_)
      refine lv_iload hx hb dX11_turn_136 (lv_at hl 0 rfl) ?_
      obtain rfl := Option.some.inj hr
      exact zretI M I dX11_turn_138
    · replace hr := zif_f hr c13
      refine lv_iconst (v := (0 : Int32)) hx hb dX11_turn_43 (by decide) ?_
      obtain rfl := Option.some.inj hr
      exact zretI M I dX11_turn_44
  refine lv_if_eq (tgt := 19) hx hb dX11_turn_7 (by decide) (fun c17 => ?_) (fun c17 => ?_)
  · replace e_x2 := zif_t e_x2 c17
    refine lv_iconst (v := (1 : Int32)) hx hb dX11_turn_19 (by decide) ?_
    refine lv_goto (tgt := 33) hx hb dX11_turn_20 (by decide) ?_
    obtain rfl := Option.some.inj e_x2
    exact K_x2 ls _ _ hl I
  · replace e_x2 := zif_f e_x2 c17
    refine lv_aload_n hx hb dX11_turn_10 rfl (lv_at hl 0 rfl) ?_
    refine lv_iload_n hx hb dX11_turn_11 rfl (lv_at hl 1 rfl) ?_
    refine lv_iload_n hx hb dX11_turn_12 rfl (lv_at hl 3 rfl) ?_
    obtain ⟨x14, e_x14, e_x2⟩ := zb_some e_x2
    refine zcallI M I (zrunV (as := [.int a1, .int a3]) M I (c_X11_isPlace l g fu e_x14) zc_103 zK11.1 (by decide) zlv_X11_156 ⟨Nat.le_of_ble_eq_true rfl, Nat.le_of_ble_eq_true rfl⟩ ⟨Nat.zero_le _, Nat.zero_le _⟩ rfl rfl (Nat.le_of_ble_eq_true rfl) hl.1 dX11_turn_13) (fun H locs I => ?_)
    refine lv_if_ne (tgt := 23) hx hb dX11_turn_16 (by decide) (fun c16 => ?_) (fun c16 => ?_)
    · replace e_x2 := zif_t e_x2 c16
      refine lv_iload_n hx hb dX11_turn_23 rfl (lv_at hl 3 rfl) ?_
      refine lv_iload_n hx hb dX11_turn_24 rfl (lv_at hl 2 rfl) ?_
      refine lv_icmp_ge (tgt := 32) hx hb dX11_turn_25 (by decide) (fun c15 => ?_) (fun c15 => ?_)
      · replace e_x2 := zif_t e_x2 c15
        refine lv_iconst (v := (0 : Int32)) hx hb dX11_turn_32 (by decide) ?_
        obtain rfl := Option.some.inj e_x2
        exact K_x2 ls _ _ hl I
      · replace e_x2 := zif_f e_x2 c15
        refine lv_iconst (v := (2 : Int32)) hx hb dX11_turn_28 (by decide) ?_
        refine lv_goto (tgt := 33) hx hb dX11_turn_29 (by decide) ?_
        obtain rfl := Option.some.inj e_x2
        exact K_x2 ls _ _ hl I
    · replace e_x2 := zif_f e_x2 (fun hq => hq c16)
      refine lv_iconst (v := (1 : Int32)) hx hb dX11_turn_19 (by decide) ?_
      refine lv_goto (tgt := 33) hx hb dX11_turn_20 (by decide) ?_
      obtain rfl := Option.some.inj e_x2
      exact K_x2 ls _ _ hl I
def l_X11_copy_101 (fu : Nat) (a1 : Int32) (a2 : Int32) (a3 : Int32) (a4 : Int32) (a5 : Int32) : Nat → Int32 → zmem → Option (zmem)
  | 0, _, _ => none
  | n + 1, v6, σ => (if a3 < v6 then some σ else (m_X11_at fu σ a1 v6).bind fun x6 => (m_X11_lay fu σ a4 ((a5 + v6) - a2) x6).bind fun x7 => l_X11_copy_101 fu a1 a2 a3 a4 a5 n (v6 + 1) x7)
set_option maxHeartbeats 4000000 in
set_option maxRecDepth 100000 in
theorem k_X11_copy_101 {l : Launch} {g : zgeo} {fu : Nat} {p : Program} {e : Env} {s : State} {m : MethodId} {args : Array Value} {below : List Frame} {meth : Method} {c : Code} (M : zMC RX11 cX11_copy 7 (some .int) g p m c s args meth) {a1 : Int32} {a2 : Int32} {a3 : Int32} {a4 : Int32} {a5 : Int32} {Q : State → Prop} : ∀ (n : Nat) (v6 : Int32) (σ : zmem) (o : zmem), l_X11_copy_101 fu a1 a2 a3 a4 a5 n v6 σ = some o → ∀ (ls : Array Slot) (H : Heap) (locs : List Loc), lv_has ls 7 [(0, .ref (zA g 103)), (1, .int a1), (2, .int a2), (3, .int a3), (4, .int a4), (5, .int a5), (6, .int v6)] → zIV g σ (zAA g) s.heap H locs → (∀ (ls : Array Slot) (H : Heap) (locs : List Loc), lv_has ls 7 [(0, .ref (zA g 103)), (2, .int a2), (3, .int a3), (4, .int a4)] → zIV g o (zAA g) s.heap H locs → W p l e (zrm 3 64) s m args below meth c H locs 0 0 Q (F0 m 133 ls [])) → W p l e (zrm 3 64) s m args below meth c H locs 0 0 Q (F0 m 101 ls []) := by
  have hx := M.1.1
  have hb := M.1.2.1
  intro n
  induction n with
  | zero =>
    intro v6 σ o hr ls H locs hl I KF
    have hr : (none : Option (zmem)) = some o := hr
    cases hr
  | succ n ih =>
    intro v6 σ o hr ls H locs hl I KF
    rw [l_X11_copy_101] at hr
    refine lv_iload hx hb dX11_copy_101 (lv_at hl 6 rfl) ?_
    refine lv_iload_n hx hb dX11_copy_103 rfl (lv_at hl 3 rfl) ?_
    refine lv_icmp_gt (tgt := 133) hx hb dX11_copy_104 (by decide) (fun c8 => ?_) (fun c8 => ?_)
    · replace hr := zif_t hr c8
      obtain rfl := Option.some.inj hr
      exact KF ls _ _ (lv_sub hl [0, 2, 3, 4] rfl) I
    · replace hr := zif_f hr c8
      refine lv_aload_n hx hb dX11_copy_107 rfl (lv_at hl 0 rfl) ?_
      refine lv_iload hx hb dX11_copy_108 (lv_at hl 4 rfl) ?_
      refine lv_iload hx hb dX11_copy_110 (lv_at hl 5 rfl) ?_
      refine lv_iload hx hb dX11_copy_112 (lv_at hl 6 rfl) ?_
      refine lv_iadd hx hb dX11_copy_114 ?_
      refine lv_iload_n hx hb dX11_copy_115 rfl (lv_at hl 2 rfl) ?_
      refine lv_isub hx hb dX11_copy_116 ?_
      refine lv_aload_n hx hb dX11_copy_117 rfl (lv_at hl 0 rfl) ?_
      refine lv_iload_n hx hb dX11_copy_118 rfl (lv_at hl 1 rfl) ?_
      refine lv_iload hx hb dX11_copy_119 (lv_at hl 6 rfl) ?_
      obtain ⟨x6, e_x6, hr⟩ := zb_some hr
      refine zcallI M I (zrunV (as := [.int a1, .int v6]) M I (c_X11_at l g fu e_x6) zc_103 zK11.1 (by decide) zlv_X11_89 ⟨Nat.le_of_ble_eq_true rfl, Nat.le_of_ble_eq_true rfl⟩ ⟨Nat.zero_le _, Nat.zero_le _⟩ rfl rfl (Nat.le_of_ble_eq_true rfl) hl.1 dX11_copy_121) (fun H locs I => ?_)
      obtain ⟨x7, e_x7, hr⟩ := zb_some hr
      refine zcallU M I (zrunV (as := [.int a4, .int ((a5 + v6) - a2), .int x6]) M I (c_X11_lay l g fu e_x7) zc_103 zK11.1 (by decide) zlv_X11_152 ⟨Nat.le_of_ble_eq_true rfl, Nat.le_of_ble_eq_true rfl⟩ ⟨Nat.zero_le _, Nat.zero_le _⟩ rfl rfl (Nat.le_of_ble_eq_true rfl) hl.1 dX11_copy_124) (fun H locs I => ?_)
      refine lv_iinc (lv' := [(6, .int (v6 + 1)), (0, .ref (zA g 103)), (1, .int a1), (2, .int a2), (3, .int a3), (4, .int a4), (5, .int a5)]) (k := 6) (v := (v6 + 1)) hx hb dX11_copy_127 hl rfl (zi_1 _) (by decide) rfl (fun ls hl => ?_)
      refine lv_goto (tgt := 101) hx hb dX11_copy_130 (by decide) ?_
      exact ih _ _  _ hr ls _ _ (lv_sub hl [1, 2, 3, 4, 5, 6, 0] rfl) I KF
def m_X11_copy (fu : Nat) (σ : zmem) (a1 : Int32) (a2 : Int32) (a3 : Int32) (a4 : Int32) : Option (Int32 × zmem) := (m_X11_isPlace fu σ a1 a2).bind fun x1 => ((if x1 = 0 then some (1 : Int32) else (m_X11_isPlace fu σ a1 a3).bind fun x18 => (if x18 = 0 then some (1 : Int32) else (m_X11_isRow fu σ a4).bind fun x19 => (if ¬ x19 = 0 then (if a2 ≤ a3 then some (0 : Int32) else some (2 : Int32)) else some (1 : Int32)))) : Option (Int32)).bind fun x2 => ((if ¬ ((zst σ 103 7 x2).1 103 7) = 0 then some (zst σ 103 7 x2) else (m_X11_signs fu (zst σ 103 7 x2) a4).bind fun x14 => ((if (((x14 + a3) - a2) + (1 : Int32)) ≤ (24 : Int32) then some (0 : Int32) else some (3 : Int32)) : Option (Int32)).bind fun x15 => some (zst (zst σ 103 7 x2) 103 7 x15)) : Option (zmem)).bind fun x3 => (if (x3.1 103 7) ≤ 0 then (m_X11_save fu x3).bind fun x4 => (m_X11_signs fu x4 a4).bind fun x5 => (l_X11_copy_101 fu a1 a2 a3 a4 x5 fu a2 x4).bind fun x9 => (zrd x9 104 ((4 : Int32) + a4)).bind fun x10 => (zwr x9 104 ((4 : Int32) + a4) (x10 + ((a3 - a2) + (1 : Int32)))).bind fun s11 => (m_X11_signs fu s11 a4).bind fun x12 => some (x12, s11) else some ((0 : Int32), x3))
set_option maxHeartbeats 4000000 in
set_option maxRecDepth 100000 in
theorem c_X11_copy (l : Launch) (g : zgeo) (fu : Nat) {σ : zmem} {a1 : Int32} {a2 : Int32} {a3 : Int32} {a4 : Int32} {r : Int32 × zmem} (hr : m_X11_copy fu σ a1 a2 a3 a4 = some r) : zCt (zQI g r.1 r.2) l g yX11_copy cX11_copy 7 (some .int) 3 64 [.ref (zA g 103), .int a1, .int a2, .int a3, .int a4] σ := by
  refine zopen (by decide) (Nat.le_of_ble_eq_true rfl) ?_
  intro p e s m below meth c M ls hl I
  have M : zMC RX11 cX11_copy 7 (some .int) g p m c s ([.ref (zA g 103), .int a1, .int a2, .int a3, .int a4] : List Value).toArray meth := M
  have hl : lv_has ls 7 [(0, .ref (zA g 103)), (1, .int a1), (2, .int a2), (3, .int a3), (4, .int a4)] := hl
  generalize ([.ref (zA g 103), .int a1, .int a2, .int a3, .int a4] : List Value).toArray = args at M ⊢
  have hx := M.1.1
  have hb := M.1.2.1
  unfold m_X11_copy at hr
  refine lv_aload_n hx hb dX11_copy_0 rfl (lv_at hl 0 rfl) ?_
  refine lv_aload_n hx hb dX11_copy_1 rfl (lv_at hl 0 rfl) ?_
  refine lv_iload_n hx hb dX11_copy_2 rfl (lv_at hl 1 rfl) ?_
  refine lv_iload_n hx hb dX11_copy_3 rfl (lv_at hl 2 rfl) ?_
  obtain ⟨x1, e_x1, hr⟩ := zb_some hr
  refine zcallI M I (zrunV (as := [.int a1, .int a2]) M I (c_X11_isPlace l g fu e_x1) zc_103 zK11.1 (by decide) zlv_X11_156 ⟨Nat.le_of_ble_eq_true rfl, Nat.le_of_ble_eq_true rfl⟩ ⟨Nat.zero_le _, Nat.zero_le _⟩ rfl rfl (Nat.le_of_ble_eq_true rfl) hl.1 dX11_copy_4) (fun H locs I => ?_)
  obtain ⟨x2, e_x2, hr⟩ := zb_some hr
  have K_x2 : ∀ (ls : Array Slot) (H : Heap) (locs : List Loc), lv_has ls 7 [(0, .ref (zA g 103)), (1, .int a1), (2, .int a2), (3, .int a3), (4, .int a4)] → zIV g σ (zAA g) s.heap H locs → W p l e (zrm 3 64) s m args below meth c H locs 0 0 (MQ below (zQI g r.1 r.2) args s 0 0 (zAA g)) (F0 m 41 ls [.int x2, .ref (zA g 103)]) := by
    intro ls H locs hl I
    refine zputI M I zc_103 zfw_X11_70 dX11_copy_41 (fun H locs I => ?_)
    refine lv_aload_n hx hb dX11_copy_44 rfl (lv_at hl 0 rfl) ?_
    refine zgetI M I zc_103 zfl_X11_70 dX11_copy_45 ?_
    obtain ⟨x3, e_x3, hr⟩ := zb_some hr
    have K_x3 : ∀ (ls : Array Slot) (H : Heap) (locs : List Loc), lv_has ls 7 [(0, .ref (zA g 103)), (1, .int a1), (2, .int a2), (3, .int a3), (4, .int a4)] → zIV g x3 (zAA g) s.heap H locs → W p l e (zrm 3 64) s m args below meth c H locs 0 0 (MQ below (zQI g r.1 r.2) args s 0 0 (zAA g)) (F0 m 77 ls []) := by
      intro ls H locs hl I
      refine lv_aload_n hx hb dX11_copy_77 rfl (lv_at hl 0 rfl) ?_
      refine zgetI M I zc_103 zfl_X11_70 dX11_copy_78 ?_
      refine lv_if_le (tgt := 86) hx hb dX11_copy_81 (by decide) (fun c13 => ?_) (fun c13 => ?_)
      · replace hr := zif_t hr c13
        refine lv_aload_n hx hb dX11_copy_86 rfl (lv_at hl 0 rfl) ?_
        obtain ⟨x4, e_x4, hr⟩ := zb_some hr
        refine zcallU M I (zrunV (as := []) M I (c_X11_save l g fu e_x4) zc_103 zK11.1 (by decide) zlv_X11_149 ⟨Nat.le_of_ble_eq_true rfl, Nat.le_of_ble_eq_true rfl⟩ ⟨Nat.zero_le _, Nat.zero_le _⟩ rfl rfl (Nat.le_of_ble_eq_true rfl) hl.1 dX11_copy_87) (fun H locs I => ?_)
        refine lv_aload_n hx hb dX11_copy_90 rfl (lv_at hl 0 rfl) ?_
        refine lv_iload hx hb dX11_copy_91 (lv_at hl 4 rfl) ?_
        obtain ⟨x5, e_x5, hr⟩ := zb_some hr
        refine zcallI M I (zrunV (as := [.int a4]) M I (c_X11_signs l g fu e_x5) zc_103 zK11.1 (by decide) zlv_X11_85 ⟨Nat.le_of_ble_eq_true rfl, Nat.le_of_ble_eq_true rfl⟩ ⟨Nat.zero_le _, Nat.zero_le _⟩ rfl rfl (Nat.le_of_ble_eq_true rfl) hl.1 dX11_copy_93) (fun H locs I => ?_)
        refine lv_istore (lv' := [(5, .int x5), (0, .ref (zA g 103)), (1, .int a1), (2, .int a2), (3, .int a3), (4, .int a4)]) hx hb dX11_copy_96 hl (by decide) rfl (fun ls hl => ?_)
        refine lv_iload_n hx hb dX11_copy_98 rfl (lv_at hl 3 rfl) ?_
        refine lv_istore (lv' := [(6, .int a2), (5, .int x5), (0, .ref (zA g 103)), (1, .int a1), (2, .int a2), (3, .int a3), (4, .int a4)]) hx hb dX11_copy_99 hl (by decide) rfl (fun ls hl => ?_)
        obtain ⟨x9, e_x9, hr⟩ := zb_some hr
        refine k_X11_copy_101 M  fu _ _  _ e_x9 ls _ _ (lv_sub hl [2, 3, 4, 5, 6, 1, 0] rfl) I (fun ls H locs hl I => ?_)
        refine lv_aload_n hx hb dX11_copy_133 rfl (lv_at hl 0 rfl) ?_
        refine zgetR (j := 104) M I zc_103 zfl_X11_7 dX11_copy_134 rfl ?_
        refine lv_iconst (v := (4 : Int32)) hx hb dX11_copy_137 (by decide) ?_
        refine lv_iload hx hb dX11_copy_138 (lv_at hl 3 rfl) ?_
        refine lv_iadd hx hb dX11_copy_140 ?_
        refine lv_dup2_11 hx hb dX11_copy_141 rfl rfl ?_
        obtain ⟨x10, e_x10, hr⟩ := zb_some hr
        refine ziald M I zc_104 e_x10 dX11_copy_142 ?_
        refine lv_iload_n hx hb dX11_copy_143 rfl (lv_at hl 2 rfl) ?_
        refine lv_iload_n hx hb dX11_copy_144 rfl (lv_at hl 1 rfl) ?_
        refine lv_isub hx hb dX11_copy_145 ?_
        refine lv_iconst (v := (1 : Int32)) hx hb dX11_copy_146 (by decide) ?_
        refine lv_iadd hx hb dX11_copy_147 ?_
        refine lv_iadd hx hb dX11_copy_148 ?_
        obtain ⟨s11, e_s11, hr⟩ := zb_some hr
        refine ziast M I zc_104 e_s11 dX11_copy_149 (fun H locs I => ?_)
        refine lv_aload_n hx hb dX11_copy_150 rfl (lv_at hl 0 rfl) ?_
        refine lv_iload hx hb dX11_copy_151 (lv_at hl 3 rfl) ?_
        obtain ⟨x12, e_x12, hr⟩ := zb_some hr
        refine zcallI M I (zrunV (as := [.int a4]) M I (c_X11_signs l g fu e_x12) zc_103 zK11.1 (by decide) zlv_X11_85 ⟨Nat.le_of_ble_eq_true rfl, Nat.le_of_ble_eq_true rfl⟩ ⟨Nat.zero_le _, Nat.zero_le _⟩ rfl rfl (Nat.le_of_ble_eq_true rfl) hl.1 dX11_copy_153) (fun H locs I => ?_)
        obtain rfl := Option.some.inj hr
        exact zretI M I dX11_copy_156
      · replace hr := zif_f hr c13
        refine lv_iconst (v := (0 : Int32)) hx hb dX11_copy_84 (by decide) ?_
        obtain rfl := Option.some.inj hr
        exact zretI M I dX11_copy_85
    refine lv_if_ne (tgt := 77) hx hb dX11_copy_48 (by decide) (fun c17 => ?_) (fun c17 => ?_)
    · replace e_x3 := zif_t e_x3 c17
      obtain rfl := Option.some.inj e_x3
      exact K_x3 ls _ _ hl I
    · replace e_x3 := zif_f e_x3 (fun hq => hq c17)
      refine lv_aload_n hx hb dX11_copy_51 rfl (lv_at hl 0 rfl) ?_
      refine lv_aload_n hx hb dX11_copy_52 rfl (lv_at hl 0 rfl) ?_
      refine lv_iload hx hb dX11_copy_53 (lv_at hl 4 rfl) ?_
      obtain ⟨x14, e_x14, e_x3⟩ := zb_some e_x3
      refine zcallI M I (zrunV (as := [.int a4]) M I (c_X11_signs l g fu e_x14) zc_103 zK11.1 (by decide) zlv_X11_85 ⟨Nat.le_of_ble_eq_true rfl, Nat.le_of_ble_eq_true rfl⟩ ⟨Nat.zero_le _, Nat.zero_le _⟩ rfl rfl (Nat.le_of_ble_eq_true rfl) hl.1 dX11_copy_55) (fun H locs I => ?_)
      refine lv_iload_n hx hb dX11_copy_58 rfl (lv_at hl 3 rfl) ?_
      refine lv_iadd hx hb dX11_copy_59 ?_
      refine lv_iload_n hx hb dX11_copy_60 rfl (lv_at hl 2 rfl) ?_
      refine lv_isub hx hb dX11_copy_61 ?_
      refine lv_iconst (v := (1 : Int32)) hx hb dX11_copy_62 (by decide) ?_
      refine lv_iadd hx hb dX11_copy_63 ?_
      refine lv_bipush (v := (24 : Int32)) hx hb dX11_copy_64 (by decide) ?_
      obtain ⟨x15, e_x15, e_x3⟩ := zb_some e_x3
      have K_x15 : ∀ (ls : Array Slot) (H : Heap) (locs : List Loc), lv_has ls 7 [(0, .ref (zA g 103)), (1, .int a1), (2, .int a2), (3, .int a3), (4, .int a4)] → zIV g (zst σ 103 7 x2) (zAA g) s.heap H locs → W p l e (zrm 3 64) s m args below meth c H locs 0 0 (MQ below (zQI g r.1 r.2) args s 0 0 (zAA g)) (F0 m 74 ls [.int x15, .ref (zA g 103)]) := by
        intro ls H locs hl I
        refine zputI M I zc_103 zfw_X11_70 dX11_copy_74 (fun H locs I => ?_)
        obtain rfl := Option.some.inj e_x3
        exact K_x3 ls _ _ hl I
      refine lv_icmp_le (tgt := 73) hx hb dX11_copy_66 (by decide) (fun c16 => ?_) (fun c16 => ?_)
      · replace e_x15 := zif_t e_x15 c16
        refine lv_iconst (v := (0 : Int32)) hx hb dX11_copy_73 (by decide) ?_
        obtain rfl := Option.some.inj e_x15
        exact K_x15 ls _ _ hl I
      · replace e_x15 := zif_f e_x15 c16
        refine lv_iconst (v := (3 : Int32)) hx hb dX11_copy_69 (by decide) ?_
        refine lv_goto (tgt := 74) hx hb dX11_copy_70 (by decide) ?_
        obtain rfl := Option.some.inj e_x15
        exact K_x15 ls _ _ hl I
  refine lv_if_eq (tgt := 27) hx hb dX11_copy_7 (by decide) (fun c23 => ?_) (fun c23 => ?_)
  · replace e_x2 := zif_t e_x2 c23
    refine lv_iconst (v := (1 : Int32)) hx hb dX11_copy_27 (by decide) ?_
    refine lv_goto (tgt := 41) hx hb dX11_copy_28 (by decide) ?_
    obtain rfl := Option.some.inj e_x2
    exact K_x2 ls _ _ hl I
  · replace e_x2 := zif_f e_x2 c23
    refine lv_aload_n hx hb dX11_copy_10 rfl (lv_at hl 0 rfl) ?_
    refine lv_iload_n hx hb dX11_copy_11 rfl (lv_at hl 1 rfl) ?_
    refine lv_iload_n hx hb dX11_copy_12 rfl (lv_at hl 3 rfl) ?_
    obtain ⟨x18, e_x18, e_x2⟩ := zb_some e_x2
    refine zcallI M I (zrunV (as := [.int a1, .int a3]) M I (c_X11_isPlace l g fu e_x18) zc_103 zK11.1 (by decide) zlv_X11_156 ⟨Nat.le_of_ble_eq_true rfl, Nat.le_of_ble_eq_true rfl⟩ ⟨Nat.zero_le _, Nat.zero_le _⟩ rfl rfl (Nat.le_of_ble_eq_true rfl) hl.1 dX11_copy_13) (fun H locs I => ?_)
    refine lv_if_eq (tgt := 27) hx hb dX11_copy_16 (by decide) (fun c22 => ?_) (fun c22 => ?_)
    · replace e_x2 := zif_t e_x2 c22
      refine lv_iconst (v := (1 : Int32)) hx hb dX11_copy_27 (by decide) ?_
      refine lv_goto (tgt := 41) hx hb dX11_copy_28 (by decide) ?_
      obtain rfl := Option.some.inj e_x2
      exact K_x2 ls _ _ hl I
    · replace e_x2 := zif_f e_x2 c22
      refine lv_iload hx hb dX11_copy_19 (lv_at hl 4 rfl) ?_
      obtain ⟨x19, e_x19, e_x2⟩ := zb_some e_x2
      refine zcallI M I (zrunS (as := [.int a4]) M I (c_X11_isRow l g fu e_x19) zls_X11_81 ⟨Nat.le_of_ble_eq_true rfl, Nat.le_of_ble_eq_true rfl⟩ ⟨Nat.zero_le _, Nat.zero_le _⟩ rfl rfl (Nat.le_of_ble_eq_true rfl) hl.1 dX11_copy_21) (fun H locs I => ?_)
      refine lv_if_ne (tgt := 31) hx hb dX11_copy_24 (by decide) (fun c21 => ?_) (fun c21 => ?_)
      · replace e_x2 := zif_t e_x2 c21
        refine lv_iload_n hx hb dX11_copy_31 rfl (lv_at hl 3 rfl) ?_
        refine lv_iload_n hx hb dX11_copy_32 rfl (lv_at hl 2 rfl) ?_
        refine lv_icmp_ge (tgt := 40) hx hb dX11_copy_33 (by decide) (fun c20 => ?_) (fun c20 => ?_)
        · replace e_x2 := zif_t e_x2 c20
          refine lv_iconst (v := (0 : Int32)) hx hb dX11_copy_40 (by decide) ?_
          obtain rfl := Option.some.inj e_x2
          exact K_x2 ls _ _ hl I
        · replace e_x2 := zif_f e_x2 c20
          refine lv_iconst (v := (2 : Int32)) hx hb dX11_copy_36 (by decide) ?_
          refine lv_goto (tgt := 41) hx hb dX11_copy_37 (by decide) ?_
          obtain rfl := Option.some.inj e_x2
          exact K_x2 ls _ _ hl I
      · replace e_x2 := zif_f e_x2 (fun hq => hq c21)
        refine lv_iconst (v := (1 : Int32)) hx hb dX11_copy_27 (by decide) ?_
        refine lv_goto (tgt := 41) hx hb dX11_copy_28 (by decide) ?_
        obtain rfl := Option.some.inj e_x2
        exact K_x2 ls _ _ hl I
def l_X11_exchange_11 (fu : Nat) : Nat → Int32 → zmem → Option (zmem)
  | 0, _, _ => none
  | n + 1, v1, σ => (if (24 : Int32) ≤ v1 then some σ else (m_X11_at fu σ (0 : Int32) v1).bind fun x2 => (m_X11_at fu σ (1 : Int32) v1).bind fun x3 => (m_X11_lay fu σ (0 : Int32) v1 x3).bind fun x4 => (m_X11_lay fu x4 (1 : Int32) v1 x2).bind fun x5 => l_X11_exchange_11 fu n (v1 + 1) x5)
set_option maxHeartbeats 4000000 in
set_option maxRecDepth 100000 in
theorem k_X11_exchange_11 {l : Launch} {g : zgeo} {fu : Nat} {p : Program} {e : Env} {s : State} {m : MethodId} {args : Array Value} {below : List Frame} {meth : Method} {c : Code} (M : zMC RX11 cX11_exchange 3 (some .int) g p m c s args meth) {Q : State → Prop} : ∀ (n : Nat) (v1 : Int32) (σ : zmem) (o : zmem), l_X11_exchange_11 fu n v1 σ = some o → ∀ (ls : Array Slot) (H : Heap) (locs : List Loc), lv_has ls 3 [(0, .ref (zA g 103)), (1, .int v1)] → zIV g σ (zAA g) s.heap H locs → (∀ (ls : Array Slot) (H : Heap) (locs : List Loc), lv_has ls 3 [(0, .ref (zA g 103))] → zIV g o (zAA g) s.heap H locs → W p l e (zrm 4 98) s m args below meth c H locs 0 0 Q (F0 m 49 ls [])) → W p l e (zrm 4 98) s m args below meth c H locs 0 0 Q (F0 m 11 ls []) := by
  have hx := M.1.1
  have hb := M.1.2.1
  intro n
  induction n with
  | zero =>
    intro v1 σ o hr ls H locs hl I KF
    have hr : (none : Option (zmem)) = some o := hr
    cases hr
  | succ n ih =>
    intro v1 σ o hr ls H locs hl I KF
    rw [l_X11_exchange_11] at hr
    refine lv_iload_n hx hb dX11_exchange_11 rfl (lv_at hl 1 rfl) ?_
    refine lv_bipush (v := (24 : Int32)) hx hb dX11_exchange_12 (by decide) ?_
    refine lv_icmp_ge (tgt := 49) hx hb dX11_exchange_14 (by decide) (fun c6 => ?_) (fun c6 => ?_)
    · replace hr := zif_t hr c6
      obtain rfl := Option.some.inj hr
      exact KF ls _ _ (lv_sub hl [0] rfl) I
    · replace hr := zif_f hr c6
      refine lv_aload_n hx hb dX11_exchange_17 rfl (lv_at hl 0 rfl) ?_
      refine lv_iconst (v := (0 : Int32)) hx hb dX11_exchange_18 (by decide) ?_
      refine lv_iload_n hx hb dX11_exchange_19 rfl (lv_at hl 1 rfl) ?_
      obtain ⟨x2, e_x2, hr⟩ := zb_some hr
      refine zcallI M I (zrunV (as := [.int (0 : Int32), .int v1]) M I (c_X11_at l g fu e_x2) zc_103 zK11.1 (by decide) zlv_X11_89 ⟨Nat.le_of_ble_eq_true rfl, Nat.le_of_ble_eq_true rfl⟩ ⟨Nat.zero_le _, Nat.zero_le _⟩ rfl rfl (Nat.le_of_ble_eq_true rfl) hl.1 dX11_exchange_20) (fun H locs I => ?_)
      refine lv_istore_n (lv' := [(2, .int x2), (0, .ref (zA g 103)), (1, .int v1)]) hx hb dX11_exchange_23 rfl hl (by decide) rfl (fun ls hl => ?_)
      refine lv_aload_n hx hb dX11_exchange_24 rfl (lv_at hl 1 rfl) ?_
      refine lv_iconst (v := (0 : Int32)) hx hb dX11_exchange_25 (by decide) ?_
      refine lv_iload_n hx hb dX11_exchange_26 rfl (lv_at hl 2 rfl) ?_
      refine lv_aload_n hx hb dX11_exchange_27 rfl (lv_at hl 1 rfl) ?_
      refine lv_iconst (v := (1 : Int32)) hx hb dX11_exchange_28 (by decide) ?_
      refine lv_iload_n hx hb dX11_exchange_29 rfl (lv_at hl 2 rfl) ?_
      obtain ⟨x3, e_x3, hr⟩ := zb_some hr
      refine zcallI M I (zrunV (as := [.int (1 : Int32), .int v1]) M I (c_X11_at l g fu e_x3) zc_103 zK11.1 (by decide) zlv_X11_89 ⟨Nat.le_of_ble_eq_true rfl, Nat.le_of_ble_eq_true rfl⟩ ⟨Nat.zero_le _, Nat.zero_le _⟩ rfl rfl (Nat.le_of_ble_eq_true rfl) hl.1 dX11_exchange_30) (fun H locs I => ?_)
      obtain ⟨x4, e_x4, hr⟩ := zb_some hr
      refine zcallU M I (zrunV (as := [.int (0 : Int32), .int v1, .int x3]) M I (c_X11_lay l g fu e_x4) zc_103 zK11.1 (by decide) zlv_X11_152 ⟨Nat.le_of_ble_eq_true rfl, Nat.le_of_ble_eq_true rfl⟩ ⟨Nat.zero_le _, Nat.zero_le _⟩ rfl rfl (Nat.le_of_ble_eq_true rfl) hl.1 dX11_exchange_33) (fun H locs I => ?_)
      refine lv_aload_n hx hb dX11_exchange_36 rfl (lv_at hl 1 rfl) ?_
      refine lv_iconst (v := (1 : Int32)) hx hb dX11_exchange_37 (by decide) ?_
      refine lv_iload_n hx hb dX11_exchange_38 rfl (lv_at hl 2 rfl) ?_
      refine lv_iload_n hx hb dX11_exchange_39 rfl (lv_at hl 0 rfl) ?_
      obtain ⟨x5, e_x5, hr⟩ := zb_some hr
      refine zcallU M I (zrunV (as := [.int (1 : Int32), .int v1, .int x2]) M I (c_X11_lay l g fu e_x5) zc_103 zK11.1 (by decide) zlv_X11_152 ⟨Nat.le_of_ble_eq_true rfl, Nat.le_of_ble_eq_true rfl⟩ ⟨Nat.zero_le _, Nat.zero_le _⟩ rfl rfl (Nat.le_of_ble_eq_true rfl) hl.1 dX11_exchange_40) (fun H locs I => ?_)
      refine lv_iinc (lv' := [(1, .int (v1 + 1)), (2, .int x2), (0, .ref (zA g 103))]) (k := 2) (v := (v1 + 1)) hx hb dX11_exchange_43 hl rfl (zi_1 _) (by decide) rfl (fun ls hl => ?_)
      refine lv_goto (tgt := 11) hx hb dX11_exchange_46 (by decide) ?_
      exact ih _ _  _ hr ls _ _ (lv_sub hl [2, 0] rfl) I KF
def m_X11_exchange (fu : Nat) (σ : zmem) : Option (Int32 × zmem) := (m_X11_save fu (zst σ 103 7 (0 : Int32))).bind fun x1 => (l_X11_exchange_11 fu fu (0 : Int32) x1).bind fun x7 => (m_X11_signs fu x7 (0 : Int32)).bind fun x8 => (m_X11_signs fu x7 (1 : Int32)).bind fun x9 => (zwr x7 104 (4 : Int32) x9).bind fun s10 => (zwr s10 104 (5 : Int32) x8).bind fun s11 => (m_X11_layAnchors fu s11).bind fun x12 => some ((x12.1 103 10), x12)
set_option maxHeartbeats 4000000 in
set_option maxRecDepth 100000 in
theorem c_X11_exchange (l : Launch) (g : zgeo) (fu : Nat) {σ : zmem} {r : Int32 × zmem} (hr : m_X11_exchange fu σ = some r) : zCt (zQI g r.1 r.2) l g yX11_exchange cX11_exchange 3 (some .int) 4 98 [.ref (zA g 103)] σ := by
  refine zopen (by decide) (Nat.le_of_ble_eq_true rfl) ?_
  intro p e s m below meth c M ls hl I
  have M : zMC RX11 cX11_exchange 3 (some .int) g p m c s ([.ref (zA g 103)] : List Value).toArray meth := M
  have hl : lv_has ls 3 [(0, .ref (zA g 103))] := hl
  generalize ([.ref (zA g 103)] : List Value).toArray = args at M ⊢
  have hx := M.1.1
  have hb := M.1.2.1
  unfold m_X11_exchange at hr
  refine lv_aload_n hx hb dX11_exchange_0 rfl (lv_at hl 0 rfl) ?_
  refine lv_iconst (v := (0 : Int32)) hx hb dX11_exchange_1 (by decide) ?_
  refine zputI M I zc_103 zfw_X11_70 dX11_exchange_2 (fun H locs I => ?_)
  refine lv_aload_n hx hb dX11_exchange_5 rfl (lv_at hl 0 rfl) ?_
  obtain ⟨x1, e_x1, hr⟩ := zb_some hr
  refine zcallU M I (zrunV (as := []) M I (c_X11_save l g fu e_x1) zc_103 zK11.1 (by decide) zlv_X11_149 ⟨Nat.le_of_ble_eq_true rfl, Nat.le_of_ble_eq_true rfl⟩ ⟨Nat.zero_le _, Nat.zero_le _⟩ rfl rfl (Nat.le_of_ble_eq_true rfl) hl.1 dX11_exchange_6) (fun H locs I => ?_)
  refine lv_iconst (v := (0 : Int32)) hx hb dX11_exchange_9 (by decide) ?_
  refine lv_istore_n (lv' := [(1, .int (0 : Int32)), (0, .ref (zA g 103))]) hx hb dX11_exchange_10 rfl hl (by decide) rfl (fun ls hl => ?_)
  obtain ⟨x7, e_x7, hr⟩ := zb_some hr
  refine k_X11_exchange_11 M  fu _ _  _ e_x7 ls _ _ (lv_sub hl [1, 0] rfl) I (fun ls H locs hl I => ?_)
  refine lv_aload_n hx hb dX11_exchange_49 rfl (lv_at hl 0 rfl) ?_
  refine lv_iconst (v := (0 : Int32)) hx hb dX11_exchange_50 (by decide) ?_
  obtain ⟨x8, e_x8, hr⟩ := zb_some hr
  refine zcallI M I (zrunV (as := [.int (0 : Int32)]) M I (c_X11_signs l g fu e_x8) zc_103 zK11.1 (by decide) zlv_X11_85 ⟨Nat.le_of_ble_eq_true rfl, Nat.le_of_ble_eq_true rfl⟩ ⟨Nat.zero_le _, Nat.zero_le _⟩ rfl rfl (Nat.le_of_ble_eq_true rfl) hl.1 dX11_exchange_51) (fun H locs I => ?_)
  refine lv_istore_n (lv' := [(1, .int x8), (0, .ref (zA g 103))]) hx hb dX11_exchange_54 rfl hl (by decide) rfl (fun ls hl => ?_)
  refine lv_aload_n hx hb dX11_exchange_55 rfl (lv_at hl 1 rfl) ?_
  refine zgetR (j := 104) M I zc_103 zfl_X11_7 dX11_exchange_56 rfl ?_
  refine lv_iconst (v := (4 : Int32)) hx hb dX11_exchange_59 (by decide) ?_
  refine lv_aload_n hx hb dX11_exchange_60 rfl (lv_at hl 1 rfl) ?_
  refine lv_iconst (v := (1 : Int32)) hx hb dX11_exchange_61 (by decide) ?_
  obtain ⟨x9, e_x9, hr⟩ := zb_some hr
  refine zcallI M I (zrunV (as := [.int (1 : Int32)]) M I (c_X11_signs l g fu e_x9) zc_103 zK11.1 (by decide) zlv_X11_85 ⟨Nat.le_of_ble_eq_true rfl, Nat.le_of_ble_eq_true rfl⟩ ⟨Nat.zero_le _, Nat.zero_le _⟩ rfl rfl (Nat.le_of_ble_eq_true rfl) hl.1 dX11_exchange_62) (fun H locs I => ?_)
  obtain ⟨s10, e_s10, hr⟩ := zb_some hr
  refine ziast M I zc_104 e_s10 dX11_exchange_65 (fun H locs I => ?_)
  refine lv_aload_n hx hb dX11_exchange_66 rfl (lv_at hl 1 rfl) ?_
  refine zgetR (j := 104) M I zc_103 zfl_X11_7 dX11_exchange_67 rfl ?_
  refine lv_iconst (v := (5 : Int32)) hx hb dX11_exchange_70 (by decide) ?_
  refine lv_iload_n hx hb dX11_exchange_71 rfl (lv_at hl 0 rfl) ?_
  obtain ⟨s11, e_s11, hr⟩ := zb_some hr
  refine ziast M I zc_104 e_s11 dX11_exchange_72 (fun H locs I => ?_)
  refine lv_aload_n hx hb dX11_exchange_73 rfl (lv_at hl 1 rfl) ?_
  obtain ⟨x12, e_x12, hr⟩ := zb_some hr
  refine zcallU M I (zrunV (as := []) M I (c_X11_layAnchors l g fu e_x12) zc_103 zK11.1 (by decide) zlv_X11_107 ⟨Nat.le_of_ble_eq_true rfl, Nat.le_of_ble_eq_true rfl⟩ ⟨Nat.zero_le _, Nat.zero_le _⟩ rfl rfl (Nat.le_of_ble_eq_true rfl) hl.1 dX11_exchange_74) (fun H locs I => ?_)
  refine lv_aload_n hx hb dX11_exchange_77 rfl (lv_at hl 1 rfl) ?_
  refine zgetI M I zc_103 zfl_X11_97 dX11_exchange_78 ?_
  obtain rfl := Option.some.inj hr
  exact zretI M I dX11_exchange_81
def m_X11_isSetting (fu : Nat) (σ : zmem) (a0 : Int32) : Option (Int32) := (m_X11_within fu σ a0 (0 : Int32) (3 : Int32)).bind fun x1 => (zbo x1).bind fun b2 => some x1
set_option maxHeartbeats 4000000 in
set_option maxRecDepth 100000 in
theorem c_X11_isSetting (l : Launch) (g : zgeo) (fu : Nat) {σ : zmem} {a0 : Int32} {r : Int32} (hr : m_X11_isSetting fu σ a0 = some r) : zCt (zQI g r σ) l g yX11_isSetting cX11_isSetting 1 (some .boolean) 1 22 [.int a0] σ := by
  refine zopen (by decide) (Nat.le_of_ble_eq_true rfl) ?_
  intro p e s m below meth c M ls hl I
  have M : zMC RX11 cX11_isSetting 1 (some .boolean) g p m c s ([.int a0] : List Value).toArray meth := M
  have hl : lv_has ls 1 [(0, .int a0)] := hl
  generalize ([.int a0] : List Value).toArray = args at M ⊢
  have hx := M.1.1
  have hb := M.1.2.1
  unfold m_X11_isSetting at hr
  refine lv_iload_n hx hb dX11_isSetting_0 rfl (lv_at hl 0 rfl) ?_
  refine lv_iconst (v := (0 : Int32)) hx hb dX11_isSetting_1 (by decide) ?_
  refine lv_iconst (v := (3 : Int32)) hx hb dX11_isSetting_2 (by decide) ?_
  obtain ⟨x1, e_x1, hr⟩ := zb_some hr
  refine zcallI M I (zrunS (as := [.int a0, .int (0 : Int32), .int (3 : Int32)]) M I (c_X11_within l g fu e_x1) zls_X11_77 ⟨Nat.le_of_ble_eq_true rfl, Nat.le_of_ble_eq_true rfl⟩ ⟨Nat.zero_le _, Nat.zero_le _⟩ rfl rfl (Nat.le_of_ble_eq_true rfl) hl.1 dX11_isSetting_3) (fun H locs I => ?_)
  obtain ⟨b2, e_b2, hr⟩ := zb_some hr
  obtain rfl := Option.some.inj hr
  exact zretZ M I (zbo_some e_b2).1 dX11_isSetting_6
def m_X11_isValue (fu : Nat) (σ : zmem) (a0 : Int32) (a1 : Int32) : Option (Int32) := (if ¬ a0 = 0 then ((if ¬ a0 = (3 : Int32) then some (9 : Int32) else some (24 : Int32)) : Option (Int32)).bind fun x1 => (m_X11_within fu σ a1 (0 : Int32) x1).bind fun x2 => (zbo x2).bind fun b3 => some x2 else (m_X11_within fu σ a1 (2 : Int32) (5 : Int32)).bind fun x5 => (zbo x5).bind fun b6 => some x5)
set_option maxHeartbeats 4000000 in
set_option maxRecDepth 100000 in
theorem c_X11_isValue (l : Launch) (g : zgeo) (fu : Nat) {σ : zmem} {a0 : Int32} {a1 : Int32} {r : Int32} (hr : m_X11_isValue fu σ a0 a1 = some r) : zCt (zQI g r σ) l g yX11_isValue cX11_isValue 2 (some .boolean) 1 22 [.int a0, .int a1] σ := by
  refine zopen (by decide) (Nat.le_of_ble_eq_true rfl) ?_
  intro p e s m below meth c M ls hl I
  have M : zMC RX11 cX11_isValue 2 (some .boolean) g p m c s ([.int a0, .int a1] : List Value).toArray meth := M
  have hl : lv_has ls 2 [(0, .int a0), (1, .int a1)] := hl
  generalize ([.int a0, .int a1] : List Value).toArray = args at M ⊢
  have hx := M.1.1
  have hb := M.1.2.1
  unfold m_X11_isValue at hr
  refine lv_iload_n hx hb dX11_isValue_0 rfl (lv_at hl 0 rfl) ?_
  refine lv_if_ne (tgt := 13) hx hb dX11_isValue_1 (by decide) (fun c7 => ?_) (fun c7 => ?_)
  · replace hr := zif_t hr c7
    refine lv_iload_n hx hb dX11_isValue_13 rfl (lv_at hl 1 rfl) ?_
    refine lv_iconst (v := (0 : Int32)) hx hb dX11_isValue_14 (by decide) ?_
    refine lv_iload_n hx hb dX11_isValue_15 rfl (lv_at hl 0 rfl) ?_
    refine lv_iconst (v := (3 : Int32)) hx hb dX11_isValue_16 (by decide) ?_
    obtain ⟨x1, e_x1, hr⟩ := zb_some hr
    have K_x1 : ∀ (ls : Array Slot) (H : Heap) (locs : List Loc), lv_has ls 2 [] → zIV g σ (zAA g) s.heap H locs → W p l e (zrm 1 22) s m args below meth c H locs 0 0 (MQ below (zQI g r σ) args s 0 0 (zAA g)) (F0 m 27 ls [.int x1, .int (0 : Int32), .int a1]) := by
      intro ls H locs hl I
      obtain ⟨x2, e_x2, hr⟩ := zb_some hr
      refine zcallI M I (zrunS (as := [.int a1, .int (0 : Int32), .int x1]) M I (c_X11_within l g fu e_x2) zls_X11_77 ⟨Nat.le_of_ble_eq_true rfl, Nat.le_of_ble_eq_true rfl⟩ ⟨Nat.zero_le _, Nat.zero_le _⟩ rfl rfl (Nat.le_of_ble_eq_true rfl) hl.1 dX11_isValue_27) (fun H locs I => ?_)
      obtain ⟨b3, e_b3, hr⟩ := zb_some hr
      obtain rfl := Option.some.inj hr
      exact zretZ M I (zbo_some e_b3).1 dX11_isValue_30
    refine lv_icmp_ne (tgt := 25) hx hb dX11_isValue_17 (by decide) (fun c4 => ?_) (fun c4 => ?_)
    · replace e_x1 := zif_t e_x1 c4
      refine lv_bipush (v := (9 : Int32)) hx hb dX11_isValue_25 (by decide) ?_
      obtain rfl := Option.some.inj e_x1
      exact K_x1 ls _ _ (lv_sub hl [] rfl) I
    · replace e_x1 := zif_f e_x1 (fun hq => hq c4)
      refine lv_bipush (v := (24 : Int32)) hx hb dX11_isValue_20 (by decide) ?_
      refine lv_goto (tgt := 27) hx hb dX11_isValue_22 (by decide) ?_
      obtain rfl := Option.some.inj e_x1
      exact K_x1 ls _ _ (lv_sub hl [] rfl) I
  · replace hr := zif_f hr (fun hq => hq c7)
    refine lv_iload_n hx hb dX11_isValue_4 rfl (lv_at hl 1 rfl) ?_
    refine lv_iconst (v := (2 : Int32)) hx hb dX11_isValue_5 (by decide) ?_
    refine lv_iconst (v := (5 : Int32)) hx hb dX11_isValue_6 (by decide) ?_
    obtain ⟨x5, e_x5, hr⟩ := zb_some hr
    refine zcallI M I (zrunS (as := [.int a1, .int (2 : Int32), .int (5 : Int32)]) M I (c_X11_within l g fu e_x5) zls_X11_77 ⟨Nat.le_of_ble_eq_true rfl, Nat.le_of_ble_eq_true rfl⟩ ⟨Nat.zero_le _, Nat.zero_le _⟩ rfl rfl (Nat.le_of_ble_eq_true rfl) hl.1 dX11_isValue_7) (fun H locs I => ?_)
    refine lv_goto (tgt := 30) hx hb dX11_isValue_10 (by decide) ?_
    obtain ⟨b6, e_b6, hr⟩ := zb_some hr
    obtain rfl := Option.some.inj hr
    exact zretZ M I (zbo_some e_b6).1 dX11_isValue_30
def m_X11_set (fu : Nat) (σ : zmem) (a1 : Int32) (a2 : Int32) : Option (Int32 × zmem) := (m_X11_isSetting fu σ a1).bind fun x1 => ((if ¬ x1 = 0 then (m_X11_isValue fu σ a1 a2).bind fun x7 => (if x7 = 0 then some (2 : Int32) else some (0 : Int32)) else some (1 : Int32)) : Option (Int32)).bind fun x2 => (if ((zst σ 103 7 x2).1 103 7) ≤ 0 then (m_X11_save fu (zst σ 103 7 x2)).bind fun x3 => (zrd x3 104 a1).bind fun x4 => (zwr x3 104 a1 a2).bind fun s5 => some (x4, s5) else some ((0 : Int32), (zst σ 103 7 x2)))
set_option maxHeartbeats 4000000 in
set_option maxRecDepth 100000 in
theorem c_X11_set (l : Launch) (g : zgeo) (fu : Nat) {σ : zmem} {a1 : Int32} {a2 : Int32} {r : Int32 × zmem} (hr : m_X11_set fu σ a1 a2 = some r) : zCt (zQI g r.1 r.2) l g yX11_set cX11_set 4 (some .int) 2 43 [.ref (zA g 103), .int a1, .int a2] σ := by
  refine zopen (by decide) (Nat.le_of_ble_eq_true rfl) ?_
  intro p e s m below meth c M ls hl I
  have M : zMC RX11 cX11_set 4 (some .int) g p m c s ([.ref (zA g 103), .int a1, .int a2] : List Value).toArray meth := M
  have hl : lv_has ls 4 [(0, .ref (zA g 103)), (1, .int a1), (2, .int a2)] := hl
  generalize ([.ref (zA g 103), .int a1, .int a2] : List Value).toArray = args at M ⊢
  have hx := M.1.1
  have hb := M.1.2.1
  unfold m_X11_set at hr
  refine lv_aload_n hx hb dX11_set_0 rfl (lv_at hl 0 rfl) ?_
  refine lv_iload_n hx hb dX11_set_1 rfl (lv_at hl 1 rfl) ?_
  obtain ⟨x1, e_x1, hr⟩ := zb_some hr
  refine zcallI M I (zrunS (as := [.int a1]) M I (c_X11_isSetting l g fu e_x1) zls_X11_159 ⟨Nat.le_of_ble_eq_true rfl, Nat.le_of_ble_eq_true rfl⟩ ⟨Nat.zero_le _, Nat.zero_le _⟩ rfl rfl (Nat.le_of_ble_eq_true rfl) hl.1 dX11_set_2) (fun H locs I => ?_)
  obtain ⟨x2, e_x2, hr⟩ := zb_some hr
  have K_x2 : ∀ (ls : Array Slot) (H : Heap) (locs : List Loc), lv_has ls 4 [(0, .ref (zA g 103)), (1, .int a1), (2, .int a2)] → zIV g σ (zAA g) s.heap H locs → W p l e (zrm 2 43) s m args below meth c H locs 0 0 (MQ below (zQI g r.1 r.2) args s 0 0 (zAA g)) (F0 m 25 ls [.int x2, .ref (zA g 103)]) := by
    intro ls H locs hl I
    refine zputI M I zc_103 zfw_X11_70 dX11_set_25 (fun H locs I => ?_)
    refine lv_aload_n hx hb dX11_set_28 rfl (lv_at hl 0 rfl) ?_
    refine zgetI M I zc_103 zfl_X11_70 dX11_set_29 ?_
    refine lv_if_le (tgt := 37) hx hb dX11_set_32 (by decide) (fun c6 => ?_) (fun c6 => ?_)
    · replace hr := zif_t hr c6
      refine lv_aload_n hx hb dX11_set_37 rfl (lv_at hl 0 rfl) ?_
      obtain ⟨x3, e_x3, hr⟩ := zb_some hr
      refine zcallU M I (zrunV (as := []) M I (c_X11_save l g fu e_x3) zc_103 zK11.1 (by decide) zlv_X11_149 ⟨Nat.le_of_ble_eq_true rfl, Nat.le_of_ble_eq_true rfl⟩ ⟨Nat.zero_le _, Nat.zero_le _⟩ rfl rfl (Nat.le_of_ble_eq_true rfl) hl.1 dX11_set_38) (fun H locs I => ?_)
      refine lv_aload_n hx hb dX11_set_41 rfl (lv_at hl 0 rfl) ?_
      refine zgetR (j := 104) M I zc_103 zfl_X11_7 dX11_set_42 rfl ?_
      refine lv_iload_n hx hb dX11_set_45 rfl (lv_at hl 1 rfl) ?_
      obtain ⟨x4, e_x4, hr⟩ := zb_some hr
      refine ziald M I zc_104 e_x4 dX11_set_46 ?_
      refine lv_istore_n (lv' := [(3, .int x4), (0, .ref (zA g 103)), (1, .int a1), (2, .int a2)]) hx hb dX11_set_47 rfl hl (by decide) rfl (fun ls hl => ?_)
      refine lv_aload_n hx hb dX11_set_48 rfl (lv_at hl 1 rfl) ?_
      refine zgetR (j := 104) M I zc_103 zfl_X11_7 dX11_set_49 rfl ?_
      refine lv_iload_n hx hb dX11_set_52 rfl (lv_at hl 2 rfl) ?_
      refine lv_iload_n hx hb dX11_set_53 rfl (lv_at hl 3 rfl) ?_
      obtain ⟨s5, e_s5, hr⟩ := zb_some hr
      refine ziast M I zc_104 e_s5 dX11_set_54 (fun H locs I => ?_)
      refine lv_iload_n hx hb dX11_set_55 rfl (lv_at hl 0 rfl) ?_
      obtain rfl := Option.some.inj hr
      exact zretI M I dX11_set_56
    · replace hr := zif_f hr c6
      refine lv_iconst (v := (0 : Int32)) hx hb dX11_set_35 (by decide) ?_
      obtain rfl := Option.some.inj hr
      exact zretI M I dX11_set_36
  refine lv_if_ne (tgt := 12) hx hb dX11_set_5 (by decide) (fun c9 => ?_) (fun c9 => ?_)
  · replace e_x2 := zif_t e_x2 c9
    refine lv_iload_n hx hb dX11_set_12 rfl (lv_at hl 1 rfl) ?_
    refine lv_iload_n hx hb dX11_set_13 rfl (lv_at hl 2 rfl) ?_
    obtain ⟨x7, e_x7, e_x2⟩ := zb_some e_x2
    refine zcallI M I (zrunS (as := [.int a1, .int a2]) M I (c_X11_isValue l g fu e_x7) zls_X11_162 ⟨Nat.le_of_ble_eq_true rfl, Nat.le_of_ble_eq_true rfl⟩ ⟨Nat.zero_le _, Nat.zero_le _⟩ rfl rfl (Nat.le_of_ble_eq_true rfl) hl.1 dX11_set_14) (fun H locs I => ?_)
    refine lv_if_eq (tgt := 24) hx hb dX11_set_17 (by decide) (fun c8 => ?_) (fun c8 => ?_)
    · replace e_x2 := zif_t e_x2 c8
      refine lv_iconst (v := (2 : Int32)) hx hb dX11_set_24 (by decide) ?_
      obtain rfl := Option.some.inj e_x2
      exact K_x2 ls _ _ hl I
    · replace e_x2 := zif_f e_x2 c8
      refine lv_iconst (v := (0 : Int32)) hx hb dX11_set_20 (by decide) ?_
      refine lv_goto (tgt := 25) hx hb dX11_set_21 (by decide) ?_
      obtain rfl := Option.some.inj e_x2
      exact K_x2 ls _ _ hl I
  · replace e_x2 := zif_f e_x2 (fun hq => hq c9)
    refine lv_iconst (v := (1 : Int32)) hx hb dX11_set_8 (by decide) ?_
    refine lv_goto (tgt := 25) hx hb dX11_set_9 (by decide) ?_
    obtain rfl := Option.some.inj e_x2
    exact K_x2 ls _ _ hl I
def m_X11_append (fu : Nat) (σ : zmem) (a1 : Int32) : Option (Int32 × zmem) := (m_X11_within fu σ a1 (33 : Int32) (126 : Int32)).bind fun x1 => ((if ¬ x1 = 0 then (if ¬ (σ.1 103 5) = (60 : Int32) then some (0 : Int32) else some (2 : Int32)) else some (1 : Int32)) : Option (Int32)).bind fun x2 => (if ((zst σ 103 7 x2).1 103 7) ≤ 0 then (zwr (zst σ 103 7 x2) 108 ((zst σ 103 7 x2).1 103 5) a1).bind fun s3 => some (((zst s3 103 5 ((s3.1 103 5) + (1 : Int32))).1 103 5), (zst s3 103 5 ((s3.1 103 5) + (1 : Int32)))) else some ((0 : Int32), (zst σ 103 7 x2)))
set_option maxHeartbeats 4000000 in
set_option maxRecDepth 100000 in
theorem c_X11_append (l : Launch) (g : zgeo) (fu : Nat) {σ : zmem} {a1 : Int32} {r : Int32 × zmem} (hr : m_X11_append fu σ a1 = some r) : zCt (zQI g r.1 r.2) l g yX11_append cX11_append 2 (some .int) 1 22 [.ref (zA g 103), .int a1] σ := by
  refine zopen (by decide) (Nat.le_of_ble_eq_true rfl) ?_
  intro p e s m below meth c M ls hl I
  have M : zMC RX11 cX11_append 2 (some .int) g p m c s ([.ref (zA g 103), .int a1] : List Value).toArray meth := M
  have hl : lv_has ls 2 [(0, .ref (zA g 103)), (1, .int a1)] := hl
  generalize ([.ref (zA g 103), .int a1] : List Value).toArray = args at M ⊢
  have hx := M.1.1
  have hb := M.1.2.1
  unfold m_X11_append at hr
  refine lv_aload_n hx hb dX11_append_0 rfl (lv_at hl 0 rfl) ?_
  refine lv_iload_n hx hb dX11_append_1 rfl (lv_at hl 1 rfl) ?_
  refine lv_bipush (v := (33 : Int32)) hx hb dX11_append_2 (by decide) ?_
  refine lv_bipush (v := (126 : Int32)) hx hb dX11_append_4 (by decide) ?_
  obtain ⟨x1, e_x1, hr⟩ := zb_some hr
  refine zcallI M I (zrunS (as := [.int a1, .int (33 : Int32), .int (126 : Int32)]) M I (c_X11_within l g fu e_x1) zls_X11_77 ⟨Nat.le_of_ble_eq_true rfl, Nat.le_of_ble_eq_true rfl⟩ ⟨Nat.zero_le _, Nat.zero_le _⟩ rfl rfl (Nat.le_of_ble_eq_true rfl) hl.1 dX11_append_6) (fun H locs I => ?_)
  obtain ⟨x2, e_x2, hr⟩ := zb_some hr
  have K_x2 : ∀ (ls : Array Slot) (H : Heap) (locs : List Loc), lv_has ls 2 [(0, .ref (zA g 103)), (1, .int a1)] → zIV g σ (zAA g) s.heap H locs → W p l e (zrm 1 22) s m args below meth c H locs 0 0 (MQ below (zQI g r.1 r.2) args s 0 0 (zAA g)) (F0 m 30 ls [.int x2, .ref (zA g 103)]) := by
    intro ls H locs hl I
    refine zputI M I zc_103 zfw_X11_70 dX11_append_30 (fun H locs I => ?_)
    refine lv_aload_n hx hb dX11_append_33 rfl (lv_at hl 0 rfl) ?_
    refine zgetI M I zc_103 zfl_X11_70 dX11_append_34 ?_
    refine lv_if_le (tgt := 42) hx hb dX11_append_37 (by decide) (fun c4 => ?_) (fun c4 => ?_)
    · replace hr := zif_t hr c4
      refine lv_aload_n hx hb dX11_append_42 rfl (lv_at hl 0 rfl) ?_
      refine zgetR (j := 108) M I zc_103 zfl_X11_22 dX11_append_43 rfl ?_
      refine lv_aload_n hx hb dX11_append_46 rfl (lv_at hl 0 rfl) ?_
      refine zgetI M I zc_103 zfl_X11_165 dX11_append_47 ?_
      refine lv_iload_n hx hb dX11_append_50 rfl (lv_at hl 1 rfl) ?_
      obtain ⟨s3, e_s3, hr⟩ := zb_some hr
      refine ziast M I zc_108 e_s3 dX11_append_51 (fun H locs I => ?_)
      refine lv_aload_n hx hb dX11_append_52 rfl (lv_at hl 0 rfl) ?_
      refine lv_dup hx hb dX11_append_53 rfl ?_
      refine zgetI M I zc_103 zfl_X11_165 dX11_append_54 ?_
      refine lv_iconst (v := (1 : Int32)) hx hb dX11_append_57 (by decide) ?_
      refine lv_iadd hx hb dX11_append_58 ?_
      refine zputI M I zc_103 zfw_X11_165 dX11_append_59 (fun H locs I => ?_)
      refine lv_aload_n hx hb dX11_append_62 rfl (lv_at hl 0 rfl) ?_
      refine zgetI M I zc_103 zfl_X11_165 dX11_append_63 ?_
      obtain rfl := Option.some.inj hr
      exact zretI M I dX11_append_66
    · replace hr := zif_f hr c4
      refine lv_iconst (v := (0 : Int32)) hx hb dX11_append_40 (by decide) ?_
      obtain rfl := Option.some.inj hr
      exact zretI M I dX11_append_41
  refine lv_if_ne (tgt := 16) hx hb dX11_append_9 (by decide) (fun c6 => ?_) (fun c6 => ?_)
  · replace e_x2 := zif_t e_x2 c6
    refine lv_aload_n hx hb dX11_append_16 rfl (lv_at hl 0 rfl) ?_
    refine zgetI M I zc_103 zfl_X11_165 dX11_append_17 ?_
    refine lv_bipush (v := (60 : Int32)) hx hb dX11_append_20 (by decide) ?_
    refine lv_icmp_ne (tgt := 29) hx hb dX11_append_22 (by decide) (fun c5 => ?_) (fun c5 => ?_)
    · replace e_x2 := zif_t e_x2 c5
      refine lv_iconst (v := (0 : Int32)) hx hb dX11_append_29 (by decide) ?_
      obtain rfl := Option.some.inj e_x2
      exact K_x2 ls _ _ hl I
    · replace e_x2 := zif_f e_x2 (fun hq => hq c5)
      refine lv_iconst (v := (2 : Int32)) hx hb dX11_append_25 (by decide) ?_
      refine lv_goto (tgt := 30) hx hb dX11_append_26 (by decide) ?_
      obtain rfl := Option.some.inj e_x2
      exact K_x2 ls _ _ hl I
  · replace e_x2 := zif_f e_x2 (fun hq => hq c6)
    refine lv_iconst (v := (1 : Int32)) hx hb dX11_append_12 (by decide) ?_
    refine lv_goto (tgt := 30) hx hb dX11_append_13 (by decide) ?_
    obtain rfl := Option.some.inj e_x2
    exact K_x2 ls _ _ hl I
def m_X11_clearBuffer (fu : Nat) (σ : zmem) : Option (Int32 × zmem) := some (((zst σ 103 7 (0 : Int32)).1 103 5), (zst (zst σ 103 7 (0 : Int32)) 103 5 (0 : Int32)))
set_option maxHeartbeats 4000000 in
set_option maxRecDepth 100000 in
theorem c_X11_clearBuffer (l : Launch) (g : zgeo) (fu : Nat) {σ : zmem} {r : Int32 × zmem} (hr : m_X11_clearBuffer fu σ = some r) : zCt (zQI g r.1 r.2) l g yX11_clearBuffer cX11_clearBuffer 2 (some .int) 0 0 [.ref (zA g 103)] σ := by
  refine zopen (by decide) (Nat.le_of_ble_eq_true rfl) ?_
  intro p e s m below meth c M ls hl I
  have M : zMC RX11 cX11_clearBuffer 2 (some .int) g p m c s ([.ref (zA g 103)] : List Value).toArray meth := M
  have hl : lv_has ls 2 [(0, .ref (zA g 103))] := hl
  generalize ([.ref (zA g 103)] : List Value).toArray = args at M ⊢
  have hx := M.1.1
  have hb := M.1.2.1
  unfold m_X11_clearBuffer at hr
  refine lv_aload_n hx hb dX11_clearBuffer_0 rfl (lv_at hl 0 rfl) ?_
  refine lv_iconst (v := (0 : Int32)) hx hb dX11_clearBuffer_1 (by decide) ?_
  refine zputI M I zc_103 zfw_X11_70 dX11_clearBuffer_2 (fun H locs I => ?_)
  refine lv_aload_n hx hb dX11_clearBuffer_5 rfl (lv_at hl 0 rfl) ?_
  refine zgetI M I zc_103 zfl_X11_165 dX11_clearBuffer_6 ?_
  refine lv_istore_n (lv' := [(1, .int ((zst σ 103 7 (0 : Int32)).1 103 5)), (0, .ref (zA g 103))]) hx hb dX11_clearBuffer_9 rfl hl (by decide) rfl (fun ls hl => ?_)
  refine lv_aload_n hx hb dX11_clearBuffer_10 rfl (lv_at hl 1 rfl) ?_
  refine lv_iconst (v := (0 : Int32)) hx hb dX11_clearBuffer_11 (by decide) ?_
  refine zputI M I zc_103 zfw_X11_165 dX11_clearBuffer_12 (fun H locs I => ?_)
  refine lv_iload_n hx hb dX11_clearBuffer_15 rfl (lv_at hl 0 rfl) ?_
  obtain rfl := Option.some.inj hr
  exact zretI M I dX11_clearBuffer_16
def l_X11_takes_137 (fu : Nat) (a1 : Int32) (a3 : Int32) (a4 : Int32) (a5 : Int32) : Nat → Int32 → zmem → Option (zmem)
  | 0, _, _ => none
  | n + 1, v6, σ => (if a5 = 0 then some σ else (if a4 ≤ v6 then some σ else ((if (σ.1 103 28) = 0 then (zrd σ 122 ((((24 : Int32) * (σ.1 103 27)) + a3) - (1 : Int32))).bind fun x11 => some x11 else some (a1 - (97 : Int32))) : Option (Int32)).bind fun x7 => (zwr σ 122 ((((24 : Int32) * (σ.1 103 27)) + a3) + v6) x7).bind fun s8 => (zrd s8 123 (s8.1 103 27)).bind fun x9 => (zwr s8 123 (s8.1 103 27) (x9 + (1 : Int32))).bind fun s10 => l_X11_takes_137 fu a1 a3 a4 a5 n (v6 + 1) s10))
set_option maxHeartbeats 4000000 in
set_option maxRecDepth 100000 in
theorem k_X11_takes_137 {l : Launch} {g : zgeo} {fu : Nat} {p : Program} {e : Env} {s : State} {m : MethodId} {args : Array Value} {below : List Frame} {meth : Method} {c : Code} (M : zMC RX11 cX11_takes 7 (some .boolean) g p m c s args meth) {a1 : Int32} {a3 : Int32} {a4 : Int32} {a5 : Int32} {Q : State → Prop} : ∀ (n : Nat) (v6 : Int32) (σ : zmem) (o : zmem), l_X11_takes_137 fu a1 a3 a4 a5 n v6 σ = some o → ∀ (ls : Array Slot) (H : Heap) (locs : List Loc), lv_has ls 7 [(0, .ref (zA g 103)), (1, .int a1), (3, .int a3), (4, .int a4), (5, .int a5), (6, .int v6)] → zIV g σ (zAA g) s.heap H locs → (∀ (ls : Array Slot) (H : Heap) (locs : List Loc), lv_has ls 7 [(5, .int a5)] → zIV g o (zAA g) s.heap H locs → W p l e (zrm 2 42) s m args below meth c H locs 0 0 Q (F0 m 215 ls [])) → W p l e (zrm 2 42) s m args below meth c H locs 0 0 Q (F0 m 137 ls []) := by
  have hx := M.1.1
  have hb := M.1.2.1
  intro n
  induction n with
  | zero =>
    intro v6 σ o hr ls H locs hl I KF
    have hr : (none : Option (zmem)) = some o := hr
    cases hr
  | succ n ih =>
    intro v6 σ o hr ls H locs hl I KF
    rw [l_X11_takes_137] at hr
    refine lv_iload hx hb dX11_takes_137 (lv_at hl 4 rfl) ?_
    refine lv_if_eq (tgt := 215) hx hb dX11_takes_139 (by decide) (fun c14 => ?_) (fun c14 => ?_)
    · replace hr := zif_t hr c14
      obtain rfl := Option.some.inj hr
      exact KF ls _ _ (lv_sub hl [4] rfl) I
    · replace hr := zif_f hr c14
      refine lv_iload hx hb dX11_takes_142 (lv_at hl 5 rfl) ?_
      refine lv_iload hx hb dX11_takes_144 (lv_at hl 3 rfl) ?_
      refine lv_icmp_ge (tgt := 215) hx hb dX11_takes_146 (by decide) (fun c13 => ?_) (fun c13 => ?_)
      · replace hr := zif_t hr c13
        obtain rfl := Option.some.inj hr
        exact KF ls _ _ (lv_sub hl [4] rfl) I
      · replace hr := zif_f hr c13
        refine lv_aload_n hx hb dX11_takes_149 rfl (lv_at hl 0 rfl) ?_
        refine zgetR (j := 122) M I zc_103 zfl_X11_64 dX11_takes_150 rfl ?_
        refine lv_bipush (v := (24 : Int32)) hx hb dX11_takes_153 (by decide) ?_
        refine lv_aload_n hx hb dX11_takes_155 rfl (lv_at hl 0 rfl) ?_
        refine zgetI M I zc_103 zfl_X11_172 dX11_takes_156 ?_
        refine lv_imul hx hb dX11_takes_159 ?_
        refine lv_iload_n hx hb dX11_takes_160 rfl (lv_at hl 2 rfl) ?_
        refine lv_iadd hx hb dX11_takes_161 ?_
        refine lv_iload hx hb dX11_takes_162 (lv_at hl 5 rfl) ?_
        refine lv_iadd hx hb dX11_takes_164 ?_
        refine lv_aload_n hx hb dX11_takes_165 rfl (lv_at hl 0 rfl) ?_
        refine zgetI M I zc_103 zfl_X11_168 dX11_takes_166 ?_
        obtain ⟨x7, e_x7, hr⟩ := zb_some hr
        have K_x7 : ∀ (ls : Array Slot) (H : Heap) (locs : List Loc), lv_has ls 7 [(0, .ref (zA g 103)), (1, .int a1), (3, .int a3), (4, .int a4), (5, .int a5), (6, .int v6)] → zIV g σ (zAA g) s.heap H locs → W p l e (zrm 2 42) s m args below meth c H locs 0 0 Q (F0 m 195 ls [.int x7, .int ((((24 : Int32) * (σ.1 103 27)) + a3) + v6), .ref (zA g 122)]) := by
          intro ls H locs hl I
          obtain ⟨s8, e_s8, hr⟩ := zb_some hr
          refine ziast M I zc_122 e_s8 dX11_takes_195 (fun H locs I => ?_)
          refine lv_aload_n hx hb dX11_takes_196 rfl (lv_at hl 0 rfl) ?_
          refine zgetR (j := 123) M I zc_103 zfl_X11_67 dX11_takes_197 rfl ?_
          refine lv_aload_n hx hb dX11_takes_200 rfl (lv_at hl 0 rfl) ?_
          refine zgetI M I zc_103 zfl_X11_172 dX11_takes_201 ?_
          refine lv_dup2_11 hx hb dX11_takes_204 rfl rfl ?_
          obtain ⟨x9, e_x9, hr⟩ := zb_some hr
          refine ziald M I zc_123 e_x9 dX11_takes_205 ?_
          refine lv_iconst (v := (1 : Int32)) hx hb dX11_takes_206 (by decide) ?_
          refine lv_iadd hx hb dX11_takes_207 ?_
          obtain ⟨s10, e_s10, hr⟩ := zb_some hr
          refine ziast M I zc_123 e_s10 dX11_takes_208 (fun H locs I => ?_)
          refine lv_iinc (lv' := [(6, .int (v6 + 1)), (0, .ref (zA g 103)), (1, .int a1), (3, .int a3), (4, .int a4), (5, .int a5)]) (k := 5) (v := (v6 + 1)) hx hb dX11_takes_209 hl rfl (zi_1 _) (by decide) rfl (fun ls hl => ?_)
          refine lv_goto (tgt := 137) hx hb dX11_takes_212 (by decide) ?_
          exact ih _ _  _ hr ls _ _ (lv_sub hl [1, 2, 3, 4, 5, 0] rfl) I KF
        refine lv_if_eq (tgt := 179) hx hb dX11_takes_169 (by decide) (fun c12 => ?_) (fun c12 => ?_)
        · replace e_x7 := zif_t e_x7 c12
          refine lv_aload_n hx hb dX11_takes_179 rfl (lv_at hl 0 rfl) ?_
          refine zgetR (j := 122) M I zc_103 zfl_X11_64 dX11_takes_180 rfl ?_
          refine lv_bipush (v := (24 : Int32)) hx hb dX11_takes_183 (by decide) ?_
          refine lv_aload_n hx hb dX11_takes_185 rfl (lv_at hl 0 rfl) ?_
          refine zgetI M I zc_103 zfl_X11_172 dX11_takes_186 ?_
          refine lv_imul hx hb dX11_takes_189 ?_
          refine lv_iload_n hx hb dX11_takes_190 rfl (lv_at hl 2 rfl) ?_
          refine lv_iadd hx hb dX11_takes_191 ?_
          refine lv_iconst (v := (1 : Int32)) hx hb dX11_takes_192 (by decide) ?_
          refine lv_isub hx hb dX11_takes_193 ?_
          obtain ⟨x11, e_x11, e_x7⟩ := zb_some e_x7
          refine ziald M I zc_122 e_x11 dX11_takes_194 ?_
          obtain rfl := Option.some.inj e_x7
          exact K_x7 ls _ _ hl I
        · replace e_x7 := zif_f e_x7 c12
          refine lv_iload_n hx hb dX11_takes_172 rfl (lv_at hl 1 rfl) ?_
          refine lv_bipush (v := (97 : Int32)) hx hb dX11_takes_173 (by decide) ?_
          refine lv_isub hx hb dX11_takes_175 ?_
          refine lv_goto (tgt := 195) hx hb dX11_takes_176 (by decide) ?_
          obtain rfl := Option.some.inj e_x7
          exact K_x7 ls _ _ hl I
def m_X11_takes (fu : Nat) (σ : zmem) (a1 : Int32) : Option (Int32 × zmem) := (if ¬ a1 = (47 : Int32) then (zrd (zst σ 103 28 (0 : Int32)) 123 ((zst σ 103 28 (0 : Int32)).1 103 27)).bind fun x1 => (m_X11_isSign fu (zst σ 103 28 (0 : Int32)) (a1 - (97 : Int32))).bind fun x2 => ((if x2 = 0 then (if (σ.1 103 28) = 0 then some (0 : Int32) else (m_X11_within fu (zst σ 103 28 (0 : Int32)) a1 (50 : Int32) (57 : Int32)).bind fun x22 => (if x22 = 0 then some (0 : Int32) else some (a1 - (49 : Int32)))) else some (1 : Int32)) : Option (Int32)).bind fun x3 => ((if x3 ≤ 0 then some (0 : Int32) else (if (24 : Int32) < (x1 + x3) then some (0 : Int32) else some (1 : Int32))) : Option (Int32)).bind fun x4 => ((if x4 = 0 then some (0 : Int32) else (m_X11_isSign fu (zst σ 103 28 (0 : Int32)) (a1 - (97 : Int32))).bind fun x17 => (if x17 = 0 then some (0 : Int32) else some (1 : Int32))) : Option (Int32)).bind fun x5 => (zbo x5).bind fun b6 => (l_X11_takes_137 fu a1 x1 x3 x4 fu (0 : Int32) (zst (zst σ 103 28 (0 : Int32)) 103 28 x5)).bind fun x15 => (zbo x4).bind fun b16 => some (x4, x15) else (if ¬ ((zst (zst σ 103 28 (0 : Int32)) 103 27 (((zst σ 103 28 (0 : Int32)).1 103 27) + (1 : Int32))).1 103 27) = (1 : Int32) then some ((0 : Int32), (zst (zst σ 103 28 (0 : Int32)) 103 27 (((zst σ 103 28 (0 : Int32)).1 103 27) + (1 : Int32)))) else some ((1 : Int32), (zst (zst σ 103 28 (0 : Int32)) 103 27 (((zst σ 103 28 (0 : Int32)).1 103 27) + (1 : Int32))))))
set_option maxHeartbeats 4000000 in
set_option maxRecDepth 100000 in
theorem c_X11_takes (l : Launch) (g : zgeo) (fu : Nat) {σ : zmem} {a1 : Int32} {r : Int32 × zmem} (hr : m_X11_takes fu σ a1 = some r) : zCt (zQI g r.1 r.2) l g yX11_takes cX11_takes 7 (some .boolean) 2 42 [.ref (zA g 103), .int a1] σ := by
  refine zopen (by decide) (Nat.le_of_ble_eq_true rfl) ?_
  intro p e s m below meth c M ls hl I
  have M : zMC RX11 cX11_takes 7 (some .boolean) g p m c s ([.ref (zA g 103), .int a1] : List Value).toArray meth := M
  have hl : lv_has ls 7 [(0, .ref (zA g 103)), (1, .int a1)] := hl
  generalize ([.ref (zA g 103), .int a1] : List Value).toArray = args at M ⊢
  have hx := M.1.1
  have hb := M.1.2.1
  unfold m_X11_takes at hr
  refine lv_aload_n hx hb dX11_takes_0 rfl (lv_at hl 0 rfl) ?_
  refine zgetI M I zc_103 zfl_X11_168 dX11_takes_1 ?_
  refine lv_istore_n (lv' := [(2, .int (σ.1 103 28)), (0, .ref (zA g 103)), (1, .int a1)]) hx hb dX11_takes_4 rfl hl (by decide) rfl (fun ls hl => ?_)
  refine lv_aload_n hx hb dX11_takes_5 rfl (lv_at hl 1 rfl) ?_
  refine lv_iconst (v := (0 : Int32)) hx hb dX11_takes_6 (by decide) ?_
  refine zputZ M I (by decide) zc_103 zfw_X11_168 dX11_takes_7 (fun H locs I => ?_)
  refine lv_iload_n hx hb dX11_takes_10 rfl (lv_at hl 2 rfl) ?_
  refine lv_bipush (v := (47 : Int32)) hx hb dX11_takes_11 (by decide) ?_
  refine lv_icmp_ne (tgt := 40) hx hb dX11_takes_13 (by decide) (fun c27 => ?_) (fun c27 => ?_)
  · replace hr := zif_t hr c27
    refine lv_aload_n hx hb dX11_takes_40 rfl (lv_at hl 1 rfl) ?_
    refine zgetR (j := 123) M I zc_103 zfl_X11_67 dX11_takes_41 rfl ?_
    refine lv_aload_n hx hb dX11_takes_44 rfl (lv_at hl 1 rfl) ?_
    refine zgetI M I zc_103 zfl_X11_172 dX11_takes_45 ?_
    obtain ⟨x1, e_x1, hr⟩ := zb_some hr
    refine ziald M I zc_123 e_x1 dX11_takes_48 ?_
    refine lv_istore_n (lv' := [(3, .int x1), (2, .int (σ.1 103 28)), (0, .ref (zA g 103)), (1, .int a1)]) hx hb dX11_takes_49 rfl hl (by decide) rfl (fun ls hl => ?_)
    refine lv_iload_n hx hb dX11_takes_50 rfl (lv_at hl 3 rfl) ?_
    refine lv_bipush (v := (97 : Int32)) hx hb dX11_takes_51 (by decide) ?_
    refine lv_isub hx hb dX11_takes_53 ?_
    obtain ⟨x2, e_x2, hr⟩ := zb_some hr
    refine zcallI M I (zrunS (as := [.int (a1 - (97 : Int32))]) M I (c_X11_isSign l g fu e_x2) zls_X11_146 ⟨Nat.le_of_ble_eq_true rfl, Nat.le_of_ble_eq_true rfl⟩ ⟨Nat.zero_le _, Nat.zero_le _⟩ rfl rfl (Nat.le_of_ble_eq_true rfl) hl.1 dX11_takes_54) (fun H locs I => ?_)
    obtain ⟨x3, e_x3, hr⟩ := zb_some hr
    have K_x3 : ∀ (ls : Array Slot) (H : Heap) (locs : List Loc), lv_has ls 7 [(0, .ref (zA g 103)), (1, .int a1), (3, .int x1)] → zIV g (zst σ 103 28 (0 : Int32)) (zAA g) s.heap H locs → W p l e (zrm 2 42) s m args below meth c H locs 0 0 (MQ below (zQI g r.1 r.2) args s 0 0 (zAA g)) (F0 m 87 ls [.int x3]) := by
      intro ls H locs hl I
      refine lv_istore (lv' := [(4, .int x3), (0, .ref (zA g 103)), (1, .int a1), (3, .int x1)]) hx hb dX11_takes_87 hl (by decide) rfl (fun ls hl => ?_)
      refine lv_iload hx hb dX11_takes_89 (lv_at hl 0 rfl) ?_
      obtain ⟨x4, e_x4, hr⟩ := zb_some hr
      have K_x4 : ∀ (ls : Array Slot) (H : Heap) (locs : List Loc), lv_has ls 7 [(0, .ref (zA g 103)), (1, .int a1), (3, .int x1), (4, .int x3)] → zIV g (zst σ 103 28 (0 : Int32)) (zAA g) s.heap H locs → W p l e (zrm 2 42) s m args below meth c H locs 0 0 (MQ below (zQI g r.1 r.2) args s 0 0 (zAA g)) (F0 m 108 ls [.int x4]) := by
        intro ls H locs hl I
        refine lv_istore (lv' := [(5, .int x4), (0, .ref (zA g 103)), (1, .int a1), (3, .int x1), (4, .int x3)]) hx hb dX11_takes_108 hl (by decide) rfl (fun ls hl => ?_)
        refine lv_aload_n hx hb dX11_takes_110 rfl (lv_at hl 1 rfl) ?_
        refine lv_iload hx hb dX11_takes_111 (lv_at hl 0 rfl) ?_
        obtain ⟨x5, e_x5, hr⟩ := zb_some hr
        have K_x5 : ∀ (ls : Array Slot) (H : Heap) (locs : List Loc), lv_has ls 7 [(0, .ref (zA g 103)), (1, .int a1), (3, .int x1), (4, .int x3), (5, .int x4)] → zIV g (zst σ 103 28 (0 : Int32)) (zAA g) s.heap H locs → W p l e (zrm 2 42) s m args below meth c H locs 0 0 (MQ below (zQI g r.1 r.2) args s 0 0 (zAA g)) (F0 m 131 ls [.int x5, .ref (zA g 103)]) := by
          intro ls H locs hl I
          obtain ⟨b6, e_b6, hr⟩ := zb_some hr
          refine zputZ M I (zbo_some e_b6).1 zc_103 zfw_X11_168 dX11_takes_131 (fun H locs I => ?_)
          refine lv_iconst (v := (0 : Int32)) hx hb dX11_takes_134 (by decide) ?_
          refine lv_istore (lv' := [(6, .int (0 : Int32)), (0, .ref (zA g 103)), (1, .int a1), (3, .int x1), (4, .int x3), (5, .int x4)]) hx hb dX11_takes_135 hl (by decide) rfl (fun ls hl => ?_)
          obtain ⟨x15, e_x15, hr⟩ := zb_some hr
          refine k_X11_takes_137 M  fu _ _  _ e_x15 ls _ _ (lv_sub hl [1, 2, 3, 4, 5, 0] rfl) I (fun ls H locs hl I => ?_)
          refine lv_iload hx hb dX11_takes_215 (lv_at hl 0 rfl) ?_
          obtain ⟨b16, e_b16, hr⟩ := zb_some hr
          obtain rfl := Option.some.inj hr
          exact zretZ M I (zbo_some e_b16).1 dX11_takes_217
        refine lv_if_eq (tgt := 130) hx hb dX11_takes_113 (by decide) (fun c19 => ?_) (fun c19 => ?_)
        · replace e_x5 := zif_t e_x5 c19
          refine lv_iconst (v := (0 : Int32)) hx hb dX11_takes_130 (by decide) ?_
          obtain rfl := Option.some.inj e_x5
          exact K_x5 ls _ _ (lv_sub hl [1, 2, 3, 4, 0] rfl) I
        · replace e_x5 := zif_f e_x5 c19
          refine lv_iload_n hx hb dX11_takes_116 rfl (lv_at hl 2 rfl) ?_
          refine lv_bipush (v := (97 : Int32)) hx hb dX11_takes_117 (by decide) ?_
          refine lv_isub hx hb dX11_takes_119 ?_
          obtain ⟨x17, e_x17, e_x5⟩ := zb_some e_x5
          refine zcallI M I (zrunS (as := [.int (a1 - (97 : Int32))]) M I (c_X11_isSign l g fu e_x17) zls_X11_146 ⟨Nat.le_of_ble_eq_true rfl, Nat.le_of_ble_eq_true rfl⟩ ⟨Nat.zero_le _, Nat.zero_le _⟩ rfl rfl (Nat.le_of_ble_eq_true rfl) hl.1 dX11_takes_120) (fun H locs I => ?_)
          refine lv_if_eq (tgt := 130) hx hb dX11_takes_123 (by decide) (fun c18 => ?_) (fun c18 => ?_)
          · replace e_x5 := zif_t e_x5 c18
            refine lv_iconst (v := (0 : Int32)) hx hb dX11_takes_130 (by decide) ?_
            obtain rfl := Option.some.inj e_x5
            exact K_x5 ls _ _ (lv_sub hl [1, 2, 3, 4, 0] rfl) I
          · replace e_x5 := zif_f e_x5 c18
            refine lv_iconst (v := (1 : Int32)) hx hb dX11_takes_126 (by decide) ?_
            refine lv_goto (tgt := 131) hx hb dX11_takes_127 (by decide) ?_
            obtain rfl := Option.some.inj e_x5
            exact K_x5 ls _ _ (lv_sub hl [1, 2, 3, 4, 0] rfl) I
      refine lv_if_le (tgt := 107) hx hb dX11_takes_91 (by decide) (fun c21 => ?_) (fun c21 => ?_)
      · replace e_x4 := zif_t e_x4 c21
        refine lv_iconst (v := (0 : Int32)) hx hb dX11_takes_107 (by decide) ?_
        obtain rfl := Option.some.inj e_x4
        exact K_x4 ls _ _ (lv_sub hl [1, 2, 3, 0] rfl) I
      · replace e_x4 := zif_f e_x4 c21
        refine lv_iload_n hx hb dX11_takes_94 rfl (lv_at hl 3 rfl) ?_
        refine lv_iload hx hb dX11_takes_95 (lv_at hl 0 rfl) ?_
        refine lv_iadd hx hb dX11_takes_97 ?_
        refine lv_bipush (v := (24 : Int32)) hx hb dX11_takes_98 (by decide) ?_
        refine lv_icmp_gt (tgt := 107) hx hb dX11_takes_100 (by decide) (fun c20 => ?_) (fun c20 => ?_)
        · replace e_x4 := zif_t e_x4 c20
          refine lv_iconst (v := (0 : Int32)) hx hb dX11_takes_107 (by decide) ?_
          obtain rfl := Option.some.inj e_x4
          exact K_x4 ls _ _ (lv_sub hl [1, 2, 3, 0] rfl) I
        · replace e_x4 := zif_f e_x4 c20
          refine lv_iconst (v := (1 : Int32)) hx hb dX11_takes_103 (by decide) ?_
          refine lv_goto (tgt := 108) hx hb dX11_takes_104 (by decide) ?_
          obtain rfl := Option.some.inj e_x4
          exact K_x4 ls _ _ (lv_sub hl [1, 2, 3, 0] rfl) I
    refine lv_if_eq (tgt := 64) hx hb dX11_takes_57 (by decide) (fun c25 => ?_) (fun c25 => ?_)
    · replace e_x3 := zif_t e_x3 c25
      refine lv_iload_n hx hb dX11_takes_64 rfl (lv_at hl 1 rfl) ?_
      refine lv_if_eq (tgt := 86) hx hb dX11_takes_65 (by decide) (fun c24 => ?_) (fun c24 => ?_)
      · replace e_x3 := zif_t e_x3 c24
        refine lv_iconst (v := (0 : Int32)) hx hb dX11_takes_86 (by decide) ?_
        obtain rfl := Option.some.inj e_x3
        exact K_x3 ls _ _ (lv_sub hl [2, 3, 0] rfl) I
      · replace e_x3 := zif_f e_x3 c24
        refine lv_iload_n hx hb dX11_takes_68 rfl (lv_at hl 3 rfl) ?_
        refine lv_bipush (v := (50 : Int32)) hx hb dX11_takes_69 (by decide) ?_
        refine lv_bipush (v := (57 : Int32)) hx hb dX11_takes_71 (by decide) ?_
        obtain ⟨x22, e_x22, e_x3⟩ := zb_some e_x3
        refine zcallI M I (zrunS (as := [.int a1, .int (50 : Int32), .int (57 : Int32)]) M I (c_X11_within l g fu e_x22) zls_X11_77 ⟨Nat.le_of_ble_eq_true rfl, Nat.le_of_ble_eq_true rfl⟩ ⟨Nat.zero_le _, Nat.zero_le _⟩ rfl rfl (Nat.le_of_ble_eq_true rfl) hl.1 dX11_takes_73) (fun H locs I => ?_)
        refine lv_if_eq (tgt := 86) hx hb dX11_takes_76 (by decide) (fun c23 => ?_) (fun c23 => ?_)
        · replace e_x3 := zif_t e_x3 c23
          refine lv_iconst (v := (0 : Int32)) hx hb dX11_takes_86 (by decide) ?_
          obtain rfl := Option.some.inj e_x3
          exact K_x3 ls _ _ (lv_sub hl [2, 3, 0] rfl) I
        · replace e_x3 := zif_f e_x3 c23
          refine lv_iload_n hx hb dX11_takes_79 rfl (lv_at hl 3 rfl) ?_
          refine lv_bipush (v := (49 : Int32)) hx hb dX11_takes_80 (by decide) ?_
          refine lv_isub hx hb dX11_takes_82 ?_
          refine lv_goto (tgt := 87) hx hb dX11_takes_83 (by decide) ?_
          obtain rfl := Option.some.inj e_x3
          exact K_x3 ls _ _ (lv_sub hl [2, 3, 0] rfl) I
    · replace e_x3 := zif_f e_x3 c25
      refine lv_iconst (v := (1 : Int32)) hx hb dX11_takes_60 (by decide) ?_
      refine lv_goto (tgt := 87) hx hb dX11_takes_61 (by decide) ?_
      obtain rfl := Option.some.inj e_x3
      exact K_x3 ls _ _ (lv_sub hl [2, 3, 0] rfl) I
  · replace hr := zif_f hr (fun hq => hq c27)
    refine lv_aload_n hx hb dX11_takes_16 rfl (lv_at hl 1 rfl) ?_
    refine lv_dup hx hb dX11_takes_17 rfl ?_
    refine zgetI M I zc_103 zfl_X11_172 dX11_takes_18 ?_
    refine lv_iconst (v := (1 : Int32)) hx hb dX11_takes_21 (by decide) ?_
    refine lv_iadd hx hb dX11_takes_22 ?_
    refine zputI M I zc_103 zfw_X11_172 dX11_takes_23 (fun H locs I => ?_)
    refine lv_aload_n hx hb dX11_takes_26 rfl (lv_at hl 1 rfl) ?_
    refine zgetI M I zc_103 zfl_X11_172 dX11_takes_27 ?_
    refine lv_iconst (v := (1 : Int32)) hx hb dX11_takes_30 (by decide) ?_
    refine lv_icmp_ne (tgt := 38) hx hb dX11_takes_31 (by decide) (fun c26 => ?_) (fun c26 => ?_)
    · replace hr := zif_t hr c26
      refine lv_iconst (v := (0 : Int32)) hx hb dX11_takes_38 (by decide) ?_
      obtain rfl := Option.some.inj hr
      exact zretZ M I (Or.inl rfl) dX11_takes_39
    · replace hr := zif_f hr (fun hq => hq c26)
      refine lv_iconst (v := (1 : Int32)) hx hb dX11_takes_34 (by decide) ?_
      refine lv_goto (tgt := 39) hx hb dX11_takes_35 (by decide) ?_
      obtain rfl := Option.some.inj hr
      exact zretZ M I (Or.inr rfl) dX11_takes_39
def l_X11_rightUpTo_26 (fu : Nat) : Nat → Int32 → zmem → Option (Int32 × zmem)
  | 0, _, _ => none
  | n + 1, v1, σ => (if (σ.1 103 5) ≤ v1 then some (v1, σ) else (zrd σ 108 v1).bind fun x3 => (m_X11_takes fu σ x3).bind fun x4 => (if x4.1 = 0 then some (v1, x4.2) else l_X11_rightUpTo_26 fu n (v1 + 1) x4.2))
set_option maxHeartbeats 4000000 in
set_option maxRecDepth 100000 in
theorem k_X11_rightUpTo_26 {l : Launch} {g : zgeo} {fu : Nat} {p : Program} {e : Env} {s : State} {m : MethodId} {args : Array Value} {below : List Frame} {meth : Method} {c : Code} (M : zMC RX11 cX11_rightUpTo 2 (some .int) g p m c s args meth) {Q : State → Prop} : ∀ (n : Nat) (v1 : Int32) (σ : zmem) (o : Int32 × zmem), l_X11_rightUpTo_26 fu n v1 σ = some o → ∀ (ls : Array Slot) (H : Heap) (locs : List Loc), lv_has ls 2 [(0, .ref (zA g 103)), (1, .int v1)] → zIV g σ (zAA g) s.heap H locs → (∀ (ls : Array Slot) (H : Heap) (locs : List Loc), lv_has ls 2 [(1, .int o.1)] → zIV g o.2 (zAA g) s.heap H locs → W p l e (zrm 3 68) s m args below meth c H locs 0 0 Q (F0 m 53 ls [])) → W p l e (zrm 3 68) s m args below meth c H locs 0 0 Q (F0 m 26 ls []) := by
  have hx := M.1.1
  have hb := M.1.2.1
  intro n
  induction n with
  | zero =>
    intro v1 σ o hr ls H locs hl I KF
    have hr : (none : Option (Int32 × zmem)) = some o := hr
    cases hr
  | succ n ih =>
    intro v1 σ o hr ls H locs hl I KF
    rw [l_X11_rightUpTo_26] at hr
    refine lv_iload_n hx hb dX11_rightUpTo_26 rfl (lv_at hl 1 rfl) ?_
    refine lv_aload_n hx hb dX11_rightUpTo_27 rfl (lv_at hl 0 rfl) ?_
    refine zgetI M I zc_103 zfl_X11_165 dX11_rightUpTo_28 ?_
    refine lv_icmp_ge (tgt := 53) hx hb dX11_rightUpTo_31 (by decide) (fun c6 => ?_) (fun c6 => ?_)
    · replace hr := zif_t hr c6
      obtain rfl := Option.some.inj hr
      exact KF ls _ _ (lv_sub hl [1] rfl) I
    · replace hr := zif_f hr c6
      refine lv_aload_n hx hb dX11_rightUpTo_34 rfl (lv_at hl 0 rfl) ?_
      refine lv_aload_n hx hb dX11_rightUpTo_35 rfl (lv_at hl 0 rfl) ?_
      refine zgetR (j := 108) M I zc_103 zfl_X11_22 dX11_rightUpTo_36 rfl ?_
      refine lv_iload_n hx hb dX11_rightUpTo_39 rfl (lv_at hl 1 rfl) ?_
      obtain ⟨x3, e_x3, hr⟩ := zb_some hr
      refine ziald M I zc_108 e_x3 dX11_rightUpTo_40 ?_
      obtain ⟨x4, e_x4, hr⟩ := zb_some hr
      refine zcallI M I (zrunV (as := [.int x3]) M I (c_X11_takes l g fu e_x4) zc_103 zK11.1 (by decide) zlv_X11_175 ⟨Nat.le_of_ble_eq_true rfl, Nat.le_of_ble_eq_true rfl⟩ ⟨Nat.zero_le _, Nat.zero_le _⟩ rfl rfl (Nat.le_of_ble_eq_true rfl) hl.1 dX11_rightUpTo_41) (fun H locs I => ?_)
      refine lv_if_eq (tgt := 53) hx hb dX11_rightUpTo_44 (by decide) (fun c5 => ?_) (fun c5 => ?_)
      · replace hr := zif_t hr c5
        obtain rfl := Option.some.inj hr
        exact KF ls _ _ (lv_sub hl [1] rfl) I
      · replace hr := zif_f hr c5
        refine lv_iinc (lv' := [(1, .int (v1 + 1)), (0, .ref (zA g 103))]) (k := 1) (v := (v1 + 1)) hx hb dX11_rightUpTo_47 hl rfl (zi_1 _) (by decide) rfl (fun ls hl => ?_)
        refine lv_goto (tgt := 26) hx hb dX11_rightUpTo_50 (by decide) ?_
        exact ih _ _  _ hr ls _ _ (lv_sub hl [1, 0] rfl) I KF
def m_X11_rightUpTo (fu : Nat) (σ : zmem) : Option (Int32 × zmem) := (zwr σ 123 (0 : Int32) (0 : Int32)).bind fun s1 => (zwr s1 123 (1 : Int32) (0 : Int32)).bind fun s2 => (l_X11_rightUpTo_26 fu fu (0 : Int32) (zst (zst s2 103 27 (0 : Int32)) 103 28 (0 : Int32))).bind fun x7 => some (x7.1, x7.2)
set_option maxHeartbeats 4000000 in
set_option maxRecDepth 100000 in
theorem c_X11_rightUpTo (l : Launch) (g : zgeo) (fu : Nat) {σ : zmem} {r : Int32 × zmem} (hr : m_X11_rightUpTo fu σ = some r) : zCt (zQI g r.1 r.2) l g yX11_rightUpTo cX11_rightUpTo 2 (some .int) 3 68 [.ref (zA g 103)] σ := by
  refine zopen (by decide) (Nat.le_of_ble_eq_true rfl) ?_
  intro p e s m below meth c M ls hl I
  have M : zMC RX11 cX11_rightUpTo 2 (some .int) g p m c s ([.ref (zA g 103)] : List Value).toArray meth := M
  have hl : lv_has ls 2 [(0, .ref (zA g 103))] := hl
  generalize ([.ref (zA g 103)] : List Value).toArray = args at M ⊢
  have hx := M.1.1
  have hb := M.1.2.1
  unfold m_X11_rightUpTo at hr
  refine lv_aload_n hx hb dX11_rightUpTo_0 rfl (lv_at hl 0 rfl) ?_
  refine zgetR (j := 123) M I zc_103 zfl_X11_67 dX11_rightUpTo_1 rfl ?_
  refine lv_iconst (v := (0 : Int32)) hx hb dX11_rightUpTo_4 (by decide) ?_
  refine lv_iconst (v := (0 : Int32)) hx hb dX11_rightUpTo_5 (by decide) ?_
  obtain ⟨s1, e_s1, hr⟩ := zb_some hr
  refine ziast M I zc_123 e_s1 dX11_rightUpTo_6 (fun H locs I => ?_)
  refine lv_aload_n hx hb dX11_rightUpTo_7 rfl (lv_at hl 0 rfl) ?_
  refine zgetR (j := 123) M I zc_103 zfl_X11_67 dX11_rightUpTo_8 rfl ?_
  refine lv_iconst (v := (1 : Int32)) hx hb dX11_rightUpTo_11 (by decide) ?_
  refine lv_iconst (v := (0 : Int32)) hx hb dX11_rightUpTo_12 (by decide) ?_
  obtain ⟨s2, e_s2, hr⟩ := zb_some hr
  refine ziast M I zc_123 e_s2 dX11_rightUpTo_13 (fun H locs I => ?_)
  refine lv_aload_n hx hb dX11_rightUpTo_14 rfl (lv_at hl 0 rfl) ?_
  refine lv_iconst (v := (0 : Int32)) hx hb dX11_rightUpTo_15 (by decide) ?_
  refine zputI M I zc_103 zfw_X11_172 dX11_rightUpTo_16 (fun H locs I => ?_)
  refine lv_aload_n hx hb dX11_rightUpTo_19 rfl (lv_at hl 0 rfl) ?_
  refine lv_iconst (v := (0 : Int32)) hx hb dX11_rightUpTo_20 (by decide) ?_
  refine zputZ M I (by decide) zc_103 zfw_X11_168 dX11_rightUpTo_21 (fun H locs I => ?_)
  refine lv_iconst (v := (0 : Int32)) hx hb dX11_rightUpTo_24 (by decide) ?_
  refine lv_istore_n (lv' := [(1, .int (0 : Int32)), (0, .ref (zA g 103))]) hx hb dX11_rightUpTo_25 rfl hl (by decide) rfl (fun ls hl => ?_)
  obtain ⟨x7, e_x7, hr⟩ := zb_some hr
  refine k_X11_rightUpTo_26 M  fu _ _  _ e_x7 ls _ _ (lv_sub hl [1, 0] rfl) I (fun ls H locs hl I => ?_)
  refine lv_iload_n hx hb dX11_rightUpTo_53 rfl (lv_at hl 0 rfl) ?_
  obtain rfl := Option.some.inj hr
  exact zretI M I dX11_rightUpTo_54
def m_X11_firstError (fu : Nat) (σ : zmem) : Option (Int32 × zmem) := (m_X11_rightUpTo fu (zst σ 103 7 (0 : Int32))).bind fun x1 => some (x1.1, x1.2)
set_option maxHeartbeats 4000000 in
set_option maxRecDepth 100000 in
theorem c_X11_firstError (l : Launch) (g : zgeo) (fu : Nat) {σ : zmem} {r : Int32 × zmem} (hr : m_X11_firstError fu σ = some r) : zCt (zQI g r.1 r.2) l g yX11_firstError cX11_firstError 1 (some .int) 4 89 [.ref (zA g 103)] σ := by
  refine zopen (by decide) (Nat.le_of_ble_eq_true rfl) ?_
  intro p e s m below meth c M ls hl I
  have M : zMC RX11 cX11_firstError 1 (some .int) g p m c s ([.ref (zA g 103)] : List Value).toArray meth := M
  have hl : lv_has ls 1 [(0, .ref (zA g 103))] := hl
  generalize ([.ref (zA g 103)] : List Value).toArray = args at M ⊢
  have hx := M.1.1
  have hb := M.1.2.1
  unfold m_X11_firstError at hr
  refine lv_aload_n hx hb dX11_firstError_0 rfl (lv_at hl 0 rfl) ?_
  refine lv_iconst (v := (0 : Int32)) hx hb dX11_firstError_1 (by decide) ?_
  refine zputI M I zc_103 zfw_X11_70 dX11_firstError_2 (fun H locs I => ?_)
  refine lv_aload_n hx hb dX11_firstError_5 rfl (lv_at hl 0 rfl) ?_
  obtain ⟨x1, e_x1, hr⟩ := zb_some hr
  refine zcallI M I (zrunV (as := []) M I (c_X11_rightUpTo l g fu e_x1) zc_103 zK11.1 (by decide) zlv_X11_178 ⟨Nat.le_of_ble_eq_true rfl, Nat.le_of_ble_eq_true rfl⟩ ⟨Nat.zero_le _, Nat.zero_le _⟩ rfl rfl (Nat.le_of_ble_eq_true rfl) hl.1 dX11_firstError_6) (fun H locs I => ?_)
  obtain rfl := Option.some.inj hr
  exact zretI M I dX11_firstError_9
def l_X11_read_69 (fu : Nat) (a1 : Int32) : Nat → Int32 → zmem → Option (zmem)
  | 0, _, _ => none
  | n + 1, v2, σ => (if (24 : Int32) ≤ v2 then some σ else (zrd σ 123 a1).bind fun x6 => ((if x6 ≤ v2 then some (0 : Int32) else (zrd σ 122 (((24 : Int32) * a1) + v2)).bind fun x9 => some x9) : Option (Int32)).bind fun x7 => (m_X11_lay fu σ a1 v2 x7).bind fun x8 => l_X11_read_69 fu a1 n (v2 + 1) x8)
set_option maxHeartbeats 4000000 in
set_option maxRecDepth 100000 in
theorem k_X11_read_69 {l : Launch} {g : zgeo} {fu : Nat} {p : Program} {e : Env} {s : State} {m : MethodId} {args : Array Value} {below : List Frame} {meth : Method} {c : Code} (M : zMC RX11 cX11_read 3 (some .int) g p m c s args meth) {a1 : Int32} {Q : State → Prop} : ∀ (n : Nat) (v2 : Int32) (σ : zmem) (o : zmem), l_X11_read_69 fu a1 n v2 σ = some o → ∀ (ls : Array Slot) (H : Heap) (locs : List Loc), lv_has ls 3 [(0, .ref (zA g 103)), (1, .int a1), (2, .int v2)] → zIV g σ (zAA g) s.heap H locs → (∀ (ls : Array Slot) (H : Heap) (locs : List Loc), lv_has ls 3 [(0, .ref (zA g 103)), (1, .int a1)] → zIV g o (zAA g) s.heap H locs → W p l e (zrm 4 98) s m args below meth c H locs 0 0 Q (F0 m 112 ls [])) → W p l e (zrm 4 98) s m args below meth c H locs 0 0 Q (F0 m 69 ls []) := by
  have hx := M.1.1
  have hb := M.1.2.1
  intro n
  induction n with
  | zero =>
    intro v2 σ o hr ls H locs hl I KF
    have hr : (none : Option (zmem)) = some o := hr
    cases hr
  | succ n ih =>
    intro v2 σ o hr ls H locs hl I KF
    rw [l_X11_read_69] at hr
    refine lv_iload_n hx hb dX11_read_69 rfl (lv_at hl 2 rfl) ?_
    refine lv_bipush (v := (24 : Int32)) hx hb dX11_read_70 (by decide) ?_
    refine lv_icmp_ge (tgt := 112) hx hb dX11_read_72 (by decide) (fun c11 => ?_) (fun c11 => ?_)
    · replace hr := zif_t hr c11
      obtain rfl := Option.some.inj hr
      exact KF ls _ _ (lv_sub hl [0, 1] rfl) I
    · replace hr := zif_f hr c11
      refine lv_aload_n hx hb dX11_read_75 rfl (lv_at hl 0 rfl) ?_
      refine lv_iload_n hx hb dX11_read_76 rfl (lv_at hl 1 rfl) ?_
      refine lv_iload_n hx hb dX11_read_77 rfl (lv_at hl 2 rfl) ?_
      refine lv_iload_n hx hb dX11_read_78 rfl (lv_at hl 2 rfl) ?_
      refine lv_aload_n hx hb dX11_read_79 rfl (lv_at hl 0 rfl) ?_
      refine zgetR (j := 123) M I zc_103 zfl_X11_67 dX11_read_80 rfl ?_
      refine lv_iload_n hx hb dX11_read_83 rfl (lv_at hl 1 rfl) ?_
      obtain ⟨x6, e_x6, hr⟩ := zb_some hr
      refine ziald M I zc_123 e_x6 dX11_read_84 ?_
      obtain ⟨x7, e_x7, hr⟩ := zb_some hr
      have K_x7 : ∀ (ls : Array Slot) (H : Heap) (locs : List Loc), lv_has ls 3 [(0, .ref (zA g 103)), (1, .int a1), (2, .int v2)] → zIV g σ (zAA g) s.heap H locs → W p l e (zrm 4 98) s m args below meth c H locs 0 0 Q (F0 m 103 ls [.int x7, .int v2, .int a1, .ref (zA g 103)]) := by
        intro ls H locs hl I
        obtain ⟨x8, e_x8, hr⟩ := zb_some hr
        refine zcallU M I (zrunV (as := [.int a1, .int v2, .int x7]) M I (c_X11_lay l g fu e_x8) zc_103 zK11.1 (by decide) zlv_X11_152 ⟨Nat.le_of_ble_eq_true rfl, Nat.le_of_ble_eq_true rfl⟩ ⟨Nat.zero_le _, Nat.zero_le _⟩ rfl rfl (Nat.le_of_ble_eq_true rfl) hl.1 dX11_read_103) (fun H locs I => ?_)
        refine lv_iinc (lv' := [(2, .int (v2 + 1)), (0, .ref (zA g 103)), (1, .int a1)]) (k := 2) (v := (v2 + 1)) hx hb dX11_read_106 hl rfl (zi_1 _) (by decide) rfl (fun ls hl => ?_)
        refine lv_goto (tgt := 69) hx hb dX11_read_109 (by decide) ?_
        exact ih _ _  _ hr ls _ _ (lv_sub hl [1, 2, 0] rfl) I KF
      refine lv_icmp_ge (tgt := 102) hx hb dX11_read_85 (by decide) (fun c10 => ?_) (fun c10 => ?_)
      · replace e_x7 := zif_t e_x7 c10
        refine lv_iconst (v := (0 : Int32)) hx hb dX11_read_102 (by decide) ?_
        obtain rfl := Option.some.inj e_x7
        exact K_x7 ls _ _ hl I
      · replace e_x7 := zif_f e_x7 c10
        refine lv_aload_n hx hb dX11_read_88 rfl (lv_at hl 0 rfl) ?_
        refine zgetR (j := 122) M I zc_103 zfl_X11_64 dX11_read_89 rfl ?_
        refine lv_bipush (v := (24 : Int32)) hx hb dX11_read_92 (by decide) ?_
        refine lv_iload_n hx hb dX11_read_94 rfl (lv_at hl 1 rfl) ?_
        refine lv_imul hx hb dX11_read_95 ?_
        refine lv_iload_n hx hb dX11_read_96 rfl (lv_at hl 2 rfl) ?_
        refine lv_iadd hx hb dX11_read_97 ?_
        obtain ⟨x9, e_x9, e_x7⟩ := zb_some e_x7
        refine ziald M I zc_122 e_x9 dX11_read_98 ?_
        refine lv_goto (tgt := 103) hx hb dX11_read_99 (by decide) ?_
        obtain rfl := Option.some.inj e_x7
        exact K_x7 ls _ _ hl I
def l_X11_read_48 (fu : Nat) : Nat → Int32 → zmem → Option (zmem)
  | 0, _, _ => none
  | n + 1, v1, σ => (if (2 : Int32) ≤ v1 then some σ else (zrd σ 123 v1).bind fun x4 => (zwr σ 104 ((4 : Int32) + v1) x4).bind fun s5 => (l_X11_read_69 fu v1 fu (0 : Int32) s5).bind fun x12 => l_X11_read_48 fu n (v1 + 1) x12)
set_option maxHeartbeats 4000000 in
set_option maxRecDepth 100000 in
theorem k_X11_read_48 {l : Launch} {g : zgeo} {fu : Nat} {p : Program} {e : Env} {s : State} {m : MethodId} {args : Array Value} {below : List Frame} {meth : Method} {c : Code} (M : zMC RX11 cX11_read 3 (some .int) g p m c s args meth) {Q : State → Prop} : ∀ (n : Nat) (v1 : Int32) (σ : zmem) (o : zmem), l_X11_read_48 fu n v1 σ = some o → ∀ (ls : Array Slot) (H : Heap) (locs : List Loc), lv_has ls 3 [(0, .ref (zA g 103)), (1, .int v1)] → zIV g σ (zAA g) s.heap H locs → (∀ (ls : Array Slot) (H : Heap) (locs : List Loc), lv_has ls 3 [(0, .ref (zA g 103))] → zIV g o (zAA g) s.heap H locs → W p l e (zrm 4 98) s m args below meth c H locs 0 0 Q (F0 m 118 ls [])) → W p l e (zrm 4 98) s m args below meth c H locs 0 0 Q (F0 m 48 ls []) := by
  have hx := M.1.1
  have hb := M.1.2.1
  intro n
  induction n with
  | zero =>
    intro v1 σ o hr ls H locs hl I KF
    have hr : (none : Option (zmem)) = some o := hr
    cases hr
  | succ n ih =>
    intro v1 σ o hr ls H locs hl I KF
    rw [l_X11_read_48] at hr
    refine lv_iload_n hx hb dX11_read_48 rfl (lv_at hl 1 rfl) ?_
    refine lv_iconst (v := (2 : Int32)) hx hb dX11_read_49 (by decide) ?_
    refine lv_icmp_ge (tgt := 118) hx hb dX11_read_50 (by decide) (fun c13 => ?_) (fun c13 => ?_)
    · replace hr := zif_t hr c13
      obtain rfl := Option.some.inj hr
      exact KF ls _ _ (lv_sub hl [0] rfl) I
    · replace hr := zif_f hr c13
      refine lv_aload_n hx hb dX11_read_53 rfl (lv_at hl 0 rfl) ?_
      refine zgetR (j := 104) M I zc_103 zfl_X11_7 dX11_read_54 rfl ?_
      refine lv_iconst (v := (4 : Int32)) hx hb dX11_read_57 (by decide) ?_
      refine lv_iload_n hx hb dX11_read_58 rfl (lv_at hl 1 rfl) ?_
      refine lv_iadd hx hb dX11_read_59 ?_
      refine lv_aload_n hx hb dX11_read_60 rfl (lv_at hl 0 rfl) ?_
      refine zgetR (j := 123) M I zc_103 zfl_X11_67 dX11_read_61 rfl ?_
      refine lv_iload_n hx hb dX11_read_64 rfl (lv_at hl 1 rfl) ?_
      obtain ⟨x4, e_x4, hr⟩ := zb_some hr
      refine ziald M I zc_123 e_x4 dX11_read_65 ?_
      obtain ⟨s5, e_s5, hr⟩ := zb_some hr
      refine ziast M I zc_104 e_s5 dX11_read_66 (fun H locs I => ?_)
      refine lv_iconst (v := (0 : Int32)) hx hb dX11_read_67 (by decide) ?_
      refine lv_istore_n (lv' := [(2, .int (0 : Int32)), (0, .ref (zA g 103)), (1, .int v1)]) hx hb dX11_read_68 rfl hl (by decide) rfl (fun ls hl => ?_)
      obtain ⟨x12, e_x12, hr⟩ := zb_some hr
      refine k_X11_read_69 M  fu _ _  _ e_x12 ls _ _ (lv_sub hl [1, 2, 0] rfl) I (fun ls H locs hl I => ?_)
      refine lv_iinc (lv' := [(1, .int (v1 + 1)), (0, .ref (zA g 103))]) (k := 1) (v := (v1 + 1)) hx hb dX11_read_112 hl rfl (zi_1 _) (by decide) rfl (fun ls hl => ?_)
      refine lv_goto (tgt := 48) hx hb dX11_read_115 (by decide) ?_
      exact ih _ _  _ hr ls _ _ (lv_sub hl [1, 0] rfl) I KF
def m_X11_read (fu : Nat) (σ : zmem) : Option (Int32 × zmem) := (m_X11_rightUpTo fu σ).bind fun x1 => ((if ¬ x1.1 = (x1.2.1 103 5) then some (1 : Int32) else (if ¬ (x1.2.1 103 27) = (1 : Int32) then some (1 : Int32) else some (0 : Int32))) : Option (Int32)).bind fun x2 => (if ((zst x1.2 103 7 x2).1 103 7) ≤ 0 then (m_X11_save fu (zst x1.2 103 7 x2)).bind fun x3 => (l_X11_read_48 fu fu (0 : Int32) (zst x3 103 5 (0 : Int32))).bind fun x14 => (m_X11_layAnchors fu x14).bind fun x15 => some ((x15.1 103 10), x15) else some ((0 : Int32), (zst x1.2 103 7 x2)))
set_option maxHeartbeats 4000000 in
set_option maxRecDepth 100000 in
theorem c_X11_read (l : Launch) (g : zgeo) (fu : Nat) {σ : zmem} {r : Int32 × zmem} (hr : m_X11_read fu σ = some r) : zCt (zQI g r.1 r.2) l g yX11_read cX11_read 3 (some .int) 4 98 [.ref (zA g 103)] σ := by
  refine zopen (by decide) (Nat.le_of_ble_eq_true rfl) ?_
  intro p e s m below meth c M ls hl I
  have M : zMC RX11 cX11_read 3 (some .int) g p m c s ([.ref (zA g 103)] : List Value).toArray meth := M
  have hl : lv_has ls 3 [(0, .ref (zA g 103))] := hl
  generalize ([.ref (zA g 103)] : List Value).toArray = args at M ⊢
  have hx := M.1.1
  have hb := M.1.2.1
  unfold m_X11_read at hr
  refine lv_aload_n hx hb dX11_read_0 rfl (lv_at hl 0 rfl) ?_
  refine lv_aload_n hx hb dX11_read_1 rfl (lv_at hl 0 rfl) ?_
  obtain ⟨x1, e_x1, hr⟩ := zb_some hr
  refine zcallI M I (zrunV (as := []) M I (c_X11_rightUpTo l g fu e_x1) zc_103 zK11.1 (by decide) zlv_X11_178 ⟨Nat.le_of_ble_eq_true rfl, Nat.le_of_ble_eq_true rfl⟩ ⟨Nat.zero_le _, Nat.zero_le _⟩ rfl rfl (Nat.le_of_ble_eq_true rfl) hl.1 dX11_read_2) (fun H locs I => ?_)
  refine lv_aload_n hx hb dX11_read_5 rfl (lv_at hl 0 rfl) ?_
  refine zgetI M I zc_103 zfl_X11_165 dX11_read_6 ?_
  obtain ⟨x2, e_x2, hr⟩ := zb_some hr
  have K_x2 : ∀ (ls : Array Slot) (H : Heap) (locs : List Loc), lv_has ls 3 [(0, .ref (zA g 103))] → zIV g x1.2 (zAA g) s.heap H locs → W p l e (zrm 4 98) s m args below meth c H locs 0 0 (MQ below (zQI g r.1 r.2) args s 0 0 (zAA g)) (F0 m 25 ls [.int x2, .ref (zA g 103)]) := by
    intro ls H locs hl I
    refine zputI M I zc_103 zfw_X11_70 dX11_read_25 (fun H locs I => ?_)
    refine lv_aload_n hx hb dX11_read_28 rfl (lv_at hl 0 rfl) ?_
    refine zgetI M I zc_103 zfl_X11_70 dX11_read_29 ?_
    refine lv_if_le (tgt := 37) hx hb dX11_read_32 (by decide) (fun c16 => ?_) (fun c16 => ?_)
    · replace hr := zif_t hr c16
      refine lv_aload_n hx hb dX11_read_37 rfl (lv_at hl 0 rfl) ?_
      obtain ⟨x3, e_x3, hr⟩ := zb_some hr
      refine zcallU M I (zrunV (as := []) M I (c_X11_save l g fu e_x3) zc_103 zK11.1 (by decide) zlv_X11_149 ⟨Nat.le_of_ble_eq_true rfl, Nat.le_of_ble_eq_true rfl⟩ ⟨Nat.zero_le _, Nat.zero_le _⟩ rfl rfl (Nat.le_of_ble_eq_true rfl) hl.1 dX11_read_38) (fun H locs I => ?_)
      refine lv_aload_n hx hb dX11_read_41 rfl (lv_at hl 0 rfl) ?_
      refine lv_iconst (v := (0 : Int32)) hx hb dX11_read_42 (by decide) ?_
      refine zputI M I zc_103 zfw_X11_165 dX11_read_43 (fun H locs I => ?_)
      refine lv_iconst (v := (0 : Int32)) hx hb dX11_read_46 (by decide) ?_
      refine lv_istore_n (lv' := [(1, .int (0 : Int32)), (0, .ref (zA g 103))]) hx hb dX11_read_47 rfl hl (by decide) rfl (fun ls hl => ?_)
      obtain ⟨x14, e_x14, hr⟩ := zb_some hr
      refine k_X11_read_48 M  fu _ _  _ e_x14 ls _ _ (lv_sub hl [1, 0] rfl) I (fun ls H locs hl I => ?_)
      refine lv_aload_n hx hb dX11_read_118 rfl (lv_at hl 0 rfl) ?_
      obtain ⟨x15, e_x15, hr⟩ := zb_some hr
      refine zcallU M I (zrunV (as := []) M I (c_X11_layAnchors l g fu e_x15) zc_103 zK11.1 (by decide) zlv_X11_107 ⟨Nat.le_of_ble_eq_true rfl, Nat.le_of_ble_eq_true rfl⟩ ⟨Nat.zero_le _, Nat.zero_le _⟩ rfl rfl (Nat.le_of_ble_eq_true rfl) hl.1 dX11_read_119) (fun H locs I => ?_)
      refine lv_aload_n hx hb dX11_read_122 rfl (lv_at hl 0 rfl) ?_
      refine zgetI M I zc_103 zfl_X11_97 dX11_read_123 ?_
      obtain rfl := Option.some.inj hr
      exact zretI M I dX11_read_126
    · replace hr := zif_f hr c16
      refine lv_iconst (v := (0 : Int32)) hx hb dX11_read_35 (by decide) ?_
      obtain rfl := Option.some.inj hr
      exact zretI M I dX11_read_36
  refine lv_icmp_ne (tgt := 24) hx hb dX11_read_9 (by decide) (fun c18 => ?_) (fun c18 => ?_)
  · replace e_x2 := zif_t e_x2 c18
    refine lv_iconst (v := (1 : Int32)) hx hb dX11_read_24 (by decide) ?_
    obtain rfl := Option.some.inj e_x2
    exact K_x2 ls _ _ hl I
  · replace e_x2 := zif_f e_x2 (fun hq => hq c18)
    refine lv_aload_n hx hb dX11_read_12 rfl (lv_at hl 0 rfl) ?_
    refine zgetI M I zc_103 zfl_X11_172 dX11_read_13 ?_
    refine lv_iconst (v := (1 : Int32)) hx hb dX11_read_16 (by decide) ?_
    refine lv_icmp_ne (tgt := 24) hx hb dX11_read_17 (by decide) (fun c17 => ?_) (fun c17 => ?_)
    · replace e_x2 := zif_t e_x2 c17
      refine lv_iconst (v := (1 : Int32)) hx hb dX11_read_24 (by decide) ?_
      obtain rfl := Option.some.inj e_x2
      exact K_x2 ls _ _ hl I
    · replace e_x2 := zif_f e_x2 (fun hq => hq c17)
      refine lv_iconst (v := (0 : Int32)) hx hb dX11_read_20 (by decide) ?_
      refine lv_goto (tgt := 25) hx hb dX11_read_21 (by decide) ?_
      obtain rfl := Option.some.inj e_x2
      exact K_x2 ls _ _ hl I
def m_X11_isSnapshot (fu : Nat) (σ : zmem) (a0 : Int32) : Option (Int32) := (m_X11_within fu σ a0 (0 : Int32) (1 : Int32)).bind fun x1 => (zbo x1).bind fun b2 => some x1
set_option maxHeartbeats 4000000 in
set_option maxRecDepth 100000 in
theorem c_X11_isSnapshot (l : Launch) (g : zgeo) (fu : Nat) {σ : zmem} {a0 : Int32} {r : Int32} (hr : m_X11_isSnapshot fu σ a0 = some r) : zCt (zQI g r σ) l g yX11_isSnapshot cX11_isSnapshot 1 (some .boolean) 1 22 [.int a0] σ := by
  refine zopen (by decide) (Nat.le_of_ble_eq_true rfl) ?_
  intro p e s m below meth c M ls hl I
  have M : zMC RX11 cX11_isSnapshot 1 (some .boolean) g p m c s ([.int a0] : List Value).toArray meth := M
  have hl : lv_has ls 1 [(0, .int a0)] := hl
  generalize ([.int a0] : List Value).toArray = args at M ⊢
  have hx := M.1.1
  have hb := M.1.2.1
  unfold m_X11_isSnapshot at hr
  refine lv_iload_n hx hb dX11_isSnapshot_0 rfl (lv_at hl 0 rfl) ?_
  refine lv_iconst (v := (0 : Int32)) hx hb dX11_isSnapshot_1 (by decide) ?_
  refine lv_iconst (v := (1 : Int32)) hx hb dX11_isSnapshot_2 (by decide) ?_
  obtain ⟨x1, e_x1, hr⟩ := zb_some hr
  refine zcallI M I (zrunS (as := [.int a0, .int (0 : Int32), .int (1 : Int32)]) M I (c_X11_within l g fu e_x1) zls_X11_77 ⟨Nat.le_of_ble_eq_true rfl, Nat.le_of_ble_eq_true rfl⟩ ⟨Nat.zero_le _, Nat.zero_le _⟩ rfl rfl (Nat.le_of_ble_eq_true rfl) hl.1 dX11_isSnapshot_3) (fun H locs I => ?_)
  obtain ⟨b2, e_b2, hr⟩ := zb_some hr
  obtain rfl := Option.some.inj hr
  exact zretZ M I (zbo_some e_b2).1 dX11_isSnapshot_6
def l_X11_keep_34 (fu : Nat) (a1 : Int32) : Nat → Int32 → zmem → Option (zmem)
  | 0, _, _ => none
  | n + 1, v2, σ => (if (50 : Int32) ≤ v2 then some σ else (zrd σ 104 ((4 : Int32) + v2)).bind fun x4 => (zwr σ 106 (((50 : Int32) * a1) + v2) x4).bind fun s5 => l_X11_keep_34 fu a1 n (v2 + 1) s5)
set_option maxHeartbeats 4000000 in
set_option maxRecDepth 100000 in
theorem k_X11_keep_34 {l : Launch} {g : zgeo} {fu : Nat} {p : Program} {e : Env} {s : State} {m : MethodId} {args : Array Value} {below : List Frame} {meth : Method} {c : Code} (M : zMC RX11 cX11_keep 3 (some .int) g p m c s args meth) {a1 : Int32} {Q : State → Prop} : ∀ (n : Nat) (v2 : Int32) (σ : zmem) (o : zmem), l_X11_keep_34 fu a1 n v2 σ = some o → ∀ (ls : Array Slot) (H : Heap) (locs : List Loc), lv_has ls 3 [(0, .ref (zA g 103)), (1, .int a1), (2, .int v2)] → zIV g σ (zAA g) s.heap H locs → (∀ (ls : Array Slot) (H : Heap) (locs : List Loc), lv_has ls 3 [(0, .ref (zA g 103))] → zIV g o (zAA g) s.heap H locs → W p l e (zrm 2 42) s m args below meth c H locs 0 0 Q (F0 m 65 ls [])) → W p l e (zrm 2 42) s m args below meth c H locs 0 0 Q (F0 m 34 ls []) := by
  have hx := M.1.1
  have hb := M.1.2.1
  intro n
  induction n with
  | zero =>
    intro v2 σ o hr ls H locs hl I KF
    have hr : (none : Option (zmem)) = some o := hr
    cases hr
  | succ n ih =>
    intro v2 σ o hr ls H locs hl I KF
    rw [l_X11_keep_34] at hr
    refine lv_iload_n hx hb dX11_keep_34 rfl (lv_at hl 2 rfl) ?_
    refine lv_bipush (v := (50 : Int32)) hx hb dX11_keep_35 (by decide) ?_
    refine lv_icmp_ge (tgt := 65) hx hb dX11_keep_37 (by decide) (fun c6 => ?_) (fun c6 => ?_)
    · replace hr := zif_t hr c6
      obtain rfl := Option.some.inj hr
      exact KF ls _ _ (lv_sub hl [0] rfl) I
    · replace hr := zif_f hr c6
      refine lv_aload_n hx hb dX11_keep_40 rfl (lv_at hl 0 rfl) ?_
      refine zgetR (j := 106) M I zc_103 zfl_X11_16 dX11_keep_41 rfl ?_
      refine lv_bipush (v := (50 : Int32)) hx hb dX11_keep_44 (by decide) ?_
      refine lv_iload_n hx hb dX11_keep_46 rfl (lv_at hl 1 rfl) ?_
      refine lv_imul hx hb dX11_keep_47 ?_
      refine lv_iload_n hx hb dX11_keep_48 rfl (lv_at hl 2 rfl) ?_
      refine lv_iadd hx hb dX11_keep_49 ?_
      refine lv_aload_n hx hb dX11_keep_50 rfl (lv_at hl 0 rfl) ?_
      refine zgetR (j := 104) M I zc_103 zfl_X11_7 dX11_keep_51 rfl ?_
      refine lv_iconst (v := (4 : Int32)) hx hb dX11_keep_54 (by decide) ?_
      refine lv_iload_n hx hb dX11_keep_55 rfl (lv_at hl 2 rfl) ?_
      refine lv_iadd hx hb dX11_keep_56 ?_
      obtain ⟨x4, e_x4, hr⟩ := zb_some hr
      refine ziald M I zc_104 e_x4 dX11_keep_57 ?_
      obtain ⟨s5, e_s5, hr⟩ := zb_some hr
      refine ziast M I zc_106 e_s5 dX11_keep_58 (fun H locs I => ?_)
      refine lv_iinc (lv' := [(2, .int (v2 + 1)), (0, .ref (zA g 103)), (1, .int a1)]) (k := 2) (v := (v2 + 1)) hx hb dX11_keep_59 hl rfl (zi_1 _) (by decide) rfl (fun ls hl => ?_)
      refine lv_goto (tgt := 34) hx hb dX11_keep_62 (by decide) ?_
      exact ih _ _  _ hr ls _ _ (lv_sub hl [1, 2, 0] rfl) I KF
def m_X11_keep (fu : Nat) (σ : zmem) (a1 : Int32) : Option (Int32 × zmem) := (m_X11_isSnapshot fu σ a1).bind fun x1 => ((if x1 = 0 then some (1 : Int32) else some (0 : Int32)) : Option (Int32)).bind fun x2 => (if ((zst σ 103 7 x2).1 103 7) ≤ 0 then (zwr (zst σ 103 7 x2) 107 a1 (1 : Int32)).bind fun s3 => (l_X11_keep_34 fu a1 fu (0 : Int32) s3).bind fun x7 => (m_X11_signs fu x7 (0 : Int32)).bind fun x8 => (m_X11_signs fu x7 (1 : Int32)).bind fun x9 => some ((x8 + x9), x7) else some ((0 : Int32), (zst σ 103 7 x2)))
set_option maxHeartbeats 4000000 in
set_option maxRecDepth 100000 in
theorem c_X11_keep (l : Launch) (g : zgeo) (fu : Nat) {σ : zmem} {a1 : Int32} {r : Int32 × zmem} (hr : m_X11_keep fu σ a1 = some r) : zCt (zQI g r.1 r.2) l g yX11_keep cX11_keep 3 (some .int) 2 42 [.ref (zA g 103), .int a1] σ := by
  refine zopen (by decide) (Nat.le_of_ble_eq_true rfl) ?_
  intro p e s m below meth c M ls hl I
  have M : zMC RX11 cX11_keep 3 (some .int) g p m c s ([.ref (zA g 103), .int a1] : List Value).toArray meth := M
  have hl : lv_has ls 3 [(0, .ref (zA g 103)), (1, .int a1)] := hl
  generalize ([.ref (zA g 103), .int a1] : List Value).toArray = args at M ⊢
  have hx := M.1.1
  have hb := M.1.2.1
  unfold m_X11_keep at hr
  refine lv_aload_n hx hb dX11_keep_0 rfl (lv_at hl 0 rfl) ?_
  refine lv_iload_n hx hb dX11_keep_1 rfl (lv_at hl 1 rfl) ?_
  obtain ⟨x1, e_x1, hr⟩ := zb_some hr
  refine zcallI M I (zrunS (as := [.int a1]) M I (c_X11_isSnapshot l g fu e_x1) zls_X11_182 ⟨Nat.le_of_ble_eq_true rfl, Nat.le_of_ble_eq_true rfl⟩ ⟨Nat.zero_le _, Nat.zero_le _⟩ rfl rfl (Nat.le_of_ble_eq_true rfl) hl.1 dX11_keep_2) (fun H locs I => ?_)
  obtain ⟨x2, e_x2, hr⟩ := zb_some hr
  have K_x2 : ∀ (ls : Array Slot) (H : Heap) (locs : List Loc), lv_has ls 3 [(0, .ref (zA g 103)), (1, .int a1)] → zIV g σ (zAA g) s.heap H locs → W p l e (zrm 2 42) s m args below meth c H locs 0 0 (MQ below (zQI g r.1 r.2) args s 0 0 (zAA g)) (F0 m 13 ls [.int x2, .ref (zA g 103)]) := by
    intro ls H locs hl I
    refine zputI M I zc_103 zfw_X11_70 dX11_keep_13 (fun H locs I => ?_)
    refine lv_aload_n hx hb dX11_keep_16 rfl (lv_at hl 0 rfl) ?_
    refine zgetI M I zc_103 zfl_X11_70 dX11_keep_17 ?_
    refine lv_if_le (tgt := 25) hx hb dX11_keep_20 (by decide) (fun c10 => ?_) (fun c10 => ?_)
    · replace hr := zif_t hr c10
      refine lv_aload_n hx hb dX11_keep_25 rfl (lv_at hl 0 rfl) ?_
      refine zgetR (j := 107) M I zc_103 zfl_X11_19 dX11_keep_26 rfl ?_
      refine lv_iload_n hx hb dX11_keep_29 rfl (lv_at hl 1 rfl) ?_
      refine lv_iconst (v := (1 : Int32)) hx hb dX11_keep_30 (by decide) ?_
      obtain ⟨s3, e_s3, hr⟩ := zb_some hr
      refine ziast M I zc_107 e_s3 dX11_keep_31 (fun H locs I => ?_)
      refine lv_iconst (v := (0 : Int32)) hx hb dX11_keep_32 (by decide) ?_
      refine lv_istore_n (lv' := [(2, .int (0 : Int32)), (0, .ref (zA g 103)), (1, .int a1)]) hx hb dX11_keep_33 rfl hl (by decide) rfl (fun ls hl => ?_)
      obtain ⟨x7, e_x7, hr⟩ := zb_some hr
      refine k_X11_keep_34 M  fu _ _  _ e_x7 ls _ _ (lv_sub hl [1, 2, 0] rfl) I (fun ls H locs hl I => ?_)
      refine lv_aload_n hx hb dX11_keep_65 rfl (lv_at hl 0 rfl) ?_
      refine lv_iconst (v := (0 : Int32)) hx hb dX11_keep_66 (by decide) ?_
      obtain ⟨x8, e_x8, hr⟩ := zb_some hr
      refine zcallI M I (zrunV (as := [.int (0 : Int32)]) M I (c_X11_signs l g fu e_x8) zc_103 zK11.1 (by decide) zlv_X11_85 ⟨Nat.le_of_ble_eq_true rfl, Nat.le_of_ble_eq_true rfl⟩ ⟨Nat.zero_le _, Nat.zero_le _⟩ rfl rfl (Nat.le_of_ble_eq_true rfl) hl.1 dX11_keep_67) (fun H locs I => ?_)
      refine lv_aload_n hx hb dX11_keep_70 rfl (lv_at hl 0 rfl) ?_
      refine lv_iconst (v := (1 : Int32)) hx hb dX11_keep_71 (by decide) ?_
      obtain ⟨x9, e_x9, hr⟩ := zb_some hr
      refine zcallI M I (zrunV (as := [.int (1 : Int32)]) M I (c_X11_signs l g fu e_x9) zc_103 zK11.1 (by decide) zlv_X11_85 ⟨Nat.le_of_ble_eq_true rfl, Nat.le_of_ble_eq_true rfl⟩ ⟨Nat.zero_le _, Nat.zero_le _⟩ rfl rfl (Nat.le_of_ble_eq_true rfl) hl.1 dX11_keep_72) (fun H locs I => ?_)
      refine lv_iadd hx hb dX11_keep_75 ?_
      obtain rfl := Option.some.inj hr
      exact zretI M I dX11_keep_76
    · replace hr := zif_f hr c10
      refine lv_iconst (v := (0 : Int32)) hx hb dX11_keep_23 (by decide) ?_
      obtain rfl := Option.some.inj hr
      exact zretI M I dX11_keep_24
  refine lv_if_eq (tgt := 12) hx hb dX11_keep_5 (by decide) (fun c11 => ?_) (fun c11 => ?_)
  · replace e_x2 := zif_t e_x2 c11
    refine lv_iconst (v := (1 : Int32)) hx hb dX11_keep_12 (by decide) ?_
    obtain rfl := Option.some.inj e_x2
    exact K_x2 ls _ _ hl I
  · replace e_x2 := zif_f e_x2 c11
    refine lv_iconst (v := (0 : Int32)) hx hb dX11_keep_8 (by decide) ?_
    refine lv_goto (tgt := 13) hx hb dX11_keep_9 (by decide) ?_
    obtain rfl := Option.some.inj e_x2
    exact K_x2 ls _ _ hl I
def l_X11_restore_57 (fu : Nat) (a1 : Int32) : Nat → Int32 → zmem → Option (zmem)
  | 0, _, _ => none
  | n + 1, v2, σ => (if (50 : Int32) ≤ v2 then some σ else (zrd σ 106 (((50 : Int32) * a1) + v2)).bind fun x5 => (zwr σ 104 ((4 : Int32) + v2) x5).bind fun s6 => l_X11_restore_57 fu a1 n (v2 + 1) s6)
set_option maxHeartbeats 4000000 in
set_option maxRecDepth 100000 in
theorem k_X11_restore_57 {l : Launch} {g : zgeo} {fu : Nat} {p : Program} {e : Env} {s : State} {m : MethodId} {args : Array Value} {below : List Frame} {meth : Method} {c : Code} (M : zMC RX11 cX11_restore 3 (some .int) g p m c s args meth) {a1 : Int32} {Q : State → Prop} : ∀ (n : Nat) (v2 : Int32) (σ : zmem) (o : zmem), l_X11_restore_57 fu a1 n v2 σ = some o → ∀ (ls : Array Slot) (H : Heap) (locs : List Loc), lv_has ls 3 [(0, .ref (zA g 103)), (1, .int a1), (2, .int v2)] → zIV g σ (zAA g) s.heap H locs → (∀ (ls : Array Slot) (H : Heap) (locs : List Loc), lv_has ls 3 [(0, .ref (zA g 103))] → zIV g o (zAA g) s.heap H locs → W p l e (zrm 2 42) s m args below meth c H locs 0 0 Q (F0 m 88 ls [])) → W p l e (zrm 2 42) s m args below meth c H locs 0 0 Q (F0 m 57 ls []) := by
  have hx := M.1.1
  have hb := M.1.2.1
  intro n
  induction n with
  | zero =>
    intro v2 σ o hr ls H locs hl I KF
    have hr : (none : Option (zmem)) = some o := hr
    cases hr
  | succ n ih =>
    intro v2 σ o hr ls H locs hl I KF
    rw [l_X11_restore_57] at hr
    refine lv_iload_n hx hb dX11_restore_57 rfl (lv_at hl 2 rfl) ?_
    refine lv_bipush (v := (50 : Int32)) hx hb dX11_restore_58 (by decide) ?_
    refine lv_icmp_ge (tgt := 88) hx hb dX11_restore_60 (by decide) (fun c7 => ?_) (fun c7 => ?_)
    · replace hr := zif_t hr c7
      obtain rfl := Option.some.inj hr
      exact KF ls _ _ (lv_sub hl [0] rfl) I
    · replace hr := zif_f hr c7
      refine lv_aload_n hx hb dX11_restore_63 rfl (lv_at hl 0 rfl) ?_
      refine zgetR (j := 104) M I zc_103 zfl_X11_7 dX11_restore_64 rfl ?_
      refine lv_iconst (v := (4 : Int32)) hx hb dX11_restore_67 (by decide) ?_
      refine lv_iload_n hx hb dX11_restore_68 rfl (lv_at hl 2 rfl) ?_
      refine lv_iadd hx hb dX11_restore_69 ?_
      refine lv_aload_n hx hb dX11_restore_70 rfl (lv_at hl 0 rfl) ?_
      refine zgetR (j := 106) M I zc_103 zfl_X11_16 dX11_restore_71 rfl ?_
      refine lv_bipush (v := (50 : Int32)) hx hb dX11_restore_74 (by decide) ?_
      refine lv_iload_n hx hb dX11_restore_76 rfl (lv_at hl 1 rfl) ?_
      refine lv_imul hx hb dX11_restore_77 ?_
      refine lv_iload_n hx hb dX11_restore_78 rfl (lv_at hl 2 rfl) ?_
      refine lv_iadd hx hb dX11_restore_79 ?_
      obtain ⟨x5, e_x5, hr⟩ := zb_some hr
      refine ziald M I zc_106 e_x5 dX11_restore_80 ?_
      obtain ⟨s6, e_s6, hr⟩ := zb_some hr
      refine ziast M I zc_104 e_s6 dX11_restore_81 (fun H locs I => ?_)
      refine lv_iinc (lv' := [(2, .int (v2 + 1)), (0, .ref (zA g 103)), (1, .int a1)]) (k := 2) (v := (v2 + 1)) hx hb dX11_restore_82 hl rfl (zi_1 _) (by decide) rfl (fun ls hl => ?_)
      refine lv_goto (tgt := 57) hx hb dX11_restore_85 (by decide) ?_
      exact ih _ _  _ hr ls _ _ (lv_sub hl [1, 2, 0] rfl) I KF
def m_X11_restore (fu : Nat) (σ : zmem) (a1 : Int32) : Option (Int32 × zmem) := (m_X11_isSnapshot fu σ a1).bind fun x1 => ((if x1 = 0 then some (1 : Int32) else some (0 : Int32)) : Option (Int32)).bind fun x2 => ((if ¬ ((zst σ 103 7 x2).1 103 7) = 0 then some (zst σ 103 7 x2) else (zrd (zst σ 103 7 x2) 107 a1).bind fun x12 => ((if ¬ x12 = (1 : Int32) then some (2 : Int32) else some (0 : Int32)) : Option (Int32)).bind fun x13 => some (zst (zst σ 103 7 x2) 103 7 x13)) : Option (zmem)).bind fun x3 => (if (x3.1 103 7) ≤ 0 then (m_X11_save fu x3).bind fun x4 => (l_X11_restore_57 fu a1 fu (0 : Int32) x4).bind fun x8 => (m_X11_signs fu x8 (0 : Int32)).bind fun x9 => (m_X11_signs fu x8 (1 : Int32)).bind fun x10 => some ((x9 + x10), x8) else some ((0 : Int32), x3))
set_option maxHeartbeats 4000000 in
set_option maxRecDepth 100000 in
theorem c_X11_restore (l : Launch) (g : zgeo) (fu : Nat) {σ : zmem} {a1 : Int32} {r : Int32 × zmem} (hr : m_X11_restore fu σ a1 = some r) : zCt (zQI g r.1 r.2) l g yX11_restore cX11_restore 3 (some .int) 2 42 [.ref (zA g 103), .int a1] σ := by
  refine zopen (by decide) (Nat.le_of_ble_eq_true rfl) ?_
  intro p e s m below meth c M ls hl I
  have M : zMC RX11 cX11_restore 3 (some .int) g p m c s ([.ref (zA g 103), .int a1] : List Value).toArray meth := M
  have hl : lv_has ls 3 [(0, .ref (zA g 103)), (1, .int a1)] := hl
  generalize ([.ref (zA g 103), .int a1] : List Value).toArray = args at M ⊢
  have hx := M.1.1
  have hb := M.1.2.1
  unfold m_X11_restore at hr
  refine lv_aload_n hx hb dX11_restore_0 rfl (lv_at hl 0 rfl) ?_
  refine lv_iload_n hx hb dX11_restore_1 rfl (lv_at hl 1 rfl) ?_
  obtain ⟨x1, e_x1, hr⟩ := zb_some hr
  refine zcallI M I (zrunS (as := [.int a1]) M I (c_X11_isSnapshot l g fu e_x1) zls_X11_182 ⟨Nat.le_of_ble_eq_true rfl, Nat.le_of_ble_eq_true rfl⟩ ⟨Nat.zero_le _, Nat.zero_le _⟩ rfl rfl (Nat.le_of_ble_eq_true rfl) hl.1 dX11_restore_2) (fun H locs I => ?_)
  obtain ⟨x2, e_x2, hr⟩ := zb_some hr
  have K_x2 : ∀ (ls : Array Slot) (H : Heap) (locs : List Loc), lv_has ls 3 [(0, .ref (zA g 103)), (1, .int a1)] → zIV g σ (zAA g) s.heap H locs → W p l e (zrm 2 42) s m args below meth c H locs 0 0 (MQ below (zQI g r.1 r.2) args s 0 0 (zAA g)) (F0 m 13 ls [.int x2, .ref (zA g 103)]) := by
    intro ls H locs hl I
    refine zputI M I zc_103 zfw_X11_70 dX11_restore_13 (fun H locs I => ?_)
    refine lv_aload_n hx hb dX11_restore_16 rfl (lv_at hl 0 rfl) ?_
    refine zgetI M I zc_103 zfl_X11_70 dX11_restore_17 ?_
    obtain ⟨x3, e_x3, hr⟩ := zb_some hr
    have K_x3 : ∀ (ls : Array Slot) (H : Heap) (locs : List Loc), lv_has ls 3 [(0, .ref (zA g 103)), (1, .int a1)] → zIV g x3 (zAA g) s.heap H locs → W p l e (zrm 2 42) s m args below meth c H locs 0 0 (MQ below (zQI g r.1 r.2) args s 0 0 (zAA g)) (F0 m 42 ls []) := by
      intro ls H locs hl I
      refine lv_aload_n hx hb dX11_restore_42 rfl (lv_at hl 0 rfl) ?_
      refine zgetI M I zc_103 zfl_X11_70 dX11_restore_43 ?_
      refine lv_if_le (tgt := 51) hx hb dX11_restore_46 (by decide) (fun c11 => ?_) (fun c11 => ?_)
      · replace hr := zif_t hr c11
        refine lv_aload_n hx hb dX11_restore_51 rfl (lv_at hl 0 rfl) ?_
        obtain ⟨x4, e_x4, hr⟩ := zb_some hr
        refine zcallU M I (zrunV (as := []) M I (c_X11_save l g fu e_x4) zc_103 zK11.1 (by decide) zlv_X11_149 ⟨Nat.le_of_ble_eq_true rfl, Nat.le_of_ble_eq_true rfl⟩ ⟨Nat.zero_le _, Nat.zero_le _⟩ rfl rfl (Nat.le_of_ble_eq_true rfl) hl.1 dX11_restore_52) (fun H locs I => ?_)
        refine lv_iconst (v := (0 : Int32)) hx hb dX11_restore_55 (by decide) ?_
        refine lv_istore_n (lv' := [(2, .int (0 : Int32)), (0, .ref (zA g 103)), (1, .int a1)]) hx hb dX11_restore_56 rfl hl (by decide) rfl (fun ls hl => ?_)
        obtain ⟨x8, e_x8, hr⟩ := zb_some hr
        refine k_X11_restore_57 M  fu _ _  _ e_x8 ls _ _ (lv_sub hl [1, 2, 0] rfl) I (fun ls H locs hl I => ?_)
        refine lv_aload_n hx hb dX11_restore_88 rfl (lv_at hl 0 rfl) ?_
        refine lv_iconst (v := (0 : Int32)) hx hb dX11_restore_89 (by decide) ?_
        obtain ⟨x9, e_x9, hr⟩ := zb_some hr
        refine zcallI M I (zrunV (as := [.int (0 : Int32)]) M I (c_X11_signs l g fu e_x9) zc_103 zK11.1 (by decide) zlv_X11_85 ⟨Nat.le_of_ble_eq_true rfl, Nat.le_of_ble_eq_true rfl⟩ ⟨Nat.zero_le _, Nat.zero_le _⟩ rfl rfl (Nat.le_of_ble_eq_true rfl) hl.1 dX11_restore_90) (fun H locs I => ?_)
        refine lv_aload_n hx hb dX11_restore_93 rfl (lv_at hl 0 rfl) ?_
        refine lv_iconst (v := (1 : Int32)) hx hb dX11_restore_94 (by decide) ?_
        obtain ⟨x10, e_x10, hr⟩ := zb_some hr
        refine zcallI M I (zrunV (as := [.int (1 : Int32)]) M I (c_X11_signs l g fu e_x10) zc_103 zK11.1 (by decide) zlv_X11_85 ⟨Nat.le_of_ble_eq_true rfl, Nat.le_of_ble_eq_true rfl⟩ ⟨Nat.zero_le _, Nat.zero_le _⟩ rfl rfl (Nat.le_of_ble_eq_true rfl) hl.1 dX11_restore_95) (fun H locs I => ?_)
        refine lv_iadd hx hb dX11_restore_98 ?_
        obtain rfl := Option.some.inj hr
        exact zretI M I dX11_restore_99
      · replace hr := zif_f hr c11
        refine lv_iconst (v := (0 : Int32)) hx hb dX11_restore_49 (by decide) ?_
        obtain rfl := Option.some.inj hr
        exact zretI M I dX11_restore_50
    refine lv_if_ne (tgt := 42) hx hb dX11_restore_20 (by decide) (fun c15 => ?_) (fun c15 => ?_)
    · replace e_x3 := zif_t e_x3 c15
      obtain rfl := Option.some.inj e_x3
      exact K_x3 ls _ _ hl I
    · replace e_x3 := zif_f e_x3 (fun hq => hq c15)
      refine lv_aload_n hx hb dX11_restore_23 rfl (lv_at hl 0 rfl) ?_
      refine lv_aload_n hx hb dX11_restore_24 rfl (lv_at hl 0 rfl) ?_
      refine zgetR (j := 107) M I zc_103 zfl_X11_19 dX11_restore_25 rfl ?_
      refine lv_iload_n hx hb dX11_restore_28 rfl (lv_at hl 1 rfl) ?_
      obtain ⟨x12, e_x12, e_x3⟩ := zb_some e_x3
      refine ziald M I zc_107 e_x12 dX11_restore_29 ?_
      refine lv_iconst (v := (1 : Int32)) hx hb dX11_restore_30 (by decide) ?_
      obtain ⟨x13, e_x13, e_x3⟩ := zb_some e_x3
      have K_x13 : ∀ (ls : Array Slot) (H : Heap) (locs : List Loc), lv_has ls 3 [(0, .ref (zA g 103)), (1, .int a1)] → zIV g (zst σ 103 7 x2) (zAA g) s.heap H locs → W p l e (zrm 2 42) s m args below meth c H locs 0 0 (MQ below (zQI g r.1 r.2) args s 0 0 (zAA g)) (F0 m 39 ls [.int x13, .ref (zA g 103)]) := by
        intro ls H locs hl I
        refine zputI M I zc_103 zfw_X11_70 dX11_restore_39 (fun H locs I => ?_)
        obtain rfl := Option.some.inj e_x3
        exact K_x3 ls _ _ hl I
      refine lv_icmp_ne (tgt := 38) hx hb dX11_restore_31 (by decide) (fun c14 => ?_) (fun c14 => ?_)
      · replace e_x13 := zif_t e_x13 c14
        refine lv_iconst (v := (2 : Int32)) hx hb dX11_restore_38 (by decide) ?_
        obtain rfl := Option.some.inj e_x13
        exact K_x13 ls _ _ hl I
      · replace e_x13 := zif_f e_x13 (fun hq => hq c14)
        refine lv_iconst (v := (0 : Int32)) hx hb dX11_restore_34 (by decide) ?_
        refine lv_goto (tgt := 39) hx hb dX11_restore_35 (by decide) ?_
        obtain rfl := Option.some.inj e_x13
        exact K_x13 ls _ _ hl I
  refine lv_if_eq (tgt := 12) hx hb dX11_restore_5 (by decide) (fun c16 => ?_) (fun c16 => ?_)
  · replace e_x2 := zif_t e_x2 c16
    refine lv_iconst (v := (1 : Int32)) hx hb dX11_restore_12 (by decide) ?_
    obtain rfl := Option.some.inj e_x2
    exact K_x2 ls _ _ hl I
  · replace e_x2 := zif_f e_x2 c16
    refine lv_iconst (v := (0 : Int32)) hx hb dX11_restore_8 (by decide) ?_
    refine lv_goto (tgt := 13) hx hb dX11_restore_9 (by decide) ?_
    obtain rfl := Option.some.inj e_x2
    exact K_x2 ls _ _ hl I
def l_X11_undo_37 (fu : Nat) : Nat → Int32 → zmem → Option (zmem)
  | 0, _, _ => none
  | n + 1, v1, σ => (if (54 : Int32) ≤ v1 then some σ else (zrd σ 105 (((54 : Int32) * (σ.1 103 1)) + v1)).bind fun x2 => (zwr σ 104 v1 x2).bind fun s3 => l_X11_undo_37 fu n (v1 + 1) s3)
set_option maxHeartbeats 4000000 in
set_option maxRecDepth 100000 in
theorem k_X11_undo_37 {l : Launch} {g : zgeo} {fu : Nat} {p : Program} {e : Env} {s : State} {m : MethodId} {args : Array Value} {below : List Frame} {meth : Method} {c : Code} (M : zMC RX11 cX11_undo 2 (some .int) g p m c s args meth) {Q : State → Prop} : ∀ (n : Nat) (v1 : Int32) (σ : zmem) (o : zmem), l_X11_undo_37 fu n v1 σ = some o → ∀ (ls : Array Slot) (H : Heap) (locs : List Loc), lv_has ls 2 [(0, .ref (zA g 103)), (1, .int v1)] → zIV g σ (zAA g) s.heap H locs → (∀ (ls : Array Slot) (H : Heap) (locs : List Loc), lv_has ls 2 [(0, .ref (zA g 103))] → zIV g o (zAA g) s.heap H locs → W p l e (zrm 0 0) s m args below meth c H locs 0 0 Q (F0 m 69 ls [])) → W p l e (zrm 0 0) s m args below meth c H locs 0 0 Q (F0 m 37 ls []) := by
  have hx := M.1.1
  have hb := M.1.2.1
  intro n
  induction n with
  | zero =>
    intro v1 σ o hr ls H locs hl I KF
    have hr : (none : Option (zmem)) = some o := hr
    cases hr
  | succ n ih =>
    intro v1 σ o hr ls H locs hl I KF
    rw [l_X11_undo_37] at hr
    refine lv_iload_n hx hb dX11_undo_37 rfl (lv_at hl 1 rfl) ?_
    refine lv_bipush (v := (54 : Int32)) hx hb dX11_undo_38 (by decide) ?_
    refine lv_icmp_ge (tgt := 69) hx hb dX11_undo_40 (by decide) (fun c4 => ?_) (fun c4 => ?_)
    · replace hr := zif_t hr c4
      obtain rfl := Option.some.inj hr
      exact KF ls _ _ (lv_sub hl [0] rfl) I
    · replace hr := zif_f hr c4
      refine lv_aload_n hx hb dX11_undo_43 rfl (lv_at hl 0 rfl) ?_
      refine zgetR (j := 104) M I zc_103 zfl_X11_7 dX11_undo_44 rfl ?_
      refine lv_iload_n hx hb dX11_undo_47 rfl (lv_at hl 1 rfl) ?_
      refine lv_aload_n hx hb dX11_undo_48 rfl (lv_at hl 0 rfl) ?_
      refine zgetR (j := 105) M I zc_103 zfl_X11_13 dX11_undo_49 rfl ?_
      refine lv_bipush (v := (54 : Int32)) hx hb dX11_undo_52 (by decide) ?_
      refine lv_aload_n hx hb dX11_undo_54 rfl (lv_at hl 0 rfl) ?_
      refine zgetI M I zc_103 zfl_X11_74 dX11_undo_55 ?_
      refine lv_imul hx hb dX11_undo_58 ?_
      refine lv_iload_n hx hb dX11_undo_59 rfl (lv_at hl 1 rfl) ?_
      refine lv_iadd hx hb dX11_undo_60 ?_
      obtain ⟨x2, e_x2, hr⟩ := zb_some hr
      refine ziald M I zc_105 e_x2 dX11_undo_61 ?_
      obtain ⟨s3, e_s3, hr⟩ := zb_some hr
      refine ziast M I zc_104 e_s3 dX11_undo_62 (fun H locs I => ?_)
      refine lv_iinc (lv' := [(1, .int (v1 + 1)), (0, .ref (zA g 103))]) (k := 1) (v := (v1 + 1)) hx hb dX11_undo_63 hl rfl (zi_1 _) (by decide) rfl (fun ls hl => ?_)
      refine lv_goto (tgt := 37) hx hb dX11_undo_66 (by decide) ?_
      exact ih _ _  _ hr ls _ _ (lv_sub hl [1, 0] rfl) I KF
def m_X11_undo (fu : Nat) (σ : zmem) : Option (Int32 × zmem) := ((if (σ.1 103 1) ≤ 0 then some (1 : Int32) else some (0 : Int32)) : Option (Int32)).bind fun x1 => (if ((zst σ 103 7 x1).1 103 7) ≤ 0 then (l_X11_undo_37 fu fu (0 : Int32) (zst (zst σ 103 7 x1) 103 1 (((zst σ 103 7 x1).1 103 1) - (1 : Int32)))).bind fun x5 => some ((x5.1 103 1), x5) else some ((0 : Int32), (zst σ 103 7 x1)))
set_option maxHeartbeats 4000000 in
set_option maxRecDepth 100000 in
theorem c_X11_undo (l : Launch) (g : zgeo) (fu : Nat) {σ : zmem} {r : Int32 × zmem} (hr : m_X11_undo fu σ = some r) : zCt (zQI g r.1 r.2) l g yX11_undo cX11_undo 2 (some .int) 0 0 [.ref (zA g 103)] σ := by
  refine zopen (by decide) (Nat.le_of_ble_eq_true rfl) ?_
  intro p e s m below meth c M ls hl I
  have M : zMC RX11 cX11_undo 2 (some .int) g p m c s ([.ref (zA g 103)] : List Value).toArray meth := M
  have hl : lv_has ls 2 [(0, .ref (zA g 103))] := hl
  generalize ([.ref (zA g 103)] : List Value).toArray = args at M ⊢
  have hx := M.1.1
  have hb := M.1.2.1
  unfold m_X11_undo at hr
  refine lv_aload_n hx hb dX11_undo_0 rfl (lv_at hl 0 rfl) ?_
  refine lv_aload_n hx hb dX11_undo_1 rfl (lv_at hl 0 rfl) ?_
  refine zgetI M I zc_103 zfl_X11_74 dX11_undo_2 ?_
  obtain ⟨x1, e_x1, hr⟩ := zb_some hr
  have K_x1 : ∀ (ls : Array Slot) (H : Heap) (locs : List Loc), lv_has ls 2 [(0, .ref (zA g 103))] → zIV g σ (zAA g) s.heap H locs → W p l e (zrm 0 0) s m args below meth c H locs 0 0 (MQ below (zQI g r.1 r.2) args s 0 0 (zAA g)) (F0 m 13 ls [.int x1, .ref (zA g 103)]) := by
    intro ls H locs hl I
    refine zputI M I zc_103 zfw_X11_70 dX11_undo_13 (fun H locs I => ?_)
    refine lv_aload_n hx hb dX11_undo_16 rfl (lv_at hl 0 rfl) ?_
    refine zgetI M I zc_103 zfl_X11_70 dX11_undo_17 ?_
    refine lv_if_le (tgt := 25) hx hb dX11_undo_20 (by decide) (fun c6 => ?_) (fun c6 => ?_)
    · replace hr := zif_t hr c6
      refine lv_aload_n hx hb dX11_undo_25 rfl (lv_at hl 0 rfl) ?_
      refine lv_dup hx hb dX11_undo_26 rfl ?_
      refine zgetI M I zc_103 zfl_X11_74 dX11_undo_27 ?_
      refine lv_iconst (v := (1 : Int32)) hx hb dX11_undo_30 (by decide) ?_
      refine lv_isub hx hb dX11_undo_31 ?_
      refine zputI M I zc_103 zfw_X11_74 dX11_undo_32 (fun H locs I => ?_)
      refine lv_iconst (v := (0 : Int32)) hx hb dX11_undo_35 (by decide) ?_
      refine lv_istore_n (lv' := [(1, .int (0 : Int32)), (0, .ref (zA g 103))]) hx hb dX11_undo_36 rfl hl (by decide) rfl (fun ls hl => ?_)
      obtain ⟨x5, e_x5, hr⟩ := zb_some hr
      refine k_X11_undo_37 M  fu _ _  _ e_x5 ls _ _ (lv_sub hl [1, 0] rfl) I (fun ls H locs hl I => ?_)
      refine lv_aload_n hx hb dX11_undo_69 rfl (lv_at hl 0 rfl) ?_
      refine zgetI M I zc_103 zfl_X11_74 dX11_undo_70 ?_
      obtain rfl := Option.some.inj hr
      exact zretI M I dX11_undo_73
    · replace hr := zif_f hr c6
      refine lv_iconst (v := (0 : Int32)) hx hb dX11_undo_23 (by decide) ?_
      obtain rfl := Option.some.inj hr
      exact zretI M I dX11_undo_24
  refine lv_if_le (tgt := 12) hx hb dX11_undo_5 (by decide) (fun c7 => ?_) (fun c7 => ?_)
  · replace e_x1 := zif_t e_x1 c7
    refine lv_iconst (v := (1 : Int32)) hx hb dX11_undo_12 (by decide) ?_
    obtain rfl := Option.some.inj e_x1
    exact K_x1 ls _ _ hl I
  · replace e_x1 := zif_f e_x1 c7
    refine lv_iconst (v := (0 : Int32)) hx hb dX11_undo_8 (by decide) ?_
    refine lv_goto (tgt := 13) hx hb dX11_undo_9 (by decide) ?_
    obtain rfl := Option.some.inj e_x1
    exact K_x1 ls _ _ hl I
def m_X11_sign (fu : Nat) (σ : zmem) (a1 : Int32) (a2 : Int32) : Option (Int32 × zmem) := (m_X11_isPlace fu σ a1 a2).bind fun x1 => ((if x1 = 0 then some (1 : Int32) else some (0 : Int32)) : Option (Int32)).bind fun x2 => (if ((zst σ 103 7 x2).1 103 7) ≤ 0 then (m_X11_at fu (zst σ 103 7 x2) a1 a2).bind fun x3 => some (x3, (zst σ 103 7 x2)) else some ((0 : Int32), (zst σ 103 7 x2)))
set_option maxHeartbeats 4000000 in
set_option maxRecDepth 100000 in
theorem c_X11_sign (l : Launch) (g : zgeo) (fu : Nat) {σ : zmem} {a1 : Int32} {a2 : Int32} {r : Int32 × zmem} (hr : m_X11_sign fu σ a1 a2 = some r) : zCt (zQI g r.1 r.2) l g yX11_sign cX11_sign 3 (some .int) 3 64 [.ref (zA g 103), .int a1, .int a2] σ := by
  refine zopen (by decide) (Nat.le_of_ble_eq_true rfl) ?_
  intro p e s m below meth c M ls hl I
  have M : zMC RX11 cX11_sign 3 (some .int) g p m c s ([.ref (zA g 103), .int a1, .int a2] : List Value).toArray meth := M
  have hl : lv_has ls 3 [(0, .ref (zA g 103)), (1, .int a1), (2, .int a2)] := hl
  generalize ([.ref (zA g 103), .int a1, .int a2] : List Value).toArray = args at M ⊢
  have hx := M.1.1
  have hb := M.1.2.1
  unfold m_X11_sign at hr
  refine lv_aload_n hx hb dX11_sign_0 rfl (lv_at hl 0 rfl) ?_
  refine lv_aload_n hx hb dX11_sign_1 rfl (lv_at hl 0 rfl) ?_
  refine lv_iload_n hx hb dX11_sign_2 rfl (lv_at hl 1 rfl) ?_
  refine lv_iload_n hx hb dX11_sign_3 rfl (lv_at hl 2 rfl) ?_
  obtain ⟨x1, e_x1, hr⟩ := zb_some hr
  refine zcallI M I (zrunV (as := [.int a1, .int a2]) M I (c_X11_isPlace l g fu e_x1) zc_103 zK11.1 (by decide) zlv_X11_156 ⟨Nat.le_of_ble_eq_true rfl, Nat.le_of_ble_eq_true rfl⟩ ⟨Nat.zero_le _, Nat.zero_le _⟩ rfl rfl (Nat.le_of_ble_eq_true rfl) hl.1 dX11_sign_4) (fun H locs I => ?_)
  obtain ⟨x2, e_x2, hr⟩ := zb_some hr
  have K_x2 : ∀ (ls : Array Slot) (H : Heap) (locs : List Loc), lv_has ls 3 [(0, .ref (zA g 103)), (1, .int a1), (2, .int a2)] → zIV g σ (zAA g) s.heap H locs → W p l e (zrm 3 64) s m args below meth c H locs 0 0 (MQ below (zQI g r.1 r.2) args s 0 0 (zAA g)) (F0 m 15 ls [.int x2, .ref (zA g 103)]) := by
    intro ls H locs hl I
    refine zputI M I zc_103 zfw_X11_70 dX11_sign_15 (fun H locs I => ?_)
    refine lv_aload_n hx hb dX11_sign_18 rfl (lv_at hl 0 rfl) ?_
    refine zgetI M I zc_103 zfl_X11_70 dX11_sign_19 ?_
    refine lv_if_le (tgt := 29) hx hb dX11_sign_22 (by decide) (fun c4 => ?_) (fun c4 => ?_)
    · replace hr := zif_t hr c4
      refine lv_aload_n hx hb dX11_sign_29 rfl (lv_at hl 0 rfl) ?_
      refine lv_iload_n hx hb dX11_sign_30 rfl (lv_at hl 1 rfl) ?_
      refine lv_iload_n hx hb dX11_sign_31 rfl (lv_at hl 2 rfl) ?_
      obtain ⟨x3, e_x3, hr⟩ := zb_some hr
      refine zcallI M I (zrunV (as := [.int a1, .int a2]) M I (c_X11_at l g fu e_x3) zc_103 zK11.1 (by decide) zlv_X11_89 ⟨Nat.le_of_ble_eq_true rfl, Nat.le_of_ble_eq_true rfl⟩ ⟨Nat.zero_le _, Nat.zero_le _⟩ rfl rfl (Nat.le_of_ble_eq_true rfl) hl.1 dX11_sign_32) (fun H locs I => ?_)
      obtain rfl := Option.some.inj hr
      exact zretI M I dX11_sign_35
    · replace hr := zif_f hr c4
      refine lv_iconst (v := (0 : Int32)) hx hb dX11_sign_25 (by decide) ?_
      refine lv_goto (tgt := 35) hx hb dX11_sign_26 (by decide) ?_
      obtain rfl := Option.some.inj hr
      exact zretI M I dX11_sign_35
  refine lv_if_eq (tgt := 14) hx hb dX11_sign_7 (by decide) (fun c5 => ?_) (fun c5 => ?_)
  · replace e_x2 := zif_t e_x2 c5
    refine lv_iconst (v := (1 : Int32)) hx hb dX11_sign_14 (by decide) ?_
    obtain rfl := Option.some.inj e_x2
    exact K_x2 ls _ _ hl I
  · replace e_x2 := zif_f e_x2 c5
    refine lv_iconst (v := (0 : Int32)) hx hb dX11_sign_10 (by decide) ?_
    refine lv_goto (tgt := 15) hx hb dX11_sign_11 (by decide) ?_
    obtain rfl := Option.some.inj e_x2
    exact K_x2 ls _ _ hl I
def m_X11_anchorNow (fu : Nat) (σ : zmem) (a1 : Int32) (a2 : Int32) : Option (Int32 × zmem) := (m_X11_layChain fu σ).bind fun x1 => (if a2 = (0 : Int32) then (zrd x1 109 a1).bind fun x3 => some (x3, x1) else (if a2 = (1 : Int32) then (zrd x1 110 a1).bind fun x5 => some (x5, x1) else (if a2 = (2 : Int32) then (zrd x1 115 a1).bind fun x7 => some (x7, x1) else (zrd x1 114 a1).bind fun x8 => some (x8, x1))))
set_option maxHeartbeats 4000000 in
set_option maxRecDepth 100000 in
theorem c_X11_anchorNow (l : Launch) (g : zgeo) (fu : Nat) {σ : zmem} {a1 : Int32} {a2 : Int32} {r : Int32 × zmem} (hr : m_X11_anchorNow fu σ a1 a2 = some r) : zCt (zQI g r.1 r.2) l g yX11_anchorNow cX11_anchorNow 3 (some .int) 5 121 [.ref (zA g 103), .int a1, .int a2] σ := by
  refine zopen (by decide) (Nat.le_of_ble_eq_true rfl) ?_
  intro p e s m below meth c M ls hl I
  have M : zMC RX11 cX11_anchorNow 3 (some .int) g p m c s ([.ref (zA g 103), .int a1, .int a2] : List Value).toArray meth := M
  have hl : lv_has ls 3 [(0, .ref (zA g 103)), (1, .int a1), (2, .int a2)] := hl
  generalize ([.ref (zA g 103), .int a1, .int a2] : List Value).toArray = args at M ⊢
  have hx := M.1.1
  have hb := M.1.2.1
  unfold m_X11_anchorNow at hr
  refine lv_aload_n hx hb dX11_anchorNow_0 rfl (lv_at hl 0 rfl) ?_
  obtain ⟨x1, e_x1, hr⟩ := zb_some hr
  refine zcallU M I (zrunV (as := []) M I (c_X11_layChain l g fu e_x1) zc_103 zK11.1 (by decide) zlv_X11_137 ⟨Nat.le_of_ble_eq_true rfl, Nat.le_of_ble_eq_true rfl⟩ ⟨Nat.zero_le _, Nat.zero_le _⟩ rfl rfl (Nat.le_of_ble_eq_true rfl) hl.1 dX11_anchorNow_1) (fun H locs I => ?_)
  refine lv_iload_n hx hb dX11_anchorNow_4 rfl (lv_at hl 2 rfl) ?_
  by_cases c2 : a2 = (0 : Int32)
  · replace hr := zif_t hr c2
    refine lv_tableIn (tgt := 32) hx hb dX11_anchorNow_5 (by rw [c2]; decide) (by rw [c2]; decide) (by rw [c2]; try rfl) (by decide) ?_
    refine lv_aload_n hx hb dX11_anchorNow_32 rfl (lv_at hl 0 rfl) ?_
    refine zgetR (j := 109) M I zc_103 zfl_X11_25 dX11_anchorNow_33 rfl ?_
    refine lv_iload_n hx hb dX11_anchorNow_36 rfl (lv_at hl 1 rfl) ?_
    obtain ⟨x3, e_x3, hr⟩ := zb_some hr
    refine ziald M I zc_109 e_x3 dX11_anchorNow_37 ?_
    obtain rfl := Option.some.inj hr
    exact zretI M I dX11_anchorNow_38
  · replace hr := zif_f hr c2
    by_cases c4 : a2 = (1 : Int32)
    · replace hr := zif_t hr c4
      refine lv_tableIn (tgt := 39) hx hb dX11_anchorNow_5 (by rw [c4]; decide) (by rw [c4]; decide) (by rw [c4]; try rfl) (by decide) ?_
      refine lv_aload_n hx hb dX11_anchorNow_39 rfl (lv_at hl 0 rfl) ?_
      refine zgetR (j := 110) M I zc_103 zfl_X11_28 dX11_anchorNow_40 rfl ?_
      refine lv_iload_n hx hb dX11_anchorNow_43 rfl (lv_at hl 1 rfl) ?_
      obtain ⟨x5, e_x5, hr⟩ := zb_some hr
      refine ziald M I zc_110 e_x5 dX11_anchorNow_44 ?_
      obtain rfl := Option.some.inj hr
      exact zretI M I dX11_anchorNow_45
    · replace hr := zif_f hr c4
      by_cases c6 : a2 = (2 : Int32)
      · replace hr := zif_t hr c6
        refine lv_tableIn (tgt := 46) hx hb dX11_anchorNow_5 (by rw [c6]; decide) (by rw [c6]; decide) (by rw [c6]; try rfl) (by decide) ?_
        refine lv_aload_n hx hb dX11_anchorNow_46 rfl (lv_at hl 0 rfl) ?_
        refine zgetR (j := 115) M I zc_103 zfl_X11_43 dX11_anchorNow_47 rfl ?_
        refine lv_iload_n hx hb dX11_anchorNow_50 rfl (lv_at hl 1 rfl) ?_
        obtain ⟨x7, e_x7, hr⟩ := zb_some hr
        refine ziald M I zc_115 e_x7 dX11_anchorNow_51 ?_
        obtain rfl := Option.some.inj hr
        exact zretI M I dX11_anchorNow_52
      · replace hr := zif_f hr c6
        refine lv_tableOut (tgt := 53) hx hb dX11_anchorNow_5 (ztab_3 c2 c4 c6) (by decide) ?_
        refine lv_aload_n hx hb dX11_anchorNow_53 rfl (lv_at hl 0 rfl) ?_
        refine zgetR (j := 114) M I zc_103 zfl_X11_40 dX11_anchorNow_54 rfl ?_
        refine lv_iload_n hx hb dX11_anchorNow_57 rfl (lv_at hl 1 rfl) ?_
        obtain ⟨x8, e_x8, hr⟩ := zb_some hr
        refine ziald M I zc_114 e_x8 dX11_anchorNow_58 ?_
        obtain rfl := Option.some.inj hr
        exact zretI M I dX11_anchorNow_59
def m_X11_anchor (fu : Nat) (σ : zmem) (a1 : Int32) (a2 : Int32) : Option (Int32 × zmem) := (m_X11_layAnchors fu σ).bind fun x1 => (m_X11_within fu x1 a1 (0 : Int32) ((x1.1 103 10) - (1 : Int32))).bind fun x2 => ((if ¬ x2 = 0 then (m_X11_within fu x1 a2 (0 : Int32) (3 : Int32)).bind fun x6 => (if x6 = 0 then some (2 : Int32) else some (0 : Int32)) else some (1 : Int32)) : Option (Int32)).bind fun x3 => (if ((zst x1 103 7 x3).1 103 7) ≤ 0 then (m_X11_anchorNow fu (zst x1 103 7 x3) a1 a2).bind fun x4 => some (x4.1, x4.2) else some ((0 : Int32), (zst x1 103 7 x3)))
set_option maxHeartbeats 4000000 in
set_option maxRecDepth 100000 in
theorem c_X11_anchor (l : Launch) (g : zgeo) (fu : Nat) {σ : zmem} {a1 : Int32} {a2 : Int32} {r : Int32 × zmem} (hr : m_X11_anchor fu σ a1 a2 = some r) : zCt (zQI g r.1 r.2) l g yX11_anchor cX11_anchor 3 (some .int) 6 143 [.ref (zA g 103), .int a1, .int a2] σ := by
  refine zopen (by decide) (Nat.le_of_ble_eq_true rfl) ?_
  intro p e s m below meth c M ls hl I
  have M : zMC RX11 cX11_anchor 3 (some .int) g p m c s ([.ref (zA g 103), .int a1, .int a2] : List Value).toArray meth := M
  have hl : lv_has ls 3 [(0, .ref (zA g 103)), (1, .int a1), (2, .int a2)] := hl
  generalize ([.ref (zA g 103), .int a1, .int a2] : List Value).toArray = args at M ⊢
  have hx := M.1.1
  have hb := M.1.2.1
  unfold m_X11_anchor at hr
  refine lv_aload_n hx hb dX11_anchor_0 rfl (lv_at hl 0 rfl) ?_
  obtain ⟨x1, e_x1, hr⟩ := zb_some hr
  refine zcallU M I (zrunV (as := []) M I (c_X11_layAnchors l g fu e_x1) zc_103 zK11.1 (by decide) zlv_X11_107 ⟨Nat.le_of_ble_eq_true rfl, Nat.le_of_ble_eq_true rfl⟩ ⟨Nat.zero_le _, Nat.zero_le _⟩ rfl rfl (Nat.le_of_ble_eq_true rfl) hl.1 dX11_anchor_1) (fun H locs I => ?_)
  refine lv_aload_n hx hb dX11_anchor_4 rfl (lv_at hl 0 rfl) ?_
  refine lv_iload_n hx hb dX11_anchor_5 rfl (lv_at hl 1 rfl) ?_
  refine lv_iconst (v := (0 : Int32)) hx hb dX11_anchor_6 (by decide) ?_
  refine lv_aload_n hx hb dX11_anchor_7 rfl (lv_at hl 0 rfl) ?_
  refine zgetI M I zc_103 zfl_X11_97 dX11_anchor_8 ?_
  refine lv_iconst (v := (1 : Int32)) hx hb dX11_anchor_11 (by decide) ?_
  refine lv_isub hx hb dX11_anchor_12 ?_
  obtain ⟨x2, e_x2, hr⟩ := zb_some hr
  refine zcallI M I (zrunS (as := [.int a1, .int (0 : Int32), .int ((x1.1 103 10) - (1 : Int32))]) M I (c_X11_within l g fu e_x2) zls_X11_77 ⟨Nat.le_of_ble_eq_true rfl, Nat.le_of_ble_eq_true rfl⟩ ⟨Nat.zero_le _, Nat.zero_le _⟩ rfl rfl (Nat.le_of_ble_eq_true rfl) hl.1 dX11_anchor_13) (fun H locs I => ?_)
  obtain ⟨x3, e_x3, hr⟩ := zb_some hr
  have K_x3 : ∀ (ls : Array Slot) (H : Heap) (locs : List Loc), lv_has ls 3 [(0, .ref (zA g 103)), (1, .int a1), (2, .int a2)] → zIV g x1 (zAA g) s.heap H locs → W p l e (zrm 6 143) s m args below meth c H locs 0 0 (MQ below (zQI g r.1 r.2) args s 0 0 (zAA g)) (F0 m 37 ls [.int x3, .ref (zA g 103)]) := by
    intro ls H locs hl I
    refine zputI M I zc_103 zfw_X11_70 dX11_anchor_37 (fun H locs I => ?_)
    refine lv_aload_n hx hb dX11_anchor_40 rfl (lv_at hl 0 rfl) ?_
    refine zgetI M I zc_103 zfl_X11_70 dX11_anchor_41 ?_
    refine lv_if_le (tgt := 51) hx hb dX11_anchor_44 (by decide) (fun c5 => ?_) (fun c5 => ?_)
    · replace hr := zif_t hr c5
      refine lv_aload_n hx hb dX11_anchor_51 rfl (lv_at hl 0 rfl) ?_
      refine lv_iload_n hx hb dX11_anchor_52 rfl (lv_at hl 1 rfl) ?_
      refine lv_iload_n hx hb dX11_anchor_53 rfl (lv_at hl 2 rfl) ?_
      obtain ⟨x4, e_x4, hr⟩ := zb_some hr
      refine zcallI M I (zrunV (as := [.int a1, .int a2]) M I (c_X11_anchorNow l g fu e_x4) zc_103 zK11.1 (by decide) zlv_X11_185 ⟨Nat.le_of_ble_eq_true rfl, Nat.le_of_ble_eq_true rfl⟩ ⟨Nat.zero_le _, Nat.zero_le _⟩ rfl rfl (Nat.le_of_ble_eq_true rfl) hl.1 dX11_anchor_54) (fun H locs I => ?_)
      obtain rfl := Option.some.inj hr
      exact zretI M I dX11_anchor_57
    · replace hr := zif_f hr c5
      refine lv_iconst (v := (0 : Int32)) hx hb dX11_anchor_47 (by decide) ?_
      refine lv_goto (tgt := 57) hx hb dX11_anchor_48 (by decide) ?_
      obtain rfl := Option.some.inj hr
      exact zretI M I dX11_anchor_57
  refine lv_if_ne (tgt := 23) hx hb dX11_anchor_16 (by decide) (fun c8 => ?_) (fun c8 => ?_)
  · replace e_x3 := zif_t e_x3 c8
    refine lv_iload_n hx hb dX11_anchor_23 rfl (lv_at hl 2 rfl) ?_
    refine lv_iconst (v := (0 : Int32)) hx hb dX11_anchor_24 (by decide) ?_
    refine lv_iconst (v := (3 : Int32)) hx hb dX11_anchor_25 (by decide) ?_
    obtain ⟨x6, e_x6, e_x3⟩ := zb_some e_x3
    refine zcallI M I (zrunS (as := [.int a2, .int (0 : Int32), .int (3 : Int32)]) M I (c_X11_within l g fu e_x6) zls_X11_77 ⟨Nat.le_of_ble_eq_true rfl, Nat.le_of_ble_eq_true rfl⟩ ⟨Nat.zero_le _, Nat.zero_le _⟩ rfl rfl (Nat.le_of_ble_eq_true rfl) hl.1 dX11_anchor_26) (fun H locs I => ?_)
    refine lv_if_eq (tgt := 36) hx hb dX11_anchor_29 (by decide) (fun c7 => ?_) (fun c7 => ?_)
    · replace e_x3 := zif_t e_x3 c7
      refine lv_iconst (v := (2 : Int32)) hx hb dX11_anchor_36 (by decide) ?_
      obtain rfl := Option.some.inj e_x3
      exact K_x3 ls _ _ hl I
    · replace e_x3 := zif_f e_x3 c7
      refine lv_iconst (v := (0 : Int32)) hx hb dX11_anchor_32 (by decide) ?_
      refine lv_goto (tgt := 37) hx hb dX11_anchor_33 (by decide) ?_
      obtain rfl := Option.some.inj e_x3
      exact K_x3 ls _ _ hl I
  · replace e_x3 := zif_f e_x3 (fun hq => hq c8)
    refine lv_iconst (v := (1 : Int32)) hx hb dX11_anchor_19 (by decide) ?_
    refine lv_goto (tgt := 37) hx hb dX11_anchor_20 (by decide) ?_
    obtain rfl := Option.some.inj e_x3
    exact K_x3 ls _ _ hl I
def l_X11_stretchOf_4 (fu : Nat) (σ : zmem) (a1 : Int32) : Nat → Int32 → Int32 → Option (Int32)
  | 0, _, _ => none
  | n + 1, v2, v3 => (if a1 < v3 then some v2 else (zrd σ 112 v3).bind fun x1 => (zrd σ 112 (v3 - (1 : Int32))).bind fun x2 => ((if x2 ≤ x1 then some (1 : Int32) else some (0 : Int32)) : Option (Int32)).bind fun x3 => l_X11_stretchOf_4 fu σ a1 n (v2 + x3) (v3 + 1))
set_option maxHeartbeats 4000000 in
set_option maxRecDepth 100000 in
theorem k_X11_stretchOf_4 {l : Launch} {g : zgeo} {fu : Nat} {p : Program} {e : Env} {s : State} {m : MethodId} {args : Array Value} {below : List Frame} {meth : Method} {c : Code} (M : zMC RX11 cX11_stretchOf 4 (some .int) g p m c s args meth) {σ : zmem} {a1 : Int32} {Q : State → Prop} : ∀ (n : Nat) (v2 : Int32) (v3 : Int32) (o : Int32), l_X11_stretchOf_4 fu σ a1 n v2 v3 = some o → ∀ (ls : Array Slot) (H : Heap) (locs : List Loc), lv_has ls 4 [(0, .ref (zA g 103)), (1, .int a1), (2, .int v2), (3, .int v3)] → zIV g σ (zAA g) s.heap H locs → (∀ (ls : Array Slot) (H : Heap) (locs : List Loc), lv_has ls 4 [(2, .int o)] → zIV g σ (zAA g) s.heap H locs → W p l e (zrm 0 0) s m args below meth c H locs 0 0 Q (F0 m 40 ls [])) → W p l e (zrm 0 0) s m args below meth c H locs 0 0 Q (F0 m 4 ls []) := by
  have hx := M.1.1
  have hb := M.1.2.1
  intro n
  induction n with
  | zero =>
    intro v2 v3 o hr ls H locs hl I KF
    have hr : (none : Option (Int32)) = some o := hr
    cases hr
  | succ n ih =>
    intro v2 v3 o hr ls H locs hl I KF
    rw [l_X11_stretchOf_4] at hr
    refine lv_iload_n hx hb dX11_stretchOf_4 rfl (lv_at hl 3 rfl) ?_
    refine lv_iload_n hx hb dX11_stretchOf_5 rfl (lv_at hl 1 rfl) ?_
    refine lv_icmp_gt (tgt := 40) hx hb dX11_stretchOf_6 (by decide) (fun c5 => ?_) (fun c5 => ?_)
    · replace hr := zif_t hr c5
      obtain rfl := Option.some.inj hr
      exact KF ls _ _ (lv_sub hl [2] rfl) I
    · replace hr := zif_f hr c5
      refine lv_iload_n hx hb dX11_stretchOf_9 rfl (lv_at hl 2 rfl) ?_
      refine lv_aload_n hx hb dX11_stretchOf_10 rfl (lv_at hl 0 rfl) ?_
      refine zgetR (j := 112) M I zc_103 zfl_X11_34 dX11_stretchOf_11 rfl ?_
      refine lv_iload_n hx hb dX11_stretchOf_14 rfl (lv_at hl 3 rfl) ?_
      obtain ⟨x1, e_x1, hr⟩ := zb_some hr
      refine ziald M I zc_112 e_x1 dX11_stretchOf_15 ?_
      refine lv_aload_n hx hb dX11_stretchOf_16 rfl (lv_at hl 0 rfl) ?_
      refine zgetR (j := 112) M I zc_103 zfl_X11_34 dX11_stretchOf_17 rfl ?_
      refine lv_iload_n hx hb dX11_stretchOf_20 rfl (lv_at hl 3 rfl) ?_
      refine lv_iconst (v := (1 : Int32)) hx hb dX11_stretchOf_21 (by decide) ?_
      refine lv_isub hx hb dX11_stretchOf_22 ?_
      obtain ⟨x2, e_x2, hr⟩ := zb_some hr
      refine ziald M I zc_112 e_x2 dX11_stretchOf_23 ?_
      obtain ⟨x3, e_x3, hr⟩ := zb_some hr
      have K_x3 : ∀ (ls : Array Slot) (H : Heap) (locs : List Loc), lv_has ls 4 [(0, .ref (zA g 103)), (1, .int a1), (3, .int v3)] → zIV g σ (zAA g) s.heap H locs → W p l e (zrm 0 0) s m args below meth c H locs 0 0 Q (F0 m 32 ls [.int x3, .int v2]) := by
        intro ls H locs hl I
        refine lv_iadd hx hb dX11_stretchOf_32 ?_
        refine lv_istore_n (lv' := [(2, .int (v2 + x3)), (0, .ref (zA g 103)), (1, .int a1), (3, .int v3)]) hx hb dX11_stretchOf_33 rfl hl (by decide) rfl (fun ls hl => ?_)
        refine lv_iinc (lv' := [(3, .int (v3 + 1)), (2, .int (v2 + x3)), (0, .ref (zA g 103)), (1, .int a1)]) (k := 3) (v := (v3 + 1)) hx hb dX11_stretchOf_34 hl rfl (zi_1 _) (by decide) rfl (fun ls hl => ?_)
        refine lv_goto (tgt := 4) hx hb dX11_stretchOf_37 (by decide) ?_
        exact ih _ _  _ hr ls _ _ (lv_sub hl [2, 3, 1, 0] rfl) I KF
      refine lv_icmp_ge (tgt := 31) hx hb dX11_stretchOf_24 (by decide) (fun c4 => ?_) (fun c4 => ?_)
      · replace e_x3 := zif_t e_x3 c4
        refine lv_iconst (v := (1 : Int32)) hx hb dX11_stretchOf_31 (by decide) ?_
        obtain rfl := Option.some.inj e_x3
        exact K_x3 ls _ _ (lv_sub hl [0, 1, 3] rfl) I
      · replace e_x3 := zif_f e_x3 c4
        refine lv_iconst (v := (0 : Int32)) hx hb dX11_stretchOf_27 (by decide) ?_
        refine lv_goto (tgt := 32) hx hb dX11_stretchOf_28 (by decide) ?_
        obtain rfl := Option.some.inj e_x3
        exact K_x3 ls _ _ (lv_sub hl [0, 1, 3] rfl) I
def m_X11_stretchOf (fu : Nat) (σ : zmem) (a1 : Int32) : Option (Int32) := (l_X11_stretchOf_4 fu σ a1 fu (0 : Int32) (1 : Int32)).bind fun x6 => some x6
set_option maxHeartbeats 4000000 in
set_option maxRecDepth 100000 in
theorem c_X11_stretchOf (l : Launch) (g : zgeo) (fu : Nat) {σ : zmem} {a1 : Int32} {r : Int32} (hr : m_X11_stretchOf fu σ a1 = some r) : zCt (zQI g r σ) l g yX11_stretchOf cX11_stretchOf 4 (some .int) 0 0 [.ref (zA g 103), .int a1] σ := by
  refine zopen (by decide) (Nat.le_of_ble_eq_true rfl) ?_
  intro p e s m below meth c M ls hl I
  have M : zMC RX11 cX11_stretchOf 4 (some .int) g p m c s ([.ref (zA g 103), .int a1] : List Value).toArray meth := M
  have hl : lv_has ls 4 [(0, .ref (zA g 103)), (1, .int a1)] := hl
  generalize ([.ref (zA g 103), .int a1] : List Value).toArray = args at M ⊢
  have hx := M.1.1
  have hb := M.1.2.1
  unfold m_X11_stretchOf at hr
  refine lv_iconst (v := (0 : Int32)) hx hb dX11_stretchOf_0 (by decide) ?_
  refine lv_istore_n (lv' := [(2, .int (0 : Int32)), (0, .ref (zA g 103)), (1, .int a1)]) hx hb dX11_stretchOf_1 rfl hl (by decide) rfl (fun ls hl => ?_)
  refine lv_iconst (v := (1 : Int32)) hx hb dX11_stretchOf_2 (by decide) ?_
  refine lv_istore_n (lv' := [(3, .int (1 : Int32)), (2, .int (0 : Int32)), (0, .ref (zA g 103)), (1, .int a1)]) hx hb dX11_stretchOf_3 rfl hl (by decide) rfl (fun ls hl => ?_)
  obtain ⟨x6, e_x6, hr⟩ := zb_some hr
  refine k_X11_stretchOf_4 M  fu _ _  _ e_x6 ls _ _ (lv_sub hl [2, 3, 1, 0] rfl) I (fun ls H locs hl I => ?_)
  refine lv_iload_n hx hb dX11_stretchOf_40 rfl (lv_at hl 0 rfl) ?_
  obtain rfl := Option.some.inj hr
  exact zretI M I dX11_stretchOf_41
def m_X11_turnedNow (fu : Nat) (σ : zmem) (a1 : Int32) (a2 : Int32) : Option (Int32 × zmem) := (m_X11_layAnchors fu σ).bind fun x1 => (if ¬ a2 = 0 then (if ¬ a2 = (1 : Int32) then (m_X11_stretchOf fu x1 a1).bind fun x2 => some (x2, x1) else (zrd x1 112 a1).bind fun x3 => some (x3, x1)) else (zrd x1 111 a1).bind fun x5 => some (x5, x1))
set_option maxHeartbeats 4000000 in
set_option maxRecDepth 100000 in
theorem c_X11_turnedNow (l : Launch) (g : zgeo) (fu : Nat) {σ : zmem} {a1 : Int32} {a2 : Int32} {r : Int32 × zmem} (hr : m_X11_turnedNow fu σ a1 a2 = some r) : zCt (zQI g r.1 r.2) l g yX11_turnedNow cX11_turnedNow 3 (some .int) 4 98 [.ref (zA g 103), .int a1, .int a2] σ := by
  refine zopen (by decide) (Nat.le_of_ble_eq_true rfl) ?_
  intro p e s m below meth c M ls hl I
  have M : zMC RX11 cX11_turnedNow 3 (some .int) g p m c s ([.ref (zA g 103), .int a1, .int a2] : List Value).toArray meth := M
  have hl : lv_has ls 3 [(0, .ref (zA g 103)), (1, .int a1), (2, .int a2)] := hl
  generalize ([.ref (zA g 103), .int a1, .int a2] : List Value).toArray = args at M ⊢
  have hx := M.1.1
  have hb := M.1.2.1
  unfold m_X11_turnedNow at hr
  refine lv_aload_n hx hb dX11_turnedNow_0 rfl (lv_at hl 0 rfl) ?_
  obtain ⟨x1, e_x1, hr⟩ := zb_some hr
  refine zcallU M I (zrunV (as := []) M I (c_X11_layAnchors l g fu e_x1) zc_103 zK11.1 (by decide) zlv_X11_107 ⟨Nat.le_of_ble_eq_true rfl, Nat.le_of_ble_eq_true rfl⟩ ⟨Nat.zero_le _, Nat.zero_le _⟩ rfl rfl (Nat.le_of_ble_eq_true rfl) hl.1 dX11_turnedNow_1) (fun H locs I => ?_)
  refine lv_iload_n hx hb dX11_turnedNow_4 rfl (lv_at hl 2 rfl) ?_
  refine lv_if_ne (tgt := 17) hx hb dX11_turnedNow_5 (by decide) (fun c6 => ?_) (fun c6 => ?_)
  · replace hr := zif_t hr c6
    refine lv_iload_n hx hb dX11_turnedNow_17 rfl (lv_at hl 2 rfl) ?_
    refine lv_iconst (v := (1 : Int32)) hx hb dX11_turnedNow_18 (by decide) ?_
    refine lv_icmp_ne (tgt := 31) hx hb dX11_turnedNow_19 (by decide) (fun c4 => ?_) (fun c4 => ?_)
    · replace hr := zif_t hr c4
      refine lv_aload_n hx hb dX11_turnedNow_31 rfl (lv_at hl 0 rfl) ?_
      refine lv_iload_n hx hb dX11_turnedNow_32 rfl (lv_at hl 1 rfl) ?_
      obtain ⟨x2, e_x2, hr⟩ := zb_some hr
      refine zcallI M I (zrunV (as := [.int a1]) M I (c_X11_stretchOf l g fu e_x2) zc_103 zK11.1 (by decide) zlv_X11_188 ⟨Nat.le_of_ble_eq_true rfl, Nat.le_of_ble_eq_true rfl⟩ ⟨Nat.zero_le _, Nat.zero_le _⟩ rfl rfl (Nat.le_of_ble_eq_true rfl) hl.1 dX11_turnedNow_33) (fun H locs I => ?_)
      obtain rfl := Option.some.inj hr
      exact zretI M I dX11_turnedNow_36
    · replace hr := zif_f hr (fun hq => hq c4)
      refine lv_aload_n hx hb dX11_turnedNow_22 rfl (lv_at hl 0 rfl) ?_
      refine zgetR (j := 112) M I zc_103 zfl_X11_34 dX11_turnedNow_23 rfl ?_
      refine lv_iload_n hx hb dX11_turnedNow_26 rfl (lv_at hl 1 rfl) ?_
      obtain ⟨x3, e_x3, hr⟩ := zb_some hr
      refine ziald M I zc_112 e_x3 dX11_turnedNow_27 ?_
      refine lv_goto (tgt := 36) hx hb dX11_turnedNow_28 (by decide) ?_
      obtain rfl := Option.some.inj hr
      exact zretI M I dX11_turnedNow_36
  · replace hr := zif_f hr (fun hq => hq c6)
    refine lv_aload_n hx hb dX11_turnedNow_8 rfl (lv_at hl 0 rfl) ?_
    refine zgetR (j := 111) M I zc_103 zfl_X11_31 dX11_turnedNow_9 rfl ?_
    refine lv_iload_n hx hb dX11_turnedNow_12 rfl (lv_at hl 1 rfl) ?_
    obtain ⟨x5, e_x5, hr⟩ := zb_some hr
    refine ziald M I zc_111 e_x5 dX11_turnedNow_13 ?_
    refine lv_goto (tgt := 36) hx hb dX11_turnedNow_14 (by decide) ?_
    obtain rfl := Option.some.inj hr
    exact zretI M I dX11_turnedNow_36
def m_X11_turned (fu : Nat) (σ : zmem) (a1 : Int32) (a2 : Int32) : Option (Int32 × zmem) := (m_X11_layAnchors fu σ).bind fun x1 => (m_X11_within fu x1 a1 (0 : Int32) ((x1.1 103 13) - (1 : Int32))).bind fun x2 => ((if ¬ x2 = 0 then (m_X11_within fu x1 a2 (0 : Int32) (2 : Int32)).bind fun x6 => (if x6 = 0 then some (2 : Int32) else some (0 : Int32)) else some (1 : Int32)) : Option (Int32)).bind fun x3 => (if ((zst x1 103 7 x3).1 103 7) ≤ 0 then (m_X11_turnedNow fu (zst x1 103 7 x3) a1 a2).bind fun x4 => some (x4.1, x4.2) else some ((0 : Int32), (zst x1 103 7 x3)))
set_option maxHeartbeats 4000000 in
set_option maxRecDepth 100000 in
theorem c_X11_turned (l : Launch) (g : zgeo) (fu : Nat) {σ : zmem} {a1 : Int32} {a2 : Int32} {r : Int32 × zmem} (hr : m_X11_turned fu σ a1 a2 = some r) : zCt (zQI g r.1 r.2) l g yX11_turned cX11_turned 3 (some .int) 5 120 [.ref (zA g 103), .int a1, .int a2] σ := by
  refine zopen (by decide) (Nat.le_of_ble_eq_true rfl) ?_
  intro p e s m below meth c M ls hl I
  have M : zMC RX11 cX11_turned 3 (some .int) g p m c s ([.ref (zA g 103), .int a1, .int a2] : List Value).toArray meth := M
  have hl : lv_has ls 3 [(0, .ref (zA g 103)), (1, .int a1), (2, .int a2)] := hl
  generalize ([.ref (zA g 103), .int a1, .int a2] : List Value).toArray = args at M ⊢
  have hx := M.1.1
  have hb := M.1.2.1
  unfold m_X11_turned at hr
  refine lv_aload_n hx hb dX11_turned_0 rfl (lv_at hl 0 rfl) ?_
  obtain ⟨x1, e_x1, hr⟩ := zb_some hr
  refine zcallU M I (zrunV (as := []) M I (c_X11_layAnchors l g fu e_x1) zc_103 zK11.1 (by decide) zlv_X11_107 ⟨Nat.le_of_ble_eq_true rfl, Nat.le_of_ble_eq_true rfl⟩ ⟨Nat.zero_le _, Nat.zero_le _⟩ rfl rfl (Nat.le_of_ble_eq_true rfl) hl.1 dX11_turned_1) (fun H locs I => ?_)
  refine lv_aload_n hx hb dX11_turned_4 rfl (lv_at hl 0 rfl) ?_
  refine lv_iload_n hx hb dX11_turned_5 rfl (lv_at hl 1 rfl) ?_
  refine lv_iconst (v := (0 : Int32)) hx hb dX11_turned_6 (by decide) ?_
  refine lv_aload_n hx hb dX11_turned_7 rfl (lv_at hl 0 rfl) ?_
  refine zgetI M I zc_103 zfl_X11_100 dX11_turned_8 ?_
  refine lv_iconst (v := (1 : Int32)) hx hb dX11_turned_11 (by decide) ?_
  refine lv_isub hx hb dX11_turned_12 ?_
  obtain ⟨x2, e_x2, hr⟩ := zb_some hr
  refine zcallI M I (zrunS (as := [.int a1, .int (0 : Int32), .int ((x1.1 103 13) - (1 : Int32))]) M I (c_X11_within l g fu e_x2) zls_X11_77 ⟨Nat.le_of_ble_eq_true rfl, Nat.le_of_ble_eq_true rfl⟩ ⟨Nat.zero_le _, Nat.zero_le _⟩ rfl rfl (Nat.le_of_ble_eq_true rfl) hl.1 dX11_turned_13) (fun H locs I => ?_)
  obtain ⟨x3, e_x3, hr⟩ := zb_some hr
  have K_x3 : ∀ (ls : Array Slot) (H : Heap) (locs : List Loc), lv_has ls 3 [(0, .ref (zA g 103)), (1, .int a1), (2, .int a2)] → zIV g x1 (zAA g) s.heap H locs → W p l e (zrm 5 120) s m args below meth c H locs 0 0 (MQ below (zQI g r.1 r.2) args s 0 0 (zAA g)) (F0 m 37 ls [.int x3, .ref (zA g 103)]) := by
    intro ls H locs hl I
    refine zputI M I zc_103 zfw_X11_70 dX11_turned_37 (fun H locs I => ?_)
    refine lv_aload_n hx hb dX11_turned_40 rfl (lv_at hl 0 rfl) ?_
    refine zgetI M I zc_103 zfl_X11_70 dX11_turned_41 ?_
    refine lv_if_le (tgt := 51) hx hb dX11_turned_44 (by decide) (fun c5 => ?_) (fun c5 => ?_)
    · replace hr := zif_t hr c5
      refine lv_aload_n hx hb dX11_turned_51 rfl (lv_at hl 0 rfl) ?_
      refine lv_iload_n hx hb dX11_turned_52 rfl (lv_at hl 1 rfl) ?_
      refine lv_iload_n hx hb dX11_turned_53 rfl (lv_at hl 2 rfl) ?_
      obtain ⟨x4, e_x4, hr⟩ := zb_some hr
      refine zcallI M I (zrunV (as := [.int a1, .int a2]) M I (c_X11_turnedNow l g fu e_x4) zc_103 zK11.1 (by decide) zlv_X11_191 ⟨Nat.le_of_ble_eq_true rfl, Nat.le_of_ble_eq_true rfl⟩ ⟨Nat.zero_le _, Nat.zero_le _⟩ rfl rfl (Nat.le_of_ble_eq_true rfl) hl.1 dX11_turned_54) (fun H locs I => ?_)
      obtain rfl := Option.some.inj hr
      exact zretI M I dX11_turned_57
    · replace hr := zif_f hr c5
      refine lv_iconst (v := (0 : Int32)) hx hb dX11_turned_47 (by decide) ?_
      refine lv_goto (tgt := 57) hx hb dX11_turned_48 (by decide) ?_
      obtain rfl := Option.some.inj hr
      exact zretI M I dX11_turned_57
  refine lv_if_ne (tgt := 23) hx hb dX11_turned_16 (by decide) (fun c8 => ?_) (fun c8 => ?_)
  · replace e_x3 := zif_t e_x3 c8
    refine lv_iload_n hx hb dX11_turned_23 rfl (lv_at hl 2 rfl) ?_
    refine lv_iconst (v := (0 : Int32)) hx hb dX11_turned_24 (by decide) ?_
    refine lv_iconst (v := (2 : Int32)) hx hb dX11_turned_25 (by decide) ?_
    obtain ⟨x6, e_x6, e_x3⟩ := zb_some e_x3
    refine zcallI M I (zrunS (as := [.int a2, .int (0 : Int32), .int (2 : Int32)]) M I (c_X11_within l g fu e_x6) zls_X11_77 ⟨Nat.le_of_ble_eq_true rfl, Nat.le_of_ble_eq_true rfl⟩ ⟨Nat.zero_le _, Nat.zero_le _⟩ rfl rfl (Nat.le_of_ble_eq_true rfl) hl.1 dX11_turned_26) (fun H locs I => ?_)
    refine lv_if_eq (tgt := 36) hx hb dX11_turned_29 (by decide) (fun c7 => ?_) (fun c7 => ?_)
    · replace e_x3 := zif_t e_x3 c7
      refine lv_iconst (v := (2 : Int32)) hx hb dX11_turned_36 (by decide) ?_
      obtain rfl := Option.some.inj e_x3
      exact K_x3 ls _ _ hl I
    · replace e_x3 := zif_f e_x3 c7
      refine lv_iconst (v := (0 : Int32)) hx hb dX11_turned_32 (by decide) ?_
      refine lv_goto (tgt := 37) hx hb dX11_turned_33 (by decide) ?_
      obtain rfl := Option.some.inj e_x3
      exact K_x3 ls _ _ hl I
  · replace e_x3 := zif_f e_x3 (fun hq => hq c8)
    refine lv_iconst (v := (1 : Int32)) hx hb dX11_turned_19 (by decide) ?_
    refine lv_goto (tgt := 37) hx hb dX11_turned_20 (by decide) ?_
    obtain rfl := Option.some.inj e_x3
    exact K_x3 ls _ _ hl I
def m_X11_gapNow (fu : Nat) (σ : zmem) (a1 : Int32) (a2 : Int32) : Option (Int32 × zmem) := (m_X11_layAll fu σ).bind fun x1 => (if a1 < (x1.1 103 22) then (if a2 = (0 : Int32) then (zrd x1 117 ((2 : Int32) * a1)).bind fun x3 => some (x3, x1) else (if a2 = (1 : Int32) then (zrd x1 118 ((2 : Int32) * a1)).bind fun x5 => some (x5, x1) else (if a2 = (2 : Int32) then (zrd x1 117 (((2 : Int32) * a1) + (1 : Int32))).bind fun x7 => some (x7, x1) else (if a2 = (3 : Int32) then (zrd x1 118 (((2 : Int32) * a1) + (1 : Int32))).bind fun x9 => some (x9, x1) else (zrd x1 119 a1).bind fun x10 => some (x10, x1))))) else some ((-1 : Int32), x1))
set_option maxHeartbeats 4000000 in
set_option maxRecDepth 100000 in
theorem c_X11_gapNow (l : Launch) (g : zgeo) (fu : Nat) {σ : zmem} {a1 : Int32} {a2 : Int32} {r : Int32 × zmem} (hr : m_X11_gapNow fu σ a1 a2 = some r) : zCt (zQI g r.1 r.2) l g yX11_gapNow cX11_gapNow 3 (some .int) 6 147 [.ref (zA g 103), .int a1, .int a2] σ := by
  refine zopen (by decide) (Nat.le_of_ble_eq_true rfl) ?_
  intro p e s m below meth c M ls hl I
  have M : zMC RX11 cX11_gapNow 3 (some .int) g p m c s ([.ref (zA g 103), .int a1, .int a2] : List Value).toArray meth := M
  have hl : lv_has ls 3 [(0, .ref (zA g 103)), (1, .int a1), (2, .int a2)] := hl
  generalize ([.ref (zA g 103), .int a1, .int a2] : List Value).toArray = args at M ⊢
  have hx := M.1.1
  have hb := M.1.2.1
  unfold m_X11_gapNow at hr
  refine lv_aload_n hx hb dX11_gapNow_0 rfl (lv_at hl 0 rfl) ?_
  obtain ⟨x1, e_x1, hr⟩ := zb_some hr
  refine zcallU M I (zrunV (as := []) M I (c_X11_layAll l g fu e_x1) zc_103 zK11.1 (by decide) zlv_X11_143 ⟨Nat.le_of_ble_eq_true rfl, Nat.le_of_ble_eq_true rfl⟩ ⟨Nat.zero_le _, Nat.zero_le _⟩ rfl rfl (Nat.le_of_ble_eq_true rfl) hl.1 dX11_gapNow_1) (fun H locs I => ?_)
  refine lv_iload_n hx hb dX11_gapNow_4 rfl (lv_at hl 1 rfl) ?_
  refine lv_aload_n hx hb dX11_gapNow_5 rfl (lv_at hl 0 rfl) ?_
  refine zgetI M I zc_103 zfl_X11_122 dX11_gapNow_6 ?_
  refine lv_icmp_lt (tgt := 14) hx hb dX11_gapNow_9 (by decide) (fun c11 => ?_) (fun c11 => ?_)
  · replace hr := zif_t hr c11
    refine lv_iload_n hx hb dX11_gapNow_14 rfl (lv_at hl 2 rfl) ?_
    by_cases c2 : a2 = (0 : Int32)
    · replace hr := zif_t hr c2
      refine lv_tableIn (tgt := 44) hx hb dX11_gapNow_15 (by rw [c2]; decide) (by rw [c2]; decide) (by rw [c2]; try rfl) (by decide) ?_
      refine lv_aload_n hx hb dX11_gapNow_44 rfl (lv_at hl 0 rfl) ?_
      refine zgetR (j := 117) M I zc_103 zfl_X11_49 dX11_gapNow_45 rfl ?_
      refine lv_iconst (v := (2 : Int32)) hx hb dX11_gapNow_48 (by decide) ?_
      refine lv_iload_n hx hb dX11_gapNow_49 rfl (lv_at hl 1 rfl) ?_
      refine lv_imul hx hb dX11_gapNow_50 ?_
      obtain ⟨x3, e_x3, hr⟩ := zb_some hr
      refine ziald M I zc_117 e_x3 dX11_gapNow_51 ?_
      obtain rfl := Option.some.inj hr
      exact zretI M I dX11_gapNow_52
    · replace hr := zif_f hr c2
      by_cases c4 : a2 = (1 : Int32)
      · replace hr := zif_t hr c4
        refine lv_tableIn (tgt := 53) hx hb dX11_gapNow_15 (by rw [c4]; decide) (by rw [c4]; decide) (by rw [c4]; try rfl) (by decide) ?_
        refine lv_aload_n hx hb dX11_gapNow_53 rfl (lv_at hl 0 rfl) ?_
        refine zgetR (j := 118) M I zc_103 zfl_X11_52 dX11_gapNow_54 rfl ?_
        refine lv_iconst (v := (2 : Int32)) hx hb dX11_gapNow_57 (by decide) ?_
        refine lv_iload_n hx hb dX11_gapNow_58 rfl (lv_at hl 1 rfl) ?_
        refine lv_imul hx hb dX11_gapNow_59 ?_
        obtain ⟨x5, e_x5, hr⟩ := zb_some hr
        refine ziald M I zc_118 e_x5 dX11_gapNow_60 ?_
        obtain rfl := Option.some.inj hr
        exact zretI M I dX11_gapNow_61
      · replace hr := zif_f hr c4
        by_cases c6 : a2 = (2 : Int32)
        · replace hr := zif_t hr c6
          refine lv_tableIn (tgt := 62) hx hb dX11_gapNow_15 (by rw [c6]; decide) (by rw [c6]; decide) (by rw [c6]; try rfl) (by decide) ?_
          refine lv_aload_n hx hb dX11_gapNow_62 rfl (lv_at hl 0 rfl) ?_
          refine zgetR (j := 117) M I zc_103 zfl_X11_49 dX11_gapNow_63 rfl ?_
          refine lv_iconst (v := (2 : Int32)) hx hb dX11_gapNow_66 (by decide) ?_
          refine lv_iload_n hx hb dX11_gapNow_67 rfl (lv_at hl 1 rfl) ?_
          refine lv_imul hx hb dX11_gapNow_68 ?_
          refine lv_iconst (v := (1 : Int32)) hx hb dX11_gapNow_69 (by decide) ?_
          refine lv_iadd hx hb dX11_gapNow_70 ?_
          obtain ⟨x7, e_x7, hr⟩ := zb_some hr
          refine ziald M I zc_117 e_x7 dX11_gapNow_71 ?_
          obtain rfl := Option.some.inj hr
          exact zretI M I dX11_gapNow_72
        · replace hr := zif_f hr c6
          by_cases c8 : a2 = (3 : Int32)
          · replace hr := zif_t hr c8
            refine lv_tableIn (tgt := 73) hx hb dX11_gapNow_15 (by rw [c8]; decide) (by rw [c8]; decide) (by rw [c8]; try rfl) (by decide) ?_
            refine lv_aload_n hx hb dX11_gapNow_73 rfl (lv_at hl 0 rfl) ?_
            refine zgetR (j := 118) M I zc_103 zfl_X11_52 dX11_gapNow_74 rfl ?_
            refine lv_iconst (v := (2 : Int32)) hx hb dX11_gapNow_77 (by decide) ?_
            refine lv_iload_n hx hb dX11_gapNow_78 rfl (lv_at hl 1 rfl) ?_
            refine lv_imul hx hb dX11_gapNow_79 ?_
            refine lv_iconst (v := (1 : Int32)) hx hb dX11_gapNow_80 (by decide) ?_
            refine lv_iadd hx hb dX11_gapNow_81 ?_
            obtain ⟨x9, e_x9, hr⟩ := zb_some hr
            refine ziald M I zc_118 e_x9 dX11_gapNow_82 ?_
            obtain rfl := Option.some.inj hr
            exact zretI M I dX11_gapNow_83
          · replace hr := zif_f hr c8
            refine lv_tableOut (tgt := 84) hx hb dX11_gapNow_15 (ztab_4 c2 c4 c6 c8) (by decide) ?_
            refine lv_aload_n hx hb dX11_gapNow_84 rfl (lv_at hl 0 rfl) ?_
            refine zgetR (j := 119) M I zc_103 zfl_X11_55 dX11_gapNow_85 rfl ?_
            refine lv_iload_n hx hb dX11_gapNow_88 rfl (lv_at hl 1 rfl) ?_
            obtain ⟨x10, e_x10, hr⟩ := zb_some hr
            refine ziald M I zc_119 e_x10 dX11_gapNow_89 ?_
            obtain rfl := Option.some.inj hr
            exact zretI M I dX11_gapNow_90
  · replace hr := zif_f hr c11
    refine lv_iconst (v := (-1 : Int32)) hx hb dX11_gapNow_12 (by decide) ?_
    obtain rfl := Option.some.inj hr
    exact zretI M I dX11_gapNow_13
def m_X11_gap (fu : Nat) (σ : zmem) (a1 : Int32) (a2 : Int32) : Option (Int32 × zmem) := ((if a1 < 0 then some (1 : Int32) else (m_X11_within fu σ a2 (0 : Int32) (4 : Int32)).bind fun x4 => (if x4 = 0 then some (1 : Int32) else some (0 : Int32))) : Option (Int32)).bind fun x1 => (if ((zst σ 103 7 x1).1 103 7) ≤ 0 then (m_X11_gapNow fu (zst σ 103 7 x1) a1 a2).bind fun x2 => some (x2.1, x2.2) else some ((0 : Int32), (zst σ 103 7 x1)))
set_option maxHeartbeats 4000000 in
set_option maxRecDepth 100000 in
theorem c_X11_gap (l : Launch) (g : zgeo) (fu : Nat) {σ : zmem} {a1 : Int32} {a2 : Int32} {r : Int32 × zmem} (hr : m_X11_gap fu σ a1 a2 = some r) : zCt (zQI g r.1 r.2) l g yX11_gap cX11_gap 3 (some .int) 7 169 [.ref (zA g 103), .int a1, .int a2] σ := by
  refine zopen (by decide) (Nat.le_of_ble_eq_true rfl) ?_
  intro p e s m below meth c M ls hl I
  have M : zMC RX11 cX11_gap 3 (some .int) g p m c s ([.ref (zA g 103), .int a1, .int a2] : List Value).toArray meth := M
  have hl : lv_has ls 3 [(0, .ref (zA g 103)), (1, .int a1), (2, .int a2)] := hl
  generalize ([.ref (zA g 103), .int a1, .int a2] : List Value).toArray = args at M ⊢
  have hx := M.1.1
  have hb := M.1.2.1
  unfold m_X11_gap at hr
  refine lv_aload_n hx hb dX11_gap_0 rfl (lv_at hl 0 rfl) ?_
  refine lv_iload_n hx hb dX11_gap_1 rfl (lv_at hl 1 rfl) ?_
  obtain ⟨x1, e_x1, hr⟩ := zb_some hr
  have K_x1 : ∀ (ls : Array Slot) (H : Heap) (locs : List Loc), lv_has ls 3 [(0, .ref (zA g 103)), (1, .int a1), (2, .int a2)] → zIV g σ (zAA g) s.heap H locs → W p l e (zrm 7 169) s m args below meth c H locs 0 0 (MQ below (zQI g r.1 r.2) args s 0 0 (zAA g)) (F0 m 19 ls [.int x1, .ref (zA g 103)]) := by
    intro ls H locs hl I
    refine zputI M I zc_103 zfw_X11_70 dX11_gap_19 (fun H locs I => ?_)
    refine lv_aload_n hx hb dX11_gap_22 rfl (lv_at hl 0 rfl) ?_
    refine zgetI M I zc_103 zfl_X11_70 dX11_gap_23 ?_
    refine lv_if_le (tgt := 33) hx hb dX11_gap_26 (by decide) (fun c3 => ?_) (fun c3 => ?_)
    · replace hr := zif_t hr c3
      refine lv_aload_n hx hb dX11_gap_33 rfl (lv_at hl 0 rfl) ?_
      refine lv_iload_n hx hb dX11_gap_34 rfl (lv_at hl 1 rfl) ?_
      refine lv_iload_n hx hb dX11_gap_35 rfl (lv_at hl 2 rfl) ?_
      obtain ⟨x2, e_x2, hr⟩ := zb_some hr
      refine zcallI M I (zrunV (as := [.int a1, .int a2]) M I (c_X11_gapNow l g fu e_x2) zc_103 zK11.1 (by decide) zlv_X11_194 ⟨Nat.le_of_ble_eq_true rfl, Nat.le_of_ble_eq_true rfl⟩ ⟨Nat.zero_le _, Nat.zero_le _⟩ rfl rfl (Nat.le_of_ble_eq_true rfl) hl.1 dX11_gap_36) (fun H locs I => ?_)
      obtain rfl := Option.some.inj hr
      exact zretI M I dX11_gap_39
    · replace hr := zif_f hr c3
      refine lv_iconst (v := (0 : Int32)) hx hb dX11_gap_29 (by decide) ?_
      refine lv_goto (tgt := 39) hx hb dX11_gap_30 (by decide) ?_
      obtain rfl := Option.some.inj hr
      exact zretI M I dX11_gap_39
  refine lv_if_lt (tgt := 18) hx hb dX11_gap_2 (by decide) (fun c6 => ?_) (fun c6 => ?_)
  · replace e_x1 := zif_t e_x1 c6
    refine lv_iconst (v := (1 : Int32)) hx hb dX11_gap_18 (by decide) ?_
    obtain rfl := Option.some.inj e_x1
    exact K_x1 ls _ _ hl I
  · replace e_x1 := zif_f e_x1 c6
    refine lv_iload_n hx hb dX11_gap_5 rfl (lv_at hl 2 rfl) ?_
    refine lv_iconst (v := (0 : Int32)) hx hb dX11_gap_6 (by decide) ?_
    refine lv_iconst (v := (4 : Int32)) hx hb dX11_gap_7 (by decide) ?_
    obtain ⟨x4, e_x4, e_x1⟩ := zb_some e_x1
    refine zcallI M I (zrunS (as := [.int a2, .int (0 : Int32), .int (4 : Int32)]) M I (c_X11_within l g fu e_x4) zls_X11_77 ⟨Nat.le_of_ble_eq_true rfl, Nat.le_of_ble_eq_true rfl⟩ ⟨Nat.zero_le _, Nat.zero_le _⟩ rfl rfl (Nat.le_of_ble_eq_true rfl) hl.1 dX11_gap_8) (fun H locs I => ?_)
    refine lv_if_eq (tgt := 18) hx hb dX11_gap_11 (by decide) (fun c5 => ?_) (fun c5 => ?_)
    · replace e_x1 := zif_t e_x1 c5
      refine lv_iconst (v := (1 : Int32)) hx hb dX11_gap_18 (by decide) ?_
      obtain rfl := Option.some.inj e_x1
      exact K_x1 ls _ _ hl I
    · replace e_x1 := zif_f e_x1 c5
      refine lv_iconst (v := (0 : Int32)) hx hb dX11_gap_14 (by decide) ?_
      refine lv_goto (tgt := 19) hx hb dX11_gap_15 (by decide) ?_
      obtain rfl := Option.some.inj e_x1
      exact K_x1 ls _ _ hl I
def m_X11_partnerNow (fu : Nat) (σ : zmem) (a1 : Int32) (a2 : Int32) : Option (Int32 × zmem) := (m_X11_layAll fu σ).bind fun x1 => (zrd x1 120 (((24 : Int32) * a1) + a2)).bind fun x2 => some (x2, x1)
set_option maxHeartbeats 4000000 in
set_option maxRecDepth 100000 in
theorem c_X11_partnerNow (l : Launch) (g : zgeo) (fu : Nat) {σ : zmem} {a1 : Int32} {a2 : Int32} {r : Int32 × zmem} (hr : m_X11_partnerNow fu σ a1 a2 = some r) : zCt (zQI g r.1 r.2) l g yX11_partnerNow cX11_partnerNow 3 (some .int) 6 147 [.ref (zA g 103), .int a1, .int a2] σ := by
  refine zopen (by decide) (Nat.le_of_ble_eq_true rfl) ?_
  intro p e s m below meth c M ls hl I
  have M : zMC RX11 cX11_partnerNow 3 (some .int) g p m c s ([.ref (zA g 103), .int a1, .int a2] : List Value).toArray meth := M
  have hl : lv_has ls 3 [(0, .ref (zA g 103)), (1, .int a1), (2, .int a2)] := hl
  generalize ([.ref (zA g 103), .int a1, .int a2] : List Value).toArray = args at M ⊢
  have hx := M.1.1
  have hb := M.1.2.1
  unfold m_X11_partnerNow at hr
  refine lv_aload_n hx hb dX11_partnerNow_0 rfl (lv_at hl 0 rfl) ?_
  obtain ⟨x1, e_x1, hr⟩ := zb_some hr
  refine zcallU M I (zrunV (as := []) M I (c_X11_layAll l g fu e_x1) zc_103 zK11.1 (by decide) zlv_X11_143 ⟨Nat.le_of_ble_eq_true rfl, Nat.le_of_ble_eq_true rfl⟩ ⟨Nat.zero_le _, Nat.zero_le _⟩ rfl rfl (Nat.le_of_ble_eq_true rfl) hl.1 dX11_partnerNow_1) (fun H locs I => ?_)
  refine lv_aload_n hx hb dX11_partnerNow_4 rfl (lv_at hl 0 rfl) ?_
  refine zgetR (j := 120) M I zc_103 zfl_X11_58 dX11_partnerNow_5 rfl ?_
  refine lv_bipush (v := (24 : Int32)) hx hb dX11_partnerNow_8 (by decide) ?_
  refine lv_iload_n hx hb dX11_partnerNow_10 rfl (lv_at hl 1 rfl) ?_
  refine lv_imul hx hb dX11_partnerNow_11 ?_
  refine lv_iload_n hx hb dX11_partnerNow_12 rfl (lv_at hl 2 rfl) ?_
  refine lv_iadd hx hb dX11_partnerNow_13 ?_
  obtain ⟨x2, e_x2, hr⟩ := zb_some hr
  refine ziald M I zc_120 e_x2 dX11_partnerNow_14 ?_
  obtain rfl := Option.some.inj hr
  exact zretI M I dX11_partnerNow_15
def m_X11_partner (fu : Nat) (σ : zmem) (a1 : Int32) (a2 : Int32) : Option (Int32 × zmem) := (m_X11_isPlace fu σ a1 a2).bind fun x1 => ((if x1 = 0 then some (1 : Int32) else some (0 : Int32)) : Option (Int32)).bind fun x2 => (if ((zst σ 103 7 x2).1 103 7) ≤ 0 then (m_X11_partnerNow fu (zst σ 103 7 x2) a1 a2).bind fun x3 => some (x3.1, x3.2) else some ((0 : Int32), (zst σ 103 7 x2)))
set_option maxHeartbeats 4000000 in
set_option maxRecDepth 100000 in
theorem c_X11_partner (l : Launch) (g : zgeo) (fu : Nat) {σ : zmem} {a1 : Int32} {a2 : Int32} {r : Int32 × zmem} (hr : m_X11_partner fu σ a1 a2 = some r) : zCt (zQI g r.1 r.2) l g yX11_partner cX11_partner 3 (some .int) 7 169 [.ref (zA g 103), .int a1, .int a2] σ := by
  refine zopen (by decide) (Nat.le_of_ble_eq_true rfl) ?_
  intro p e s m below meth c M ls hl I
  have M : zMC RX11 cX11_partner 3 (some .int) g p m c s ([.ref (zA g 103), .int a1, .int a2] : List Value).toArray meth := M
  have hl : lv_has ls 3 [(0, .ref (zA g 103)), (1, .int a1), (2, .int a2)] := hl
  generalize ([.ref (zA g 103), .int a1, .int a2] : List Value).toArray = args at M ⊢
  have hx := M.1.1
  have hb := M.1.2.1
  unfold m_X11_partner at hr
  refine lv_aload_n hx hb dX11_partner_0 rfl (lv_at hl 0 rfl) ?_
  refine lv_aload_n hx hb dX11_partner_1 rfl (lv_at hl 0 rfl) ?_
  refine lv_iload_n hx hb dX11_partner_2 rfl (lv_at hl 1 rfl) ?_
  refine lv_iload_n hx hb dX11_partner_3 rfl (lv_at hl 2 rfl) ?_
  obtain ⟨x1, e_x1, hr⟩ := zb_some hr
  refine zcallI M I (zrunV (as := [.int a1, .int a2]) M I (c_X11_isPlace l g fu e_x1) zc_103 zK11.1 (by decide) zlv_X11_156 ⟨Nat.le_of_ble_eq_true rfl, Nat.le_of_ble_eq_true rfl⟩ ⟨Nat.zero_le _, Nat.zero_le _⟩ rfl rfl (Nat.le_of_ble_eq_true rfl) hl.1 dX11_partner_4) (fun H locs I => ?_)
  obtain ⟨x2, e_x2, hr⟩ := zb_some hr
  have K_x2 : ∀ (ls : Array Slot) (H : Heap) (locs : List Loc), lv_has ls 3 [(0, .ref (zA g 103)), (1, .int a1), (2, .int a2)] → zIV g σ (zAA g) s.heap H locs → W p l e (zrm 7 169) s m args below meth c H locs 0 0 (MQ below (zQI g r.1 r.2) args s 0 0 (zAA g)) (F0 m 15 ls [.int x2, .ref (zA g 103)]) := by
    intro ls H locs hl I
    refine zputI M I zc_103 zfw_X11_70 dX11_partner_15 (fun H locs I => ?_)
    refine lv_aload_n hx hb dX11_partner_18 rfl (lv_at hl 0 rfl) ?_
    refine zgetI M I zc_103 zfl_X11_70 dX11_partner_19 ?_
    refine lv_if_le (tgt := 29) hx hb dX11_partner_22 (by decide) (fun c4 => ?_) (fun c4 => ?_)
    · replace hr := zif_t hr c4
      refine lv_aload_n hx hb dX11_partner_29 rfl (lv_at hl 0 rfl) ?_
      refine lv_iload_n hx hb dX11_partner_30 rfl (lv_at hl 1 rfl) ?_
      refine lv_iload_n hx hb dX11_partner_31 rfl (lv_at hl 2 rfl) ?_
      obtain ⟨x3, e_x3, hr⟩ := zb_some hr
      refine zcallI M I (zrunV (as := [.int a1, .int a2]) M I (c_X11_partnerNow l g fu e_x3) zc_103 zK11.1 (by decide) zlv_X11_197 ⟨Nat.le_of_ble_eq_true rfl, Nat.le_of_ble_eq_true rfl⟩ ⟨Nat.zero_le _, Nat.zero_le _⟩ rfl rfl (Nat.le_of_ble_eq_true rfl) hl.1 dX11_partner_32) (fun H locs I => ?_)
      obtain rfl := Option.some.inj hr
      exact zretI M I dX11_partner_35
    · replace hr := zif_f hr c4
      refine lv_iconst (v := (0 : Int32)) hx hb dX11_partner_25 (by decide) ?_
      refine lv_goto (tgt := 35) hx hb dX11_partner_26 (by decide) ?_
      obtain rfl := Option.some.inj hr
      exact zretI M I dX11_partner_35
  refine lv_if_eq (tgt := 14) hx hb dX11_partner_7 (by decide) (fun c5 => ?_) (fun c5 => ?_)
  · replace e_x2 := zif_t e_x2 c5
    refine lv_iconst (v := (1 : Int32)) hx hb dX11_partner_14 (by decide) ?_
    obtain rfl := Option.some.inj e_x2
    exact K_x2 ls _ _ hl I
  · replace e_x2 := zif_f e_x2 c5
    refine lv_iconst (v := (0 : Int32)) hx hb dX11_partner_10 (by decide) ?_
    refine lv_goto (tgt := 15) hx hb dX11_partner_11 (by decide) ?_
    obtain rfl := Option.some.inj e_x2
    exact K_x2 ls _ _ hl I
def l_X11_standings_24 (fu : Nat) (σ : zmem) (a1 : Int32) (a2 : Int32) (a3 : Int32) (a4 : Int32) (a5 : Int32) : Nat → Int32 → Int32 → Option (Int32)
  | 0, _, _ => none
  | n + 1, v6, v7 => (if a3 ≤ v7 then some v6 else ((if v6 = 0 then some (0 : Int32) else (m_X11_at fu σ a1 (a5 + v7)).bind fun x3 => (m_X11_at fu σ a1 (a2 + v7)).bind fun x4 => (if ¬ x3 = x4 then some (0 : Int32) else some (1 : Int32))) : Option (Int32)).bind fun x2 => l_X11_standings_24 fu σ a1 a2 a3 a4 a5 n x2 (v7 + 1))
set_option maxHeartbeats 4000000 in
set_option maxRecDepth 100000 in
theorem k_X11_standings_24 {l : Launch} {g : zgeo} {fu : Nat} {p : Program} {e : Env} {s : State} {m : MethodId} {args : Array Value} {below : List Frame} {meth : Method} {c : Code} (M : zMC RX11 cX11_standings 8 (some .int) g p m c s args meth) {σ : zmem} {a1 : Int32} {a2 : Int32} {a3 : Int32} {a4 : Int32} {a5 : Int32} {Q : State → Prop} : ∀ (n : Nat) (v6 : Int32) (v7 : Int32) (o : Int32), l_X11_standings_24 fu σ a1 a2 a3 a4 a5 n v6 v7 = some o → ∀ (ls : Array Slot) (H : Heap) (locs : List Loc), lv_has ls 8 [(0, .ref (zA g 103)), (1, .int a1), (2, .int a2), (3, .int a3), (4, .int a4), (5, .int a5), (6, .int v6), (7, .int v7)] → zIV g σ (zAA g) s.heap H locs → (∀ (ls : Array Slot) (H : Heap) (locs : List Loc), lv_has ls 8 [(0, .ref (zA g 103)), (1, .int a1), (2, .int a2), (3, .int a3), (4, .int a4), (5, .int a5), (6, .int o)] → zIV g σ (zAA g) s.heap H locs → W p l e (zrm 1 22) s m args below meth c H locs 0 0 Q (F0 m 70 ls [])) → W p l e (zrm 1 22) s m args below meth c H locs 0 0 Q (F0 m 24 ls []) := by
  have hx := M.1.1
  have hb := M.1.2.1
  intro n
  induction n with
  | zero =>
    intro v6 v7 o hr ls H locs hl I KF
    have hr : (none : Option (Int32)) = some o := hr
    cases hr
  | succ n ih =>
    intro v6 v7 o hr ls H locs hl I KF
    rw [l_X11_standings_24] at hr
    refine lv_iload hx hb dX11_standings_24 (lv_at hl 7 rfl) ?_
    refine lv_iload_n hx hb dX11_standings_26 rfl (lv_at hl 3 rfl) ?_
    refine lv_icmp_ge (tgt := 70) hx hb dX11_standings_27 (by decide) (fun c7 => ?_) (fun c7 => ?_)
    · replace hr := zif_t hr c7
      obtain rfl := Option.some.inj hr
      exact KF ls _ _ (lv_sub hl [0, 1, 2, 3, 4, 5, 6] rfl) I
    · replace hr := zif_f hr c7
      refine lv_iload hx hb dX11_standings_30 (lv_at hl 6 rfl) ?_
      obtain ⟨x2, e_x2, hr⟩ := zb_some hr
      have K_x2 : ∀ (ls : Array Slot) (H : Heap) (locs : List Loc), lv_has ls 8 [(0, .ref (zA g 103)), (1, .int a1), (2, .int a2), (3, .int a3), (4, .int a4), (5, .int a5), (7, .int v7)] → zIV g σ (zAA g) s.heap H locs → W p l e (zrm 1 22) s m args below meth c H locs 0 0 Q (F0 m 62 ls [.int x2]) := by
        intro ls H locs hl I
        refine lv_istore (lv' := [(6, .int x2), (0, .ref (zA g 103)), (1, .int a1), (2, .int a2), (3, .int a3), (4, .int a4), (5, .int a5), (7, .int v7)]) hx hb dX11_standings_62 hl (by decide) rfl (fun ls hl => ?_)
        refine lv_iinc (lv' := [(7, .int (v7 + 1)), (6, .int x2), (0, .ref (zA g 103)), (1, .int a1), (2, .int a2), (3, .int a3), (4, .int a4), (5, .int a5)]) (k := 7) (v := (v7 + 1)) hx hb dX11_standings_64 hl rfl (zi_1 _) (by decide) rfl (fun ls hl => ?_)
        refine lv_goto (tgt := 24) hx hb dX11_standings_67 (by decide) ?_
        exact ih _ _  _ hr ls _ _ (lv_sub hl [2, 3, 4, 5, 6, 7, 1, 0] rfl) I KF
      refine lv_if_eq (tgt := 61) hx hb dX11_standings_32 (by decide) (fun c6 => ?_) (fun c6 => ?_)
      · replace e_x2 := zif_t e_x2 c6
        refine lv_iconst (v := (0 : Int32)) hx hb dX11_standings_61 (by decide) ?_
        obtain rfl := Option.some.inj e_x2
        exact K_x2 ls _ _ (lv_sub hl [0, 1, 2, 3, 4, 5, 7] rfl) I
      · replace e_x2 := zif_f e_x2 c6
        refine lv_aload_n hx hb dX11_standings_35 rfl (lv_at hl 0 rfl) ?_
        refine lv_iload_n hx hb dX11_standings_36 rfl (lv_at hl 1 rfl) ?_
        refine lv_iload hx hb dX11_standings_37 (lv_at hl 5 rfl) ?_
        refine lv_iload hx hb dX11_standings_39 (lv_at hl 7 rfl) ?_
        refine lv_iadd hx hb dX11_standings_41 ?_
        obtain ⟨x3, e_x3, e_x2⟩ := zb_some e_x2
        refine zcallI M I (zrunV (as := [.int a1, .int (a5 + v7)]) M I (c_X11_at l g fu e_x3) zc_103 zK11.1 (by decide) zlv_X11_89 ⟨Nat.le_of_ble_eq_true rfl, Nat.le_of_ble_eq_true rfl⟩ ⟨Nat.zero_le _, Nat.zero_le _⟩ rfl rfl (Nat.le_of_ble_eq_true rfl) hl.1 dX11_standings_42) (fun H locs I => ?_)
        refine lv_aload_n hx hb dX11_standings_45 rfl (lv_at hl 0 rfl) ?_
        refine lv_iload_n hx hb dX11_standings_46 rfl (lv_at hl 1 rfl) ?_
        refine lv_iload_n hx hb dX11_standings_47 rfl (lv_at hl 2 rfl) ?_
        refine lv_iload hx hb dX11_standings_48 (lv_at hl 7 rfl) ?_
        refine lv_iadd hx hb dX11_standings_50 ?_
        obtain ⟨x4, e_x4, e_x2⟩ := zb_some e_x2
        refine zcallI M I (zrunV (as := [.int a1, .int (a2 + v7)]) M I (c_X11_at l g fu e_x4) zc_103 zK11.1 (by decide) zlv_X11_89 ⟨Nat.le_of_ble_eq_true rfl, Nat.le_of_ble_eq_true rfl⟩ ⟨Nat.zero_le _, Nat.zero_le _⟩ rfl rfl (Nat.le_of_ble_eq_true rfl) hl.1 dX11_standings_51) (fun H locs I => ?_)
        refine lv_icmp_ne (tgt := 61) hx hb dX11_standings_54 (by decide) (fun c5 => ?_) (fun c5 => ?_)
        · replace e_x2 := zif_t e_x2 c5
          refine lv_iconst (v := (0 : Int32)) hx hb dX11_standings_61 (by decide) ?_
          obtain rfl := Option.some.inj e_x2
          exact K_x2 ls _ _ (lv_sub hl [0, 1, 2, 3, 4, 5, 7] rfl) I
        · replace e_x2 := zif_f e_x2 (fun hq => hq c5)
          refine lv_iconst (v := (1 : Int32)) hx hb dX11_standings_57 (by decide) ?_
          refine lv_goto (tgt := 62) hx hb dX11_standings_58 (by decide) ?_
          obtain rfl := Option.some.inj e_x2
          exact K_x2 ls _ _ (lv_sub hl [0, 1, 2, 3, 4, 5, 7] rfl) I
def l_X11_standings_6 (fu : Nat) (σ : zmem) (a1 : Int32) (a2 : Int32) (a3 : Int32) : Nat → Int32 → Int32 → Option (Int32)
  | 0, _, _ => none
  | n + 1, v4, v5 => (m_X11_signs fu σ a1).bind fun x1 => (if x1 < (v5 + a3) then some v4 else (l_X11_standings_24 fu σ a1 a2 a3 v4 v5 fu (1 : Int32) (0 : Int32)).bind fun x8 => ((if x8 = 0 then some (0 : Int32) else some (1 : Int32)) : Option (Int32)).bind fun x9 => l_X11_standings_6 fu σ a1 a2 a3 n (v4 + x9) (v5 + 1))
set_option maxHeartbeats 4000000 in
set_option maxRecDepth 100000 in
theorem k_X11_standings_6 {l : Launch} {g : zgeo} {fu : Nat} {p : Program} {e : Env} {s : State} {m : MethodId} {args : Array Value} {below : List Frame} {meth : Method} {c : Code} (M : zMC RX11 cX11_standings 8 (some .int) g p m c s args meth) {σ : zmem} {a1 : Int32} {a2 : Int32} {a3 : Int32} {Q : State → Prop} : ∀ (n : Nat) (v4 : Int32) (v5 : Int32) (o : Int32), l_X11_standings_6 fu σ a1 a2 a3 n v4 v5 = some o → ∀ (ls : Array Slot) (H : Heap) (locs : List Loc), lv_has ls 8 [(0, .ref (zA g 103)), (1, .int a1), (2, .int a2), (3, .int a3), (4, .int v4), (5, .int v5)] → zIV g σ (zAA g) s.heap H locs → (∀ (ls : Array Slot) (H : Heap) (locs : List Loc), lv_has ls 8 [(4, .int o)] → zIV g σ (zAA g) s.heap H locs → W p l e (zrm 1 22) s m args below meth c H locs 0 0 Q (F0 m 91 ls [])) → W p l e (zrm 1 22) s m args below meth c H locs 0 0 Q (F0 m 6 ls []) := by
  have hx := M.1.1
  have hb := M.1.2.1
  intro n
  induction n with
  | zero =>
    intro v4 v5 o hr ls H locs hl I KF
    have hr : (none : Option (Int32)) = some o := hr
    cases hr
  | succ n ih =>
    intro v4 v5 o hr ls H locs hl I KF
    rw [l_X11_standings_6] at hr
    refine lv_iload hx hb dX11_standings_6 (lv_at hl 5 rfl) ?_
    refine lv_iload_n hx hb dX11_standings_8 rfl (lv_at hl 3 rfl) ?_
    refine lv_iadd hx hb dX11_standings_9 ?_
    refine lv_aload_n hx hb dX11_standings_10 rfl (lv_at hl 0 rfl) ?_
    refine lv_iload_n hx hb dX11_standings_11 rfl (lv_at hl 1 rfl) ?_
    obtain ⟨x1, e_x1, hr⟩ := zb_some hr
    refine zcallI M I (zrunV (as := [.int a1]) M I (c_X11_signs l g fu e_x1) zc_103 zK11.1 (by decide) zlv_X11_85 ⟨Nat.le_of_ble_eq_true rfl, Nat.le_of_ble_eq_true rfl⟩ ⟨Nat.zero_le _, Nat.zero_le _⟩ rfl rfl (Nat.le_of_ble_eq_true rfl) hl.1 dX11_standings_12) (fun H locs I => ?_)
    refine lv_icmp_gt (tgt := 91) hx hb dX11_standings_15 (by decide) (fun c11 => ?_) (fun c11 => ?_)
    · replace hr := zif_t hr c11
      obtain rfl := Option.some.inj hr
      exact KF ls _ _ (lv_sub hl [4] rfl) I
    · replace hr := zif_f hr c11
      refine lv_iconst (v := (1 : Int32)) hx hb dX11_standings_18 (by decide) ?_
      refine lv_istore (lv' := [(6, .int (1 : Int32)), (0, .ref (zA g 103)), (1, .int a1), (2, .int a2), (3, .int a3), (4, .int v4), (5, .int v5)]) hx hb dX11_standings_19 hl (by decide) rfl (fun ls hl => ?_)
      refine lv_iconst (v := (0 : Int32)) hx hb dX11_standings_21 (by decide) ?_
      refine lv_istore (lv' := [(7, .int (0 : Int32)), (6, .int (1 : Int32)), (0, .ref (zA g 103)), (1, .int a1), (2, .int a2), (3, .int a3), (4, .int v4), (5, .int v5)]) hx hb dX11_standings_22 hl (by decide) rfl (fun ls hl => ?_)
      obtain ⟨x8, e_x8, hr⟩ := zb_some hr
      refine k_X11_standings_24 M  fu _ _  _ e_x8 ls _ _ (lv_sub hl [2, 3, 4, 5, 6, 7, 1, 0] rfl) I (fun ls H locs hl I => ?_)
      refine lv_iload hx hb dX11_standings_70 (lv_at hl 4 rfl) ?_
      refine lv_iload hx hb dX11_standings_72 (lv_at hl 6 rfl) ?_
      obtain ⟨x9, e_x9, hr⟩ := zb_some hr
      have K_x9 : ∀ (ls : Array Slot) (H : Heap) (locs : List Loc), lv_has ls 8 [(0, .ref (zA g 103)), (1, .int a1), (2, .int a2), (3, .int a3), (5, .int v5)] → zIV g σ (zAA g) s.heap H locs → W p l e (zrm 1 22) s m args below meth c H locs 0 0 Q (F0 m 82 ls [.int x9, .int v4]) := by
        intro ls H locs hl I
        refine lv_iadd hx hb dX11_standings_82 ?_
        refine lv_istore (lv' := [(4, .int (v4 + x9)), (0, .ref (zA g 103)), (1, .int a1), (2, .int a2), (3, .int a3), (5, .int v5)]) hx hb dX11_standings_83 hl (by decide) rfl (fun ls hl => ?_)
        refine lv_iinc (lv' := [(5, .int (v5 + 1)), (4, .int (v4 + x9)), (0, .ref (zA g 103)), (1, .int a1), (2, .int a2), (3, .int a3)]) (k := 5) (v := (v5 + 1)) hx hb dX11_standings_85 hl rfl (zi_1 _) (by decide) rfl (fun ls hl => ?_)
        refine lv_goto (tgt := 6) hx hb dX11_standings_88 (by decide) ?_
        exact ih _ _  _ hr ls _ _ (lv_sub hl [2, 3, 4, 5, 1, 0] rfl) I KF
      refine lv_if_eq (tgt := 81) hx hb dX11_standings_74 (by decide) (fun c10 => ?_) (fun c10 => ?_)
      · replace e_x9 := zif_t e_x9 c10
        refine lv_iconst (v := (0 : Int32)) hx hb dX11_standings_81 (by decide) ?_
        obtain rfl := Option.some.inj e_x9
        exact K_x9 ls _ _ (lv_sub hl [0, 1, 2, 3, 5] rfl) I
      · replace e_x9 := zif_f e_x9 c10
        refine lv_iconst (v := (1 : Int32)) hx hb dX11_standings_77 (by decide) ?_
        refine lv_goto (tgt := 82) hx hb dX11_standings_78 (by decide) ?_
        obtain rfl := Option.some.inj e_x9
        exact K_x9 ls _ _ (lv_sub hl [0, 1, 2, 3, 5] rfl) I
def m_X11_standings (fu : Nat) (σ : zmem) (a1 : Int32) (a2 : Int32) (a3 : Int32) : Option (Int32) := (l_X11_standings_6 fu σ a1 a2 a3 fu (0 : Int32) (0 : Int32)).bind fun x12 => some x12
set_option maxHeartbeats 4000000 in
set_option maxRecDepth 100000 in
theorem c_X11_standings (l : Launch) (g : zgeo) (fu : Nat) {σ : zmem} {a1 : Int32} {a2 : Int32} {a3 : Int32} {r : Int32} (hr : m_X11_standings fu σ a1 a2 a3 = some r) : zCt (zQI g r σ) l g yX11_standings cX11_standings 8 (some .int) 1 22 [.ref (zA g 103), .int a1, .int a2, .int a3] σ := by
  refine zopen (by decide) (Nat.le_of_ble_eq_true rfl) ?_
  intro p e s m below meth c M ls hl I
  have M : zMC RX11 cX11_standings 8 (some .int) g p m c s ([.ref (zA g 103), .int a1, .int a2, .int a3] : List Value).toArray meth := M
  have hl : lv_has ls 8 [(0, .ref (zA g 103)), (1, .int a1), (2, .int a2), (3, .int a3)] := hl
  generalize ([.ref (zA g 103), .int a1, .int a2, .int a3] : List Value).toArray = args at M ⊢
  have hx := M.1.1
  have hb := M.1.2.1
  unfold m_X11_standings at hr
  refine lv_iconst (v := (0 : Int32)) hx hb dX11_standings_0 (by decide) ?_
  refine lv_istore (lv' := [(4, .int (0 : Int32)), (0, .ref (zA g 103)), (1, .int a1), (2, .int a2), (3, .int a3)]) hx hb dX11_standings_1 hl (by decide) rfl (fun ls hl => ?_)
  refine lv_iconst (v := (0 : Int32)) hx hb dX11_standings_3 (by decide) ?_
  refine lv_istore (lv' := [(5, .int (0 : Int32)), (4, .int (0 : Int32)), (0, .ref (zA g 103)), (1, .int a1), (2, .int a2), (3, .int a3)]) hx hb dX11_standings_4 hl (by decide) rfl (fun ls hl => ?_)
  obtain ⟨x12, e_x12, hr⟩ := zb_some hr
  refine k_X11_standings_6 M  fu _ _  _ e_x12 ls _ _ (lv_sub hl [2, 3, 4, 5, 1, 0] rfl) I (fun ls H locs hl I => ?_)
  refine lv_iload hx hb dX11_standings_91 (lv_at hl 0 rfl) ?_
  obtain rfl := Option.some.inj hr
  exact zretI M I dX11_standings_93
def l_X11_doubledNow_15 (fu : Nat) (σ : zmem) (a1 : Int32) (a2 : Int32) (a3 : Int32) : Nat → Int32 → Option ((Int32) ⊕ (Unit))
  | 0, _ => none
  | n + 1, v4 => (m_X11_signs fu σ a1).bind fun x2 => (if x2 ≤ (v4 + a3) then some (.inr ()) else (m_X11_standings fu σ a1 v4 a3).bind fun x3 => (if x3 ≤ (1 : Int32) then l_X11_doubledNow_15 fu σ a1 a2 a3 n (v4 + 1) else (if ¬ a2 = 0 then (if ¬ a2 = (1 : Int32) then some (.inl x3) else some (.inl v4)) else some (.inl a3))))
set_option maxHeartbeats 4000000 in
set_option maxRecDepth 100000 in
theorem k_X11_doubledNow_15 {l : Launch} {g : zgeo} {fu : Nat} {p : Program} {e : Env} {s : State} {m : MethodId} {args : Array Value} {below : List Frame} {meth : Method} {c : Code} (M : zMC RX11 cX11_doubledNow 6 (some .int) g p m c s args meth) {σ : zmem} {a1 : Int32} {a2 : Int32} {a3 : Int32} {r : Int32} : ∀ (n : Nat) (v4 : Int32) (o : (Int32) ⊕ (Unit)), l_X11_doubledNow_15 fu σ a1 a2 a3 n v4 = some o → ∀ (ls : Array Slot) (H : Heap) (locs : List Loc), lv_has ls 6 [(0, .ref (zA g 103)), (1, .int a1), (2, .int a2), (3, .int a3), (4, .int v4)] → zIV g σ (zAA g) s.heap H locs → (∀ q, o = .inl q → q = r) → (∀ w, o = .inr w → (∀ (ls : Array Slot) (H : Heap) (locs : List Loc), lv_has ls 6 [(0, .ref (zA g 103)), (1, .int a1), (2, .int a2), (3, .int a3)] → zIV g σ (zAA g) s.heap H locs → W p l e (zrm 2 49) s m args below meth c H locs 0 0 (MQ below (zQI g r σ) args s 0 0 (zAA g)) (F0 m 70 ls []))) → W p l e (zrm 2 49) s m args below meth c H locs 0 0 (MQ below (zQI g r σ) args s 0 0 (zAA g)) (F0 m 15 ls []) := by
  have hx := M.1.1
  have hb := M.1.2.1
  intro n
  induction n with
  | zero =>
    intro v4 o hr ls H locs hl I KR KF
    have hr : (none : Option ((Int32) ⊕ (Unit))) = some o := hr
    cases hr
  | succ n ih =>
    intro v4 o hr ls H locs hl I KR KF
    rw [l_X11_doubledNow_15] at hr
    refine lv_iload hx hb dX11_doubledNow_15 (lv_at hl 4 rfl) ?_
    refine lv_iload_n hx hb dX11_doubledNow_17 rfl (lv_at hl 3 rfl) ?_
    refine lv_iadd hx hb dX11_doubledNow_18 ?_
    refine lv_aload_n hx hb dX11_doubledNow_19 rfl (lv_at hl 0 rfl) ?_
    refine lv_iload_n hx hb dX11_doubledNow_20 rfl (lv_at hl 1 rfl) ?_
    obtain ⟨x2, e_x2, hr⟩ := zb_some hr
    refine zcallI M I (zrunV (as := [.int a1]) M I (c_X11_signs l g fu e_x2) zc_103 zK11.1 (by decide) zlv_X11_85 ⟨Nat.le_of_ble_eq_true rfl, Nat.le_of_ble_eq_true rfl⟩ ⟨Nat.zero_le _, Nat.zero_le _⟩ rfl rfl (Nat.le_of_ble_eq_true rfl) hl.1 dX11_doubledNow_21) (fun H locs I => ?_)
    refine lv_icmp_ge (tgt := 70) hx hb dX11_doubledNow_24 (by decide) (fun c7 => ?_) (fun c7 => ?_)
    · replace hr := zif_t hr c7
      exact KF _ (Option.some.inj hr).symm ls _ _ (lv_sub hl [0, 1, 2, 3] rfl) I
    · replace hr := zif_f hr c7
      refine lv_aload_n hx hb dX11_doubledNow_27 rfl (lv_at hl 0 rfl) ?_
      refine lv_iload_n hx hb dX11_doubledNow_28 rfl (lv_at hl 1 rfl) ?_
      refine lv_iload hx hb dX11_doubledNow_29 (lv_at hl 4 rfl) ?_
      refine lv_iload_n hx hb dX11_doubledNow_31 rfl (lv_at hl 3 rfl) ?_
      obtain ⟨x3, e_x3, hr⟩ := zb_some hr
      refine zcallI M I (zrunV (as := [.int a1, .int v4, .int a3]) M I (c_X11_standings l g fu e_x3) zc_103 zK11.1 (by decide) zlv_X11_200 ⟨Nat.le_of_ble_eq_true rfl, Nat.le_of_ble_eq_true rfl⟩ ⟨Nat.zero_le _, Nat.zero_le _⟩ rfl rfl (Nat.le_of_ble_eq_true rfl) hl.1 dX11_doubledNow_32) (fun H locs I => ?_)
      refine lv_istore (lv' := [(5, .int x3), (0, .ref (zA g 103)), (1, .int a1), (2, .int a2), (3, .int a3), (4, .int v4)]) hx hb dX11_doubledNow_35 hl (by decide) rfl (fun ls hl => ?_)
      refine lv_iload hx hb dX11_doubledNow_37 (lv_at hl 0 rfl) ?_
      refine lv_iconst (v := (1 : Int32)) hx hb dX11_doubledNow_39 (by decide) ?_
      refine lv_icmp_le (tgt := 64) hx hb dX11_doubledNow_40 (by decide) (fun c6 => ?_) (fun c6 => ?_)
      · replace hr := zif_t hr c6
        refine lv_iinc (lv' := [(4, .int (v4 + 1)), (5, .int x3), (0, .ref (zA g 103)), (1, .int a1), (2, .int a2), (3, .int a3)]) (k := 5) (v := (v4 + 1)) hx hb dX11_doubledNow_64 hl rfl (zi_1 _) (by decide) rfl (fun ls hl => ?_)
        refine lv_goto (tgt := 15) hx hb dX11_doubledNow_67 (by decide) ?_
        exact ih _  _ hr ls _ _ (lv_sub hl [2, 3, 4, 5, 0] rfl) I KR KF
      · replace hr := zif_f hr c6
        refine lv_iload_n hx hb dX11_doubledNow_43 rfl (lv_at hl 3 rfl) ?_
        refine lv_if_ne (tgt := 51) hx hb dX11_doubledNow_44 (by decide) (fun c5 => ?_) (fun c5 => ?_)
        · replace hr := zif_t hr c5
          refine lv_iload_n hx hb dX11_doubledNow_51 rfl (lv_at hl 3 rfl) ?_
          refine lv_iconst (v := (1 : Int32)) hx hb dX11_doubledNow_52 (by decide) ?_
          refine lv_icmp_ne (tgt := 61) hx hb dX11_doubledNow_53 (by decide) (fun c4 => ?_) (fun c4 => ?_)
          · replace hr := zif_t hr c4
            refine lv_iload hx hb dX11_doubledNow_61 (lv_at hl 0 rfl) ?_
            obtain rfl := KR _ (Option.some.inj hr).symm
            exact zretI M I dX11_doubledNow_63
          · replace hr := zif_f hr (fun hq => hq c4)
            refine lv_iload hx hb dX11_doubledNow_56 (lv_at hl 5 rfl) ?_
            refine lv_goto (tgt := 63) hx hb dX11_doubledNow_58 (by decide) ?_
            obtain rfl := KR _ (Option.some.inj hr).symm
            exact zretI M I dX11_doubledNow_63
        · replace hr := zif_f hr (fun hq => hq c5)
          refine lv_iload_n hx hb dX11_doubledNow_47 rfl (lv_at hl 4 rfl) ?_
          refine lv_goto (tgt := 63) hx hb dX11_doubledNow_48 (by decide) ?_
          obtain rfl := KR _ (Option.some.inj hr).symm
          exact zretI M I dX11_doubledNow_63
def l_X11_doubledNow_8 (fu : Nat) (σ : zmem) (a1 : Int32) (a2 : Int32) : Nat → Int32 → Option ((Int32) ⊕ (Unit))
  | 0, _ => none
  | n + 1, v3 => (if v3 ≤ 0 then some (.inr ()) else (l_X11_doubledNow_15 fu σ a1 a2 v3 fu (0 : Int32)).bind fun x8 => (match x8 with | .inl q => some (.inl q) | .inr w9 => l_X11_doubledNow_8 fu σ a1 a2 n (v3 - 1)))
set_option maxHeartbeats 4000000 in
set_option maxRecDepth 100000 in
theorem k_X11_doubledNow_8 {l : Launch} {g : zgeo} {fu : Nat} {p : Program} {e : Env} {s : State} {m : MethodId} {args : Array Value} {below : List Frame} {meth : Method} {c : Code} (M : zMC RX11 cX11_doubledNow 6 (some .int) g p m c s args meth) {σ : zmem} {a1 : Int32} {a2 : Int32} {r : Int32} : ∀ (n : Nat) (v3 : Int32) (o : (Int32) ⊕ (Unit)), l_X11_doubledNow_8 fu σ a1 a2 n v3 = some o → ∀ (ls : Array Slot) (H : Heap) (locs : List Loc), lv_has ls 6 [(0, .ref (zA g 103)), (1, .int a1), (2, .int a2), (3, .int v3)] → zIV g σ (zAA g) s.heap H locs → (∀ q, o = .inl q → q = r) → (∀ w, o = .inr w → (∀ (ls : Array Slot) (H : Heap) (locs : List Loc), lv_has ls 6 [(2, .int a2)] → zIV g σ (zAA g) s.heap H locs → W p l e (zrm 2 49) s m args below meth c H locs 0 0 (MQ below (zQI g r σ) args s 0 0 (zAA g)) (F0 m 76 ls []))) → W p l e (zrm 2 49) s m args below meth c H locs 0 0 (MQ below (zQI g r σ) args s 0 0 (zAA g)) (F0 m 8 ls []) := by
  have hx := M.1.1
  have hb := M.1.2.1
  intro n
  induction n with
  | zero =>
    intro v3 o hr ls H locs hl I KR KF
    have hr : (none : Option ((Int32) ⊕ (Unit))) = some o := hr
    cases hr
  | succ n ih =>
    intro v3 o hr ls H locs hl I KR KF
    rw [l_X11_doubledNow_8] at hr
    refine lv_iload_n hx hb dX11_doubledNow_8 rfl (lv_at hl 3 rfl) ?_
    refine lv_if_le (tgt := 76) hx hb dX11_doubledNow_9 (by decide) (fun c10 => ?_) (fun c10 => ?_)
    · replace hr := zif_t hr c10
      exact KF _ (Option.some.inj hr).symm ls _ _ (lv_sub hl [2] rfl) I
    · replace hr := zif_f hr c10
      refine lv_iconst (v := (0 : Int32)) hx hb dX11_doubledNow_12 (by decide) ?_
      refine lv_istore (lv' := [(4, .int (0 : Int32)), (0, .ref (zA g 103)), (1, .int a1), (2, .int a2), (3, .int v3)]) hx hb dX11_doubledNow_13 hl (by decide) rfl (fun ls hl => ?_)
      obtain ⟨x8, e_x8, hr⟩ := zb_some hr
      refine k_X11_doubledNow_15 M  fu _  _ e_x8 ls _ _ (lv_sub hl [1, 2, 3, 4, 0] rfl) I (fun q hq => ?_) (fun w9 hq ls H locs hl I => ?_)
      · subst hq
        exact KR _ (Option.some.inj hr).symm
      · subst hq
        dsimp only at hr
        refine lv_iinc (lv' := [(3, .int (v3 - 1)), (0, .ref (zA g 103)), (1, .int a1), (2, .int a2)]) (k := 3) (v := (v3 - 1)) hx hb dX11_doubledNow_70 hl rfl (zi_m1 _) (by decide) rfl (fun ls hl => ?_)
        refine lv_goto (tgt := 8) hx hb dX11_doubledNow_73 (by decide) ?_
        exact ih _  _ hr ls _ _ (lv_sub hl [1, 2, 3, 0] rfl) I KR KF
def m_X11_doubledNow (fu : Nat) (σ : zmem) (a1 : Int32) (a2 : Int32) : Option (Int32) := (m_X11_signs fu σ a1).bind fun x1 => (l_X11_doubledNow_8 fu σ a1 a2 fu (x1 - (1 : Int32))).bind fun x11 => (match x11 with | .inl q => some q | .inr w12 => (if ¬ a2 = 0 then some (-1 : Int32) else some (0 : Int32)))
set_option maxHeartbeats 4000000 in
set_option maxRecDepth 100000 in
theorem c_X11_doubledNow (l : Launch) (g : zgeo) (fu : Nat) {σ : zmem} {a1 : Int32} {a2 : Int32} {r : Int32} (hr : m_X11_doubledNow fu σ a1 a2 = some r) : zCt (zQI g r σ) l g yX11_doubledNow cX11_doubledNow 6 (some .int) 2 49 [.ref (zA g 103), .int a1, .int a2] σ := by
  refine zopen (by decide) (Nat.le_of_ble_eq_true rfl) ?_
  intro p e s m below meth c M ls hl I
  have M : zMC RX11 cX11_doubledNow 6 (some .int) g p m c s ([.ref (zA g 103), .int a1, .int a2] : List Value).toArray meth := M
  have hl : lv_has ls 6 [(0, .ref (zA g 103)), (1, .int a1), (2, .int a2)] := hl
  generalize ([.ref (zA g 103), .int a1, .int a2] : List Value).toArray = args at M ⊢
  have hx := M.1.1
  have hb := M.1.2.1
  unfold m_X11_doubledNow at hr
  refine lv_aload_n hx hb dX11_doubledNow_0 rfl (lv_at hl 0 rfl) ?_
  refine lv_iload_n hx hb dX11_doubledNow_1 rfl (lv_at hl 1 rfl) ?_
  obtain ⟨x1, e_x1, hr⟩ := zb_some hr
  refine zcallI M I (zrunV (as := [.int a1]) M I (c_X11_signs l g fu e_x1) zc_103 zK11.1 (by decide) zlv_X11_85 ⟨Nat.le_of_ble_eq_true rfl, Nat.le_of_ble_eq_true rfl⟩ ⟨Nat.zero_le _, Nat.zero_le _⟩ rfl rfl (Nat.le_of_ble_eq_true rfl) hl.1 dX11_doubledNow_2) (fun H locs I => ?_)
  refine lv_iconst (v := (1 : Int32)) hx hb dX11_doubledNow_5 (by decide) ?_
  refine lv_isub hx hb dX11_doubledNow_6 ?_
  refine lv_istore_n (lv' := [(3, .int (x1 - (1 : Int32))), (0, .ref (zA g 103)), (1, .int a1), (2, .int a2)]) hx hb dX11_doubledNow_7 rfl hl (by decide) rfl (fun ls hl => ?_)
  obtain ⟨x11, e_x11, hr⟩ := zb_some hr
  refine k_X11_doubledNow_8 M  fu _  _ e_x11 ls _ _ (lv_sub hl [1, 2, 3, 0] rfl) I (fun q hq => ?_) (fun w12 hq ls H locs hl I => ?_)
  · subst hq
    exact Option.some.inj hr
  · subst hq
    dsimp only at hr
    refine lv_iload_n hx hb dX11_doubledNow_76 rfl (lv_at hl 0 rfl) ?_
    refine lv_if_ne (tgt := 84) hx hb dX11_doubledNow_77 (by decide) (fun c13 => ?_) (fun c13 => ?_)
    · replace hr := zif_t hr c13
      refine lv_iconst (v := (-1 : Int32)) hx hb dX11_doubledNow_84 (by decide) ?_
      obtain rfl := Option.some.inj hr
      exact zretI M I dX11_doubledNow_85
    · replace hr := zif_f hr (fun hq => hq c13)
      refine lv_iconst (v := (0 : Int32)) hx hb dX11_doubledNow_80 (by decide) ?_
      refine lv_goto (tgt := 85) hx hb dX11_doubledNow_81 (by decide) ?_
      obtain rfl := Option.some.inj hr
      exact zretI M I dX11_doubledNow_85
def m_X11_doubled (fu : Nat) (σ : zmem) (a1 : Int32) (a2 : Int32) : Option (Int32 × zmem) := (m_X11_isRow fu σ a1).bind fun x1 => ((if ¬ x1 = 0 then (m_X11_within fu σ a2 (0 : Int32) (2 : Int32)).bind fun x5 => (if x5 = 0 then some (2 : Int32) else some (0 : Int32)) else some (1 : Int32)) : Option (Int32)).bind fun x2 => (if ((zst σ 103 7 x2).1 103 7) ≤ 0 then (m_X11_doubledNow fu (zst σ 103 7 x2) a1 a2).bind fun x3 => some (x3, (zst σ 103 7 x2)) else some ((0 : Int32), (zst σ 103 7 x2)))
set_option maxHeartbeats 4000000 in
set_option maxRecDepth 100000 in
theorem c_X11_doubled (l : Launch) (g : zgeo) (fu : Nat) {σ : zmem} {a1 : Int32} {a2 : Int32} {r : Int32 × zmem} (hr : m_X11_doubled fu σ a1 a2 = some r) : zCt (zQI g r.1 r.2) l g yX11_doubled cX11_doubled 3 (some .int) 3 74 [.ref (zA g 103), .int a1, .int a2] σ := by
  refine zopen (by decide) (Nat.le_of_ble_eq_true rfl) ?_
  intro p e s m below meth c M ls hl I
  have M : zMC RX11 cX11_doubled 3 (some .int) g p m c s ([.ref (zA g 103), .int a1, .int a2] : List Value).toArray meth := M
  have hl : lv_has ls 3 [(0, .ref (zA g 103)), (1, .int a1), (2, .int a2)] := hl
  generalize ([.ref (zA g 103), .int a1, .int a2] : List Value).toArray = args at M ⊢
  have hx := M.1.1
  have hb := M.1.2.1
  unfold m_X11_doubled at hr
  refine lv_aload_n hx hb dX11_doubled_0 rfl (lv_at hl 0 rfl) ?_
  refine lv_iload_n hx hb dX11_doubled_1 rfl (lv_at hl 1 rfl) ?_
  obtain ⟨x1, e_x1, hr⟩ := zb_some hr
  refine zcallI M I (zrunS (as := [.int a1]) M I (c_X11_isRow l g fu e_x1) zls_X11_81 ⟨Nat.le_of_ble_eq_true rfl, Nat.le_of_ble_eq_true rfl⟩ ⟨Nat.zero_le _, Nat.zero_le _⟩ rfl rfl (Nat.le_of_ble_eq_true rfl) hl.1 dX11_doubled_2) (fun H locs I => ?_)
  obtain ⟨x2, e_x2, hr⟩ := zb_some hr
  have K_x2 : ∀ (ls : Array Slot) (H : Heap) (locs : List Loc), lv_has ls 3 [(0, .ref (zA g 103)), (1, .int a1), (2, .int a2)] → zIV g σ (zAA g) s.heap H locs → W p l e (zrm 3 74) s m args below meth c H locs 0 0 (MQ below (zQI g r.1 r.2) args s 0 0 (zAA g)) (F0 m 26 ls [.int x2, .ref (zA g 103)]) := by
    intro ls H locs hl I
    refine zputI M I zc_103 zfw_X11_70 dX11_doubled_26 (fun H locs I => ?_)
    refine lv_aload_n hx hb dX11_doubled_29 rfl (lv_at hl 0 rfl) ?_
    refine zgetI M I zc_103 zfl_X11_70 dX11_doubled_30 ?_
    refine lv_if_le (tgt := 40) hx hb dX11_doubled_33 (by decide) (fun c4 => ?_) (fun c4 => ?_)
    · replace hr := zif_t hr c4
      refine lv_aload_n hx hb dX11_doubled_40 rfl (lv_at hl 0 rfl) ?_
      refine lv_iload_n hx hb dX11_doubled_41 rfl (lv_at hl 1 rfl) ?_
      refine lv_iload_n hx hb dX11_doubled_42 rfl (lv_at hl 2 rfl) ?_
      obtain ⟨x3, e_x3, hr⟩ := zb_some hr
      refine zcallI M I (zrunV (as := [.int a1, .int a2]) M I (c_X11_doubledNow l g fu e_x3) zc_103 zK11.1 (by decide) zlv_X11_203 ⟨Nat.le_of_ble_eq_true rfl, Nat.le_of_ble_eq_true rfl⟩ ⟨Nat.zero_le _, Nat.zero_le _⟩ rfl rfl (Nat.le_of_ble_eq_true rfl) hl.1 dX11_doubled_43) (fun H locs I => ?_)
      obtain rfl := Option.some.inj hr
      exact zretI M I dX11_doubled_46
    · replace hr := zif_f hr c4
      refine lv_iconst (v := (0 : Int32)) hx hb dX11_doubled_36 (by decide) ?_
      refine lv_goto (tgt := 46) hx hb dX11_doubled_37 (by decide) ?_
      obtain rfl := Option.some.inj hr
      exact zretI M I dX11_doubled_46
  refine lv_if_ne (tgt := 12) hx hb dX11_doubled_5 (by decide) (fun c7 => ?_) (fun c7 => ?_)
  · replace e_x2 := zif_t e_x2 c7
    refine lv_iload_n hx hb dX11_doubled_12 rfl (lv_at hl 2 rfl) ?_
    refine lv_iconst (v := (0 : Int32)) hx hb dX11_doubled_13 (by decide) ?_
    refine lv_iconst (v := (2 : Int32)) hx hb dX11_doubled_14 (by decide) ?_
    obtain ⟨x5, e_x5, e_x2⟩ := zb_some e_x2
    refine zcallI M I (zrunS (as := [.int a2, .int (0 : Int32), .int (2 : Int32)]) M I (c_X11_within l g fu e_x5) zls_X11_77 ⟨Nat.le_of_ble_eq_true rfl, Nat.le_of_ble_eq_true rfl⟩ ⟨Nat.zero_le _, Nat.zero_le _⟩ rfl rfl (Nat.le_of_ble_eq_true rfl) hl.1 dX11_doubled_15) (fun H locs I => ?_)
    refine lv_if_eq (tgt := 25) hx hb dX11_doubled_18 (by decide) (fun c6 => ?_) (fun c6 => ?_)
    · replace e_x2 := zif_t e_x2 c6
      refine lv_iconst (v := (2 : Int32)) hx hb dX11_doubled_25 (by decide) ?_
      obtain rfl := Option.some.inj e_x2
      exact K_x2 ls _ _ hl I
    · replace e_x2 := zif_f e_x2 c6
      refine lv_iconst (v := (0 : Int32)) hx hb dX11_doubled_21 (by decide) ?_
      refine lv_goto (tgt := 26) hx hb dX11_doubled_22 (by decide) ?_
      obtain rfl := Option.some.inj e_x2
      exact K_x2 ls _ _ hl I
  · replace e_x2 := zif_f e_x2 (fun hq => hq c7)
    refine lv_iconst (v := (1 : Int32)) hx hb dX11_doubled_8 (by decide) ?_
    refine lv_goto (tgt := 26) hx hb dX11_doubled_9 (by decide) ?_
    obtain rfl := Option.some.inj e_x2
    exact K_x2 ls _ _ hl I
def l_X11_turnedStretches_14 (fu : Nat) (σ : zmem) (a1 : Int32) : Nat → Int32 → Int32 → Int32 → Int32 → Option (Int32 × Int32)
  | 0, _, _, _, _ => none
  | n + 1, v2, v3, v4, v5 => (if (σ.1 103 13) ≤ v5 then some (v2, v3) else ((if v5 ≤ 0 then some (0 : Int32) else (zrd σ 112 v5).bind fun x9 => (zrd σ 112 (v5 - (1 : Int32))).bind fun x10 => (if x10 ≤ x9 then some (0 : Int32) else some (1 : Int32))) : Option (Int32)).bind fun x2 => ((if x2 = 0 then some (1 : Int32) else some (0 : Int32)) : Option (Int32)).bind fun x3 => ((if x2 = 0 then some (1 : Int32) else some (v4 + (1 : Int32))) : Option (Int32)).bind fun x4 => ((if x4 ≤ v3 then some v3 else some x4) : Option (Int32)).bind fun x5 => l_X11_turnedStretches_14 fu σ a1 n (v2 + x3) x5 x4 (v5 + 1))
set_option maxHeartbeats 4000000 in
set_option maxRecDepth 100000 in
theorem k_X11_turnedStretches_14 {l : Launch} {g : zgeo} {fu : Nat} {p : Program} {e : Env} {s : State} {m : MethodId} {args : Array Value} {below : List Frame} {meth : Method} {c : Code} (M : zMC RX11 cX11_turnedStretches 7 (some .int) g p m c s args meth) {σ : zmem} {a1 : Int32} {Q : State → Prop} : ∀ (n : Nat) (v2 : Int32) (v3 : Int32) (v4 : Int32) (v5 : Int32) (o : Int32 × Int32), l_X11_turnedStretches_14 fu σ a1 n v2 v3 v4 v5 = some o → ∀ (ls : Array Slot) (H : Heap) (locs : List Loc), lv_has ls 7 [(0, .ref (zA g 103)), (1, .int a1), (2, .int v2), (3, .int v3), (4, .int v4), (5, .int v5)] → zIV g σ (zAA g) s.heap H locs → (∀ (ls : Array Slot) (H : Heap) (locs : List Loc), lv_has ls 7 [(1, .int a1), (2, .int o.1), (3, .int o.2)] → zIV g σ (zAA g) s.heap H locs → W p l e (zrm 4 98) s m args below meth c H locs 0 0 Q (F0 m 101 ls [])) → W p l e (zrm 4 98) s m args below meth c H locs 0 0 Q (F0 m 14 ls []) := by
  have hx := M.1.1
  have hb := M.1.2.1
  intro n
  induction n with
  | zero =>
    intro v2 v3 v4 v5 o hr ls H locs hl I KF
    have hr : (none : Option (Int32 × Int32)) = some o := hr
    cases hr
  | succ n ih =>
    intro v2 v3 v4 v5 o hr ls H locs hl I KF
    rw [l_X11_turnedStretches_14] at hr
    refine lv_iload hx hb dX11_turnedStretches_14 (lv_at hl 5 rfl) ?_
    refine lv_aload_n hx hb dX11_turnedStretches_16 rfl (lv_at hl 0 rfl) ?_
    refine zgetI M I zc_103 zfl_X11_100 dX11_turnedStretches_17 ?_
    refine lv_icmp_ge (tgt := 101) hx hb dX11_turnedStretches_20 (by decide) (fun c13 => ?_) (fun c13 => ?_)
    · replace hr := zif_t hr c13
      obtain rfl := Option.some.inj hr
      exact KF ls _ _ (lv_sub hl [1, 2, 3] rfl) I
    · replace hr := zif_f hr c13
      refine lv_iload hx hb dX11_turnedStretches_23 (lv_at hl 5 rfl) ?_
      obtain ⟨x2, e_x2, hr⟩ := zb_some hr
      have K_x2 : ∀ (ls : Array Slot) (H : Heap) (locs : List Loc), lv_has ls 7 [(0, .ref (zA g 103)), (1, .int a1), (2, .int v2), (3, .int v3), (4, .int v4), (5, .int v5)] → zIV g σ (zAA g) s.heap H locs → W p l e (zrm 4 98) s m args below meth c H locs 0 0 Q (F0 m 52 ls [.int x2]) := by
        intro ls H locs hl I
        refine lv_istore (lv' := [(6, .int x2), (0, .ref (zA g 103)), (1, .int a1), (2, .int v2), (3, .int v3), (4, .int v4), (5, .int v5)]) hx hb dX11_turnedStretches_52 hl (by decide) rfl (fun ls hl => ?_)
        refine lv_iload_n hx hb dX11_turnedStretches_54 rfl (lv_at hl 3 rfl) ?_
        refine lv_iload hx hb dX11_turnedStretches_55 (lv_at hl 0 rfl) ?_
        obtain ⟨x3, e_x3, hr⟩ := zb_some hr
        have K_x3 : ∀ (ls : Array Slot) (H : Heap) (locs : List Loc), lv_has ls 7 [(0, .ref (zA g 103)), (1, .int a1), (3, .int v3), (4, .int v4), (5, .int v5), (6, .int x2)] → zIV g σ (zAA g) s.heap H locs → W p l e (zrm 4 98) s m args below meth c H locs 0 0 Q (F0 m 65 ls [.int x3, .int v2]) := by
          intro ls H locs hl I
          refine lv_iadd hx hb dX11_turnedStretches_65 ?_
          refine lv_istore_n (lv' := [(2, .int (v2 + x3)), (0, .ref (zA g 103)), (1, .int a1), (3, .int v3), (4, .int v4), (5, .int v5), (6, .int x2)]) hx hb dX11_turnedStretches_66 rfl hl (by decide) rfl (fun ls hl => ?_)
          refine lv_iload hx hb dX11_turnedStretches_67 (lv_at hl 6 rfl) ?_
          obtain ⟨x4, e_x4, hr⟩ := zb_some hr
          have K_x4 : ∀ (ls : Array Slot) (H : Heap) (locs : List Loc), lv_has ls 7 [(0, .ref (zA g 103)), (1, .int a1), (2, .int (v2 + x3)), (3, .int v3), (5, .int v5)] → zIV g σ (zAA g) s.heap H locs → W p l e (zrm 4 98) s m args below meth c H locs 0 0 Q (F0 m 80 ls [.int x4]) := by
            intro ls H locs hl I
            refine lv_istore (lv' := [(4, .int x4), (0, .ref (zA g 103)), (1, .int a1), (2, .int (v2 + x3)), (3, .int v3), (5, .int v5)]) hx hb dX11_turnedStretches_80 hl (by decide) rfl (fun ls hl => ?_)
            refine lv_iload hx hb dX11_turnedStretches_82 (lv_at hl 0 rfl) ?_
            refine lv_iload_n hx hb dX11_turnedStretches_84 rfl (lv_at hl 4 rfl) ?_
            obtain ⟨x5, e_x5, hr⟩ := zb_some hr
            have K_x5 : ∀ (ls : Array Slot) (H : Heap) (locs : List Loc), lv_has ls 7 [(0, .ref (zA g 103)), (1, .int a1), (2, .int (v2 + x3)), (4, .int x4), (5, .int v5)] → zIV g σ (zAA g) s.heap H locs → W p l e (zrm 4 98) s m args below meth c H locs 0 0 Q (F0 m 94 ls [.int x5]) := by
              intro ls H locs hl I
              refine lv_istore_n (lv' := [(3, .int x5), (0, .ref (zA g 103)), (1, .int a1), (2, .int (v2 + x3)), (4, .int x4), (5, .int v5)]) hx hb dX11_turnedStretches_94 rfl hl (by decide) rfl (fun ls hl => ?_)
              refine lv_iinc (lv' := [(5, .int (v5 + 1)), (3, .int x5), (0, .ref (zA g 103)), (1, .int a1), (2, .int (v2 + x3)), (4, .int x4)]) (k := 5) (v := (v5 + 1)) hx hb dX11_turnedStretches_95 hl rfl (zi_1 _) (by decide) rfl (fun ls hl => ?_)
              refine lv_goto (tgt := 14) hx hb dX11_turnedStretches_98 (by decide) ?_
              exact ih _ _ _ _  _ hr ls _ _ (lv_sub hl [2, 3, 4, 1, 5, 0] rfl) I KF
            refine lv_icmp_le (tgt := 93) hx hb dX11_turnedStretches_85 (by decide) (fun c6 => ?_) (fun c6 => ?_)
            · replace e_x5 := zif_t e_x5 c6
              refine lv_iload_n hx hb dX11_turnedStretches_93 rfl (lv_at hl 4 rfl) ?_
              obtain rfl := Option.some.inj e_x5
              exact K_x5 ls _ _ (lv_sub hl [1, 2, 3, 0, 5] rfl) I
            · replace e_x5 := zif_f e_x5 c6
              refine lv_iload hx hb dX11_turnedStretches_88 (lv_at hl 0 rfl) ?_
              refine lv_goto (tgt := 94) hx hb dX11_turnedStretches_90 (by decide) ?_
              obtain rfl := Option.some.inj e_x5
              exact K_x5 ls _ _ (lv_sub hl [1, 2, 3, 0, 5] rfl) I
          refine lv_if_eq (tgt := 79) hx hb dX11_turnedStretches_69 (by decide) (fun c7 => ?_) (fun c7 => ?_)
          · replace e_x4 := zif_t e_x4 c7
            refine lv_iconst (v := (1 : Int32)) hx hb dX11_turnedStretches_79 (by decide) ?_
            obtain rfl := Option.some.inj e_x4
            exact K_x4 ls _ _ (lv_sub hl [1, 2, 0, 3, 5] rfl) I
          · replace e_x4 := zif_f e_x4 c7
            refine lv_iload hx hb dX11_turnedStretches_72 (lv_at hl 4 rfl) ?_
            refine lv_iconst (v := (1 : Int32)) hx hb dX11_turnedStretches_74 (by decide) ?_
            refine lv_iadd hx hb dX11_turnedStretches_75 ?_
            refine lv_goto (tgt := 80) hx hb dX11_turnedStretches_76 (by decide) ?_
            obtain rfl := Option.some.inj e_x4
            exact K_x4 ls _ _ (lv_sub hl [1, 2, 0, 3, 5] rfl) I
        refine lv_if_eq (tgt := 64) hx hb dX11_turnedStretches_57 (by decide) (fun c8 => ?_) (fun c8 => ?_)
        · replace e_x3 := zif_t e_x3 c8
          refine lv_iconst (v := (1 : Int32)) hx hb dX11_turnedStretches_64 (by decide) ?_
          obtain rfl := Option.some.inj e_x3
          exact K_x3 ls _ _ (lv_sub hl [1, 2, 4, 5, 6, 0] rfl) I
        · replace e_x3 := zif_f e_x3 c8
          refine lv_iconst (v := (0 : Int32)) hx hb dX11_turnedStretches_60 (by decide) ?_
          refine lv_goto (tgt := 65) hx hb dX11_turnedStretches_61 (by decide) ?_
          obtain rfl := Option.some.inj e_x3
          exact K_x3 ls _ _ (lv_sub hl [1, 2, 4, 5, 6, 0] rfl) I
      refine lv_if_le (tgt := 51) hx hb dX11_turnedStretches_25 (by decide) (fun c12 => ?_) (fun c12 => ?_)
      · replace e_x2 := zif_t e_x2 c12
        refine lv_iconst (v := (0 : Int32)) hx hb dX11_turnedStretches_51 (by decide) ?_
        obtain rfl := Option.some.inj e_x2
        exact K_x2 ls _ _ hl I
      · replace e_x2 := zif_f e_x2 c12
        refine lv_aload_n hx hb dX11_turnedStretches_28 rfl (lv_at hl 0 rfl) ?_
        refine zgetR (j := 112) M I zc_103 zfl_X11_34 dX11_turnedStretches_29 rfl ?_
        refine lv_iload hx hb dX11_turnedStretches_32 (lv_at hl 5 rfl) ?_
        obtain ⟨x9, e_x9, e_x2⟩ := zb_some e_x2
        refine ziald M I zc_112 e_x9 dX11_turnedStretches_34 ?_
        refine lv_aload_n hx hb dX11_turnedStretches_35 rfl (lv_at hl 0 rfl) ?_
        refine zgetR (j := 112) M I zc_103 zfl_X11_34 dX11_turnedStretches_36 rfl ?_
        refine lv_iload hx hb dX11_turnedStretches_39 (lv_at hl 5 rfl) ?_
        refine lv_iconst (v := (1 : Int32)) hx hb dX11_turnedStretches_41 (by decide) ?_
        refine lv_isub hx hb dX11_turnedStretches_42 ?_
        obtain ⟨x10, e_x10, e_x2⟩ := zb_some e_x2
        refine ziald M I zc_112 e_x10 dX11_turnedStretches_43 ?_
        refine lv_icmp_ge (tgt := 51) hx hb dX11_turnedStretches_44 (by decide) (fun c11 => ?_) (fun c11 => ?_)
        · replace e_x2 := zif_t e_x2 c11
          refine lv_iconst (v := (0 : Int32)) hx hb dX11_turnedStretches_51 (by decide) ?_
          obtain rfl := Option.some.inj e_x2
          exact K_x2 ls _ _ hl I
        · replace e_x2 := zif_f e_x2 c11
          refine lv_iconst (v := (1 : Int32)) hx hb dX11_turnedStretches_47 (by decide) ?_
          refine lv_goto (tgt := 52) hx hb dX11_turnedStretches_48 (by decide) ?_
          obtain rfl := Option.some.inj e_x2
          exact K_x2 ls _ _ hl I
def m_X11_turnedStretches (fu : Nat) (σ : zmem) (a1 : Int32) : Option (Int32 × zmem) := (m_X11_layAnchors fu σ).bind fun x1 => (l_X11_turnedStretches_14 fu x1 a1 fu (0 : Int32) (0 : Int32) (0 : Int32) (0 : Int32)).bind fun x14 => (if a1 = 0 then some (x14.1, x1) else some (x14.2, x1))
set_option maxHeartbeats 4000000 in
set_option maxRecDepth 100000 in
theorem c_X11_turnedStretches (l : Launch) (g : zgeo) (fu : Nat) {σ : zmem} {a1 : Int32} {r : Int32 × zmem} (hr : m_X11_turnedStretches fu σ a1 = some r) : zCt (zQI g r.1 r.2) l g yX11_turnedStretches cX11_turnedStretches 7 (some .int) 4 98 [.ref (zA g 103), .int a1] σ := by
  refine zopen (by decide) (Nat.le_of_ble_eq_true rfl) ?_
  intro p e s m below meth c M ls hl I
  have M : zMC RX11 cX11_turnedStretches 7 (some .int) g p m c s ([.ref (zA g 103), .int a1] : List Value).toArray meth := M
  have hl : lv_has ls 7 [(0, .ref (zA g 103)), (1, .int a1)] := hl
  generalize ([.ref (zA g 103), .int a1] : List Value).toArray = args at M ⊢
  have hx := M.1.1
  have hb := M.1.2.1
  unfold m_X11_turnedStretches at hr
  refine lv_aload_n hx hb dX11_turnedStretches_0 rfl (lv_at hl 0 rfl) ?_
  obtain ⟨x1, e_x1, hr⟩ := zb_some hr
  refine zcallU M I (zrunV (as := []) M I (c_X11_layAnchors l g fu e_x1) zc_103 zK11.1 (by decide) zlv_X11_107 ⟨Nat.le_of_ble_eq_true rfl, Nat.le_of_ble_eq_true rfl⟩ ⟨Nat.zero_le _, Nat.zero_le _⟩ rfl rfl (Nat.le_of_ble_eq_true rfl) hl.1 dX11_turnedStretches_1) (fun H locs I => ?_)
  refine lv_iconst (v := (0 : Int32)) hx hb dX11_turnedStretches_4 (by decide) ?_
  refine lv_istore_n (lv' := [(2, .int (0 : Int32)), (0, .ref (zA g 103)), (1, .int a1)]) hx hb dX11_turnedStretches_5 rfl hl (by decide) rfl (fun ls hl => ?_)
  refine lv_iconst (v := (0 : Int32)) hx hb dX11_turnedStretches_6 (by decide) ?_
  refine lv_istore_n (lv' := [(3, .int (0 : Int32)), (2, .int (0 : Int32)), (0, .ref (zA g 103)), (1, .int a1)]) hx hb dX11_turnedStretches_7 rfl hl (by decide) rfl (fun ls hl => ?_)
  refine lv_iconst (v := (0 : Int32)) hx hb dX11_turnedStretches_8 (by decide) ?_
  refine lv_istore (lv' := [(4, .int (0 : Int32)), (3, .int (0 : Int32)), (2, .int (0 : Int32)), (0, .ref (zA g 103)), (1, .int a1)]) hx hb dX11_turnedStretches_9 hl (by decide) rfl (fun ls hl => ?_)
  refine lv_iconst (v := (0 : Int32)) hx hb dX11_turnedStretches_11 (by decide) ?_
  refine lv_istore (lv' := [(5, .int (0 : Int32)), (4, .int (0 : Int32)), (3, .int (0 : Int32)), (2, .int (0 : Int32)), (0, .ref (zA g 103)), (1, .int a1)]) hx hb dX11_turnedStretches_12 hl (by decide) rfl (fun ls hl => ?_)
  obtain ⟨x14, e_x14, hr⟩ := zb_some hr
  refine k_X11_turnedStretches_14 M  fu _ _ _ _  _ e_x14 ls _ _ (lv_sub hl [4, 5, 3, 2, 1, 0] rfl) I (fun ls H locs hl I => ?_)
  refine lv_iload_n hx hb dX11_turnedStretches_101 rfl (lv_at hl 0 rfl) ?_
  refine lv_if_eq (tgt := 109) hx hb dX11_turnedStretches_102 (by decide) (fun c15 => ?_) (fun c15 => ?_)
  · replace hr := zif_t hr c15
    refine lv_iload_n hx hb dX11_turnedStretches_109 rfl (lv_at hl 1 rfl) ?_
    obtain rfl := Option.some.inj hr
    exact zretI M I dX11_turnedStretches_110
  · replace hr := zif_f hr c15
    refine lv_iload_n hx hb dX11_turnedStretches_105 rfl (lv_at hl 2 rfl) ?_
    refine lv_goto (tgt := 110) hx hb dX11_turnedStretches_106 (by decide) ?_
    obtain rfl := Option.some.inj hr
    exact zretI M I dX11_turnedStretches_110
def l_X11_likeOnes_8 (fu : Nat) (σ : zmem) : Nat → Int32 → Int32 → Option (Int32)
  | 0, _, _ => none
  | n + 1, v1, v2 => (m_X11_signs fu σ (0 : Int32)).bind fun x2 => (if x2 ≤ v2 then some v1 else (zrd σ 120 v2).bind fun x3 => ((if x3 = (-1 : Int32) then some (0 : Int32) else (m_X11_at fu σ (0 : Int32) v2).bind fun x5 => (zrd σ 120 v2).bind fun x6 => (m_X11_at fu σ (1 : Int32) x6).bind fun x7 => (if ¬ x5 = x7 then some (0 : Int32) else some (1 : Int32))) : Option (Int32)).bind fun x4 => l_X11_likeOnes_8 fu σ n (v1 + x4) (v2 + 1))
set_option maxHeartbeats 4000000 in
set_option maxRecDepth 100000 in
theorem k_X11_likeOnes_8 {l : Launch} {g : zgeo} {fu : Nat} {p : Program} {e : Env} {s : State} {m : MethodId} {args : Array Value} {below : List Frame} {meth : Method} {c : Code} (M : zMC RX11 cX11_likeOnes 3 (some .int) g p m c s args meth) {σ : zmem} {Q : State → Prop} : ∀ (n : Nat) (v1 : Int32) (v2 : Int32) (o : Int32), l_X11_likeOnes_8 fu σ n v1 v2 = some o → ∀ (ls : Array Slot) (H : Heap) (locs : List Loc), lv_has ls 3 [(0, .ref (zA g 103)), (1, .int v1), (2, .int v2)] → zIV g σ (zAA g) s.heap H locs → (∀ (ls : Array Slot) (H : Heap) (locs : List Loc), lv_has ls 3 [(1, .int o)] → zIV g σ (zAA g) s.heap H locs → W p l e (zrm 6 147) s m args below meth c H locs 0 0 Q (F0 m 61 ls [])) → W p l e (zrm 6 147) s m args below meth c H locs 0 0 Q (F0 m 8 ls []) := by
  have hx := M.1.1
  have hb := M.1.2.1
  intro n
  induction n with
  | zero =>
    intro v1 v2 o hr ls H locs hl I KF
    have hr : (none : Option (Int32)) = some o := hr
    cases hr
  | succ n ih =>
    intro v1 v2 o hr ls H locs hl I KF
    rw [l_X11_likeOnes_8] at hr
    refine lv_iload_n hx hb dX11_likeOnes_8 rfl (lv_at hl 2 rfl) ?_
    refine lv_aload_n hx hb dX11_likeOnes_9 rfl (lv_at hl 0 rfl) ?_
    refine lv_iconst (v := (0 : Int32)) hx hb dX11_likeOnes_10 (by decide) ?_
    obtain ⟨x2, e_x2, hr⟩ := zb_some hr
    refine zcallI M I (zrunV (as := [.int (0 : Int32)]) M I (c_X11_signs l g fu e_x2) zc_103 zK11.1 (by decide) zlv_X11_85 ⟨Nat.le_of_ble_eq_true rfl, Nat.le_of_ble_eq_true rfl⟩ ⟨Nat.zero_le _, Nat.zero_le _⟩ rfl rfl (Nat.le_of_ble_eq_true rfl) hl.1 dX11_likeOnes_11) (fun H locs I => ?_)
    refine lv_icmp_ge (tgt := 61) hx hb dX11_likeOnes_14 (by decide) (fun c10 => ?_) (fun c10 => ?_)
    · replace hr := zif_t hr c10
      obtain rfl := Option.some.inj hr
      exact KF ls _ _ (lv_sub hl [1] rfl) I
    · replace hr := zif_f hr c10
      refine lv_iload_n hx hb dX11_likeOnes_17 rfl (lv_at hl 1 rfl) ?_
      refine lv_aload_n hx hb dX11_likeOnes_18 rfl (lv_at hl 0 rfl) ?_
      refine zgetR (j := 120) M I zc_103 zfl_X11_58 dX11_likeOnes_19 rfl ?_
      refine lv_iload_n hx hb dX11_likeOnes_22 rfl (lv_at hl 2 rfl) ?_
      obtain ⟨x3, e_x3, hr⟩ := zb_some hr
      refine ziald M I zc_120 e_x3 dX11_likeOnes_23 ?_
      refine lv_iconst (v := (-1 : Int32)) hx hb dX11_likeOnes_24 (by decide) ?_
      obtain ⟨x4, e_x4, hr⟩ := zb_some hr
      have K_x4 : ∀ (ls : Array Slot) (H : Heap) (locs : List Loc), lv_has ls 3 [(0, .ref (zA g 103)), (2, .int v2)] → zIV g σ (zAA g) s.heap H locs → W p l e (zrm 6 147) s m args below meth c H locs 0 0 Q (F0 m 53 ls [.int x4, .int v1]) := by
        intro ls H locs hl I
        refine lv_iadd hx hb dX11_likeOnes_53 ?_
        refine lv_istore_n (lv' := [(1, .int (v1 + x4)), (0, .ref (zA g 103)), (2, .int v2)]) hx hb dX11_likeOnes_54 rfl hl (by decide) rfl (fun ls hl => ?_)
        refine lv_iinc (lv' := [(2, .int (v2 + 1)), (1, .int (v1 + x4)), (0, .ref (zA g 103))]) (k := 2) (v := (v2 + 1)) hx hb dX11_likeOnes_55 hl rfl (zi_1 _) (by decide) rfl (fun ls hl => ?_)
        refine lv_goto (tgt := 8) hx hb dX11_likeOnes_58 (by decide) ?_
        exact ih _ _  _ hr ls _ _ (lv_sub hl [2, 1, 0] rfl) I KF
      refine lv_icmp_eq (tgt := 52) hx hb dX11_likeOnes_25 (by decide) (fun c9 => ?_) (fun c9 => ?_)
      · replace e_x4 := zif_t e_x4 c9
        refine lv_iconst (v := (0 : Int32)) hx hb dX11_likeOnes_52 (by decide) ?_
        obtain rfl := Option.some.inj e_x4
        exact K_x4 ls _ _ (lv_sub hl [0, 2] rfl) I
      · replace e_x4 := zif_f e_x4 c9
        refine lv_aload_n hx hb dX11_likeOnes_28 rfl (lv_at hl 0 rfl) ?_
        refine lv_iconst (v := (0 : Int32)) hx hb dX11_likeOnes_29 (by decide) ?_
        refine lv_iload_n hx hb dX11_likeOnes_30 rfl (lv_at hl 2 rfl) ?_
        obtain ⟨x5, e_x5, e_x4⟩ := zb_some e_x4
        refine zcallI M I (zrunV (as := [.int (0 : Int32), .int v2]) M I (c_X11_at l g fu e_x5) zc_103 zK11.1 (by decide) zlv_X11_89 ⟨Nat.le_of_ble_eq_true rfl, Nat.le_of_ble_eq_true rfl⟩ ⟨Nat.zero_le _, Nat.zero_le _⟩ rfl rfl (Nat.le_of_ble_eq_true rfl) hl.1 dX11_likeOnes_31) (fun H locs I => ?_)
        refine lv_aload_n hx hb dX11_likeOnes_34 rfl (lv_at hl 0 rfl) ?_
        refine lv_iconst (v := (1 : Int32)) hx hb dX11_likeOnes_35 (by decide) ?_
        refine lv_aload_n hx hb dX11_likeOnes_36 rfl (lv_at hl 0 rfl) ?_
        refine zgetR (j := 120) M I zc_103 zfl_X11_58 dX11_likeOnes_37 rfl ?_
        refine lv_iload_n hx hb dX11_likeOnes_40 rfl (lv_at hl 2 rfl) ?_
        obtain ⟨x6, e_x6, e_x4⟩ := zb_some e_x4
        refine ziald M I zc_120 e_x6 dX11_likeOnes_41 ?_
        obtain ⟨x7, e_x7, e_x4⟩ := zb_some e_x4
        refine zcallI M I (zrunV (as := [.int (1 : Int32), .int x6]) M I (c_X11_at l g fu e_x7) zc_103 zK11.1 (by decide) zlv_X11_89 ⟨Nat.le_of_ble_eq_true rfl, Nat.le_of_ble_eq_true rfl⟩ ⟨Nat.zero_le _, Nat.zero_le _⟩ rfl rfl (Nat.le_of_ble_eq_true rfl) hl.1 dX11_likeOnes_42) (fun H locs I => ?_)
        refine lv_icmp_ne (tgt := 52) hx hb dX11_likeOnes_45 (by decide) (fun c8 => ?_) (fun c8 => ?_)
        · replace e_x4 := zif_t e_x4 c8
          refine lv_iconst (v := (0 : Int32)) hx hb dX11_likeOnes_52 (by decide) ?_
          obtain rfl := Option.some.inj e_x4
          exact K_x4 ls _ _ (lv_sub hl [0, 2] rfl) I
        · replace e_x4 := zif_f e_x4 (fun hq => hq c8)
          refine lv_iconst (v := (1 : Int32)) hx hb dX11_likeOnes_48 (by decide) ?_
          refine lv_goto (tgt := 53) hx hb dX11_likeOnes_49 (by decide) ?_
          obtain rfl := Option.some.inj e_x4
          exact K_x4 ls _ _ (lv_sub hl [0, 2] rfl) I
def m_X11_likeOnes (fu : Nat) (σ : zmem) : Option (Int32 × zmem) := (m_X11_layAll fu σ).bind fun x1 => (l_X11_likeOnes_8 fu x1 fu (0 : Int32) (0 : Int32)).bind fun x11 => some (x11, x1)
set_option maxHeartbeats 4000000 in
set_option maxRecDepth 100000 in
theorem c_X11_likeOnes (l : Launch) (g : zgeo) (fu : Nat) {σ : zmem} {r : Int32 × zmem} (hr : m_X11_likeOnes fu σ = some r) : zCt (zQI g r.1 r.2) l g yX11_likeOnes cX11_likeOnes 3 (some .int) 6 147 [.ref (zA g 103)] σ := by
  refine zopen (by decide) (Nat.le_of_ble_eq_true rfl) ?_
  intro p e s m below meth c M ls hl I
  have M : zMC RX11 cX11_likeOnes 3 (some .int) g p m c s ([.ref (zA g 103)] : List Value).toArray meth := M
  have hl : lv_has ls 3 [(0, .ref (zA g 103))] := hl
  generalize ([.ref (zA g 103)] : List Value).toArray = args at M ⊢
  have hx := M.1.1
  have hb := M.1.2.1
  unfold m_X11_likeOnes at hr
  refine lv_aload_n hx hb dX11_likeOnes_0 rfl (lv_at hl 0 rfl) ?_
  obtain ⟨x1, e_x1, hr⟩ := zb_some hr
  refine zcallU M I (zrunV (as := []) M I (c_X11_layAll l g fu e_x1) zc_103 zK11.1 (by decide) zlv_X11_143 ⟨Nat.le_of_ble_eq_true rfl, Nat.le_of_ble_eq_true rfl⟩ ⟨Nat.zero_le _, Nat.zero_le _⟩ rfl rfl (Nat.le_of_ble_eq_true rfl) hl.1 dX11_likeOnes_1) (fun H locs I => ?_)
  refine lv_iconst (v := (0 : Int32)) hx hb dX11_likeOnes_4 (by decide) ?_
  refine lv_istore_n (lv' := [(1, .int (0 : Int32)), (0, .ref (zA g 103))]) hx hb dX11_likeOnes_5 rfl hl (by decide) rfl (fun ls hl => ?_)
  refine lv_iconst (v := (0 : Int32)) hx hb dX11_likeOnes_6 (by decide) ?_
  refine lv_istore_n (lv' := [(2, .int (0 : Int32)), (1, .int (0 : Int32)), (0, .ref (zA g 103))]) hx hb dX11_likeOnes_7 rfl hl (by decide) rfl (fun ls hl => ?_)
  obtain ⟨x11, e_x11, hr⟩ := zb_some hr
  refine k_X11_likeOnes_8 M  fu _ _  _ e_x11 ls _ _ (lv_sub hl [2, 1, 0] rfl) I (fun ls H locs hl I => ?_)
  refine lv_iload_n hx hb dX11_likeOnes_61 rfl (lv_at hl 0 rfl) ?_
  obtain rfl := Option.some.inj hr
  exact zretI M I dX11_likeOnes_62
def l_X11_leftOut_8 (fu : Nat) (σ : zmem) (a1 : Int32) : Nat → Int32 → Int32 → Option (Int32)
  | 0, _, _ => none
  | n + 1, v2, v3 => (m_X11_signs fu σ a1).bind fun x2 => (if x2 ≤ v3 then some v2 else (zrd σ 120 (((24 : Int32) * a1) + v3)).bind fun x3 => ((if ¬ x3 = (-1 : Int32) then some (0 : Int32) else some (1 : Int32)) : Option (Int32)).bind fun x4 => l_X11_leftOut_8 fu σ a1 n (v2 + x4) (v3 + 1))
set_option maxHeartbeats 4000000 in
set_option maxRecDepth 100000 in
theorem k_X11_leftOut_8 {l : Launch} {g : zgeo} {fu : Nat} {p : Program} {e : Env} {s : State} {m : MethodId} {args : Array Value} {below : List Frame} {meth : Method} {c : Code} (M : zMC RX11 cX11_leftOut 4 (some .int) g p m c s args meth) {σ : zmem} {a1 : Int32} {Q : State → Prop} : ∀ (n : Nat) (v2 : Int32) (v3 : Int32) (o : Int32), l_X11_leftOut_8 fu σ a1 n v2 v3 = some o → ∀ (ls : Array Slot) (H : Heap) (locs : List Loc), lv_has ls 4 [(0, .ref (zA g 103)), (1, .int a1), (2, .int v2), (3, .int v3)] → zIV g σ (zAA g) s.heap H locs → (∀ (ls : Array Slot) (H : Heap) (locs : List Loc), lv_has ls 4 [(2, .int o)] → zIV g σ (zAA g) s.heap H locs → W p l e (zrm 6 147) s m args below meth c H locs 0 0 Q (F0 m 46 ls [])) → W p l e (zrm 6 147) s m args below meth c H locs 0 0 Q (F0 m 8 ls []) := by
  have hx := M.1.1
  have hb := M.1.2.1
  intro n
  induction n with
  | zero =>
    intro v2 v3 o hr ls H locs hl I KF
    have hr : (none : Option (Int32)) = some o := hr
    cases hr
  | succ n ih =>
    intro v2 v3 o hr ls H locs hl I KF
    rw [l_X11_leftOut_8] at hr
    refine lv_iload_n hx hb dX11_leftOut_8 rfl (lv_at hl 3 rfl) ?_
    refine lv_aload_n hx hb dX11_leftOut_9 rfl (lv_at hl 0 rfl) ?_
    refine lv_iload_n hx hb dX11_leftOut_10 rfl (lv_at hl 1 rfl) ?_
    obtain ⟨x2, e_x2, hr⟩ := zb_some hr
    refine zcallI M I (zrunV (as := [.int a1]) M I (c_X11_signs l g fu e_x2) zc_103 zK11.1 (by decide) zlv_X11_85 ⟨Nat.le_of_ble_eq_true rfl, Nat.le_of_ble_eq_true rfl⟩ ⟨Nat.zero_le _, Nat.zero_le _⟩ rfl rfl (Nat.le_of_ble_eq_true rfl) hl.1 dX11_leftOut_11) (fun H locs I => ?_)
    refine lv_icmp_ge (tgt := 46) hx hb dX11_leftOut_14 (by decide) (fun c6 => ?_) (fun c6 => ?_)
    · replace hr := zif_t hr c6
      obtain rfl := Option.some.inj hr
      exact KF ls _ _ (lv_sub hl [2] rfl) I
    · replace hr := zif_f hr c6
      refine lv_iload_n hx hb dX11_leftOut_17 rfl (lv_at hl 2 rfl) ?_
      refine lv_aload_n hx hb dX11_leftOut_18 rfl (lv_at hl 0 rfl) ?_
      refine zgetR (j := 120) M I zc_103 zfl_X11_58 dX11_leftOut_19 rfl ?_
      refine lv_bipush (v := (24 : Int32)) hx hb dX11_leftOut_22 (by decide) ?_
      refine lv_iload_n hx hb dX11_leftOut_24 rfl (lv_at hl 1 rfl) ?_
      refine lv_imul hx hb dX11_leftOut_25 ?_
      refine lv_iload_n hx hb dX11_leftOut_26 rfl (lv_at hl 3 rfl) ?_
      refine lv_iadd hx hb dX11_leftOut_27 ?_
      obtain ⟨x3, e_x3, hr⟩ := zb_some hr
      refine ziald M I zc_120 e_x3 dX11_leftOut_28 ?_
      refine lv_iconst (v := (-1 : Int32)) hx hb dX11_leftOut_29 (by decide) ?_
      obtain ⟨x4, e_x4, hr⟩ := zb_some hr
      have K_x4 : ∀ (ls : Array Slot) (H : Heap) (locs : List Loc), lv_has ls 4 [(0, .ref (zA g 103)), (1, .int a1), (3, .int v3)] → zIV g σ (zAA g) s.heap H locs → W p l e (zrm 6 147) s m args below meth c H locs 0 0 Q (F0 m 38 ls [.int x4, .int v2]) := by
        intro ls H locs hl I
        refine lv_iadd hx hb dX11_leftOut_38 ?_
        refine lv_istore_n (lv' := [(2, .int (v2 + x4)), (0, .ref (zA g 103)), (1, .int a1), (3, .int v3)]) hx hb dX11_leftOut_39 rfl hl (by decide) rfl (fun ls hl => ?_)
        refine lv_iinc (lv' := [(3, .int (v3 + 1)), (2, .int (v2 + x4)), (0, .ref (zA g 103)), (1, .int a1)]) (k := 3) (v := (v3 + 1)) hx hb dX11_leftOut_40 hl rfl (zi_1 _) (by decide) rfl (fun ls hl => ?_)
        refine lv_goto (tgt := 8) hx hb dX11_leftOut_43 (by decide) ?_
        exact ih _ _  _ hr ls _ _ (lv_sub hl [2, 3, 1, 0] rfl) I KF
      refine lv_icmp_ne (tgt := 37) hx hb dX11_leftOut_30 (by decide) (fun c5 => ?_) (fun c5 => ?_)
      · replace e_x4 := zif_t e_x4 c5
        refine lv_iconst (v := (0 : Int32)) hx hb dX11_leftOut_37 (by decide) ?_
        obtain rfl := Option.some.inj e_x4
        exact K_x4 ls _ _ (lv_sub hl [0, 1, 3] rfl) I
      · replace e_x4 := zif_f e_x4 (fun hq => hq c5)
        refine lv_iconst (v := (1 : Int32)) hx hb dX11_leftOut_33 (by decide) ?_
        refine lv_goto (tgt := 38) hx hb dX11_leftOut_34 (by decide) ?_
        obtain rfl := Option.some.inj e_x4
        exact K_x4 ls _ _ (lv_sub hl [0, 1, 3] rfl) I
def m_X11_leftOut (fu : Nat) (σ : zmem) (a1 : Int32) : Option (Int32 × zmem) := (m_X11_layAll fu σ).bind fun x1 => (l_X11_leftOut_8 fu x1 a1 fu (0 : Int32) (0 : Int32)).bind fun x7 => some (x7, x1)
set_option maxHeartbeats 4000000 in
set_option maxRecDepth 100000 in
theorem c_X11_leftOut (l : Launch) (g : zgeo) (fu : Nat) {σ : zmem} {a1 : Int32} {r : Int32 × zmem} (hr : m_X11_leftOut fu σ a1 = some r) : zCt (zQI g r.1 r.2) l g yX11_leftOut cX11_leftOut 4 (some .int) 6 147 [.ref (zA g 103), .int a1] σ := by
  refine zopen (by decide) (Nat.le_of_ble_eq_true rfl) ?_
  intro p e s m below meth c M ls hl I
  have M : zMC RX11 cX11_leftOut 4 (some .int) g p m c s ([.ref (zA g 103), .int a1] : List Value).toArray meth := M
  have hl : lv_has ls 4 [(0, .ref (zA g 103)), (1, .int a1)] := hl
  generalize ([.ref (zA g 103), .int a1] : List Value).toArray = args at M ⊢
  have hx := M.1.1
  have hb := M.1.2.1
  unfold m_X11_leftOut at hr
  refine lv_aload_n hx hb dX11_leftOut_0 rfl (lv_at hl 0 rfl) ?_
  obtain ⟨x1, e_x1, hr⟩ := zb_some hr
  refine zcallU M I (zrunV (as := []) M I (c_X11_layAll l g fu e_x1) zc_103 zK11.1 (by decide) zlv_X11_143 ⟨Nat.le_of_ble_eq_true rfl, Nat.le_of_ble_eq_true rfl⟩ ⟨Nat.zero_le _, Nat.zero_le _⟩ rfl rfl (Nat.le_of_ble_eq_true rfl) hl.1 dX11_leftOut_1) (fun H locs I => ?_)
  refine lv_iconst (v := (0 : Int32)) hx hb dX11_leftOut_4 (by decide) ?_
  refine lv_istore_n (lv' := [(2, .int (0 : Int32)), (0, .ref (zA g 103)), (1, .int a1)]) hx hb dX11_leftOut_5 rfl hl (by decide) rfl (fun ls hl => ?_)
  refine lv_iconst (v := (0 : Int32)) hx hb dX11_leftOut_6 (by decide) ?_
  refine lv_istore_n (lv' := [(3, .int (0 : Int32)), (2, .int (0 : Int32)), (0, .ref (zA g 103)), (1, .int a1)]) hx hb dX11_leftOut_7 rfl hl (by decide) rfl (fun ls hl => ?_)
  obtain ⟨x7, e_x7, hr⟩ := zb_some hr
  refine k_X11_leftOut_8 M  fu _ _  _ e_x7 ls _ _ (lv_sub hl [2, 3, 1, 0] rfl) I (fun ls H locs hl I => ?_)
  refine lv_iload_n hx hb dX11_leftOut_46 rfl (lv_at hl 0 rfl) ?_
  obtain rfl := Option.some.inj hr
  exact zretI M I dX11_leftOut_47
def m_X11_laidCount (fu : Nat) (σ : zmem) (a1 : Int32) : Option (Int32 × zmem) := (m_X11_layAll fu σ).bind fun x1 => (if ¬ a1 = (2 : Int32) then (if ¬ a1 = (3 : Int32) then (if ¬ a1 = (4 : Int32) then some ((x1.1 103 22), x1) else some ((x1.1 103 18), x1)) else some ((x1.1 103 13), x1)) else some ((x1.1 103 10), x1))
set_option maxHeartbeats 4000000 in
set_option maxRecDepth 100000 in
theorem c_X11_laidCount (l : Launch) (g : zgeo) (fu : Nat) {σ : zmem} {a1 : Int32} {r : Int32 × zmem} (hr : m_X11_laidCount fu σ a1 = some r) : zCt (zQI g r.1 r.2) l g yX11_laidCount cX11_laidCount 2 (some .int) 6 147 [.ref (zA g 103), .int a1] σ := by
  refine zopen (by decide) (Nat.le_of_ble_eq_true rfl) ?_
  intro p e s m below meth c M ls hl I
  have M : zMC RX11 cX11_laidCount 2 (some .int) g p m c s ([.ref (zA g 103), .int a1] : List Value).toArray meth := M
  have hl : lv_has ls 2 [(0, .ref (zA g 103)), (1, .int a1)] := hl
  generalize ([.ref (zA g 103), .int a1] : List Value).toArray = args at M ⊢
  have hx := M.1.1
  have hb := M.1.2.1
  unfold m_X11_laidCount at hr
  refine lv_aload_n hx hb dX11_laidCount_0 rfl (lv_at hl 0 rfl) ?_
  obtain ⟨x1, e_x1, hr⟩ := zb_some hr
  refine zcallU M I (zrunV (as := []) M I (c_X11_layAll l g fu e_x1) zc_103 zK11.1 (by decide) zlv_X11_143 ⟨Nat.le_of_ble_eq_true rfl, Nat.le_of_ble_eq_true rfl⟩ ⟨Nat.zero_le _, Nat.zero_le _⟩ rfl rfl (Nat.le_of_ble_eq_true rfl) hl.1 dX11_laidCount_1) (fun H locs I => ?_)
  refine lv_iload_n hx hb dX11_laidCount_4 rfl (lv_at hl 1 rfl) ?_
  refine lv_iconst (v := (2 : Int32)) hx hb dX11_laidCount_5 (by decide) ?_
  refine lv_icmp_ne (tgt := 16) hx hb dX11_laidCount_6 (by decide) (fun c4 => ?_) (fun c4 => ?_)
  · replace hr := zif_t hr c4
    refine lv_iload_n hx hb dX11_laidCount_16 rfl (lv_at hl 1 rfl) ?_
    refine lv_iconst (v := (3 : Int32)) hx hb dX11_laidCount_17 (by decide) ?_
    refine lv_icmp_ne (tgt := 28) hx hb dX11_laidCount_18 (by decide) (fun c3 => ?_) (fun c3 => ?_)
    · replace hr := zif_t hr c3
      refine lv_iload_n hx hb dX11_laidCount_28 rfl (lv_at hl 1 rfl) ?_
      refine lv_iconst (v := (4 : Int32)) hx hb dX11_laidCount_29 (by decide) ?_
      refine lv_icmp_ne (tgt := 40) hx hb dX11_laidCount_30 (by decide) (fun c2 => ?_) (fun c2 => ?_)
      · replace hr := zif_t hr c2
        refine lv_aload_n hx hb dX11_laidCount_40 rfl (lv_at hl 0 rfl) ?_
        refine zgetI M I zc_103 zfl_X11_122 dX11_laidCount_41 ?_
        obtain rfl := Option.some.inj hr
        exact zretI M I dX11_laidCount_44
      · replace hr := zif_f hr (fun hq => hq c2)
        refine lv_aload_n hx hb dX11_laidCount_33 rfl (lv_at hl 0 rfl) ?_
        refine zgetI M I zc_103 zfl_X11_114 dX11_laidCount_34 ?_
        refine lv_goto (tgt := 44) hx hb dX11_laidCount_37 (by decide) ?_
        obtain rfl := Option.some.inj hr
        exact zretI M I dX11_laidCount_44
    · replace hr := zif_f hr (fun hq => hq c3)
      refine lv_aload_n hx hb dX11_laidCount_21 rfl (lv_at hl 0 rfl) ?_
      refine zgetI M I zc_103 zfl_X11_100 dX11_laidCount_22 ?_
      refine lv_goto (tgt := 44) hx hb dX11_laidCount_25 (by decide) ?_
      obtain rfl := Option.some.inj hr
      exact zretI M I dX11_laidCount_44
  · replace hr := zif_f hr (fun hq => hq c4)
    refine lv_aload_n hx hb dX11_laidCount_9 rfl (lv_at hl 0 rfl) ?_
    refine zgetI M I zc_103 zfl_X11_97 dX11_laidCount_10 ?_
    refine lv_goto (tgt := 44) hx hb dX11_laidCount_13 (by decide) ?_
    obtain rfl := Option.some.inj hr
    exact zretI M I dX11_laidCount_44
def m_X11_counted (fu : Nat) (σ : zmem) (a1 : Int32) : Option (Int32 × zmem) := (if a1 = (0 : Int32) then (m_X11_signs fu σ a1).bind fun x2 => some (x2, σ) else (if a1 = (1 : Int32) then (m_X11_signs fu σ a1).bind fun x4 => some (x4, σ) else (if a1 = (2 : Int32) then (m_X11_laidCount fu σ a1).bind fun x6 => some (x6.1, x6.2) else (if a1 = (3 : Int32) then (m_X11_laidCount fu σ a1).bind fun x8 => some (x8.1, x8.2) else (if a1 = (4 : Int32) then (m_X11_laidCount fu σ a1).bind fun x10 => some (x10.1, x10.2) else (if a1 = (5 : Int32) then (m_X11_laidCount fu σ a1).bind fun x12 => some (x12.1, x12.2) else (if a1 = (6 : Int32) then (m_X11_costNow fu σ).bind fun x14 => some (x14.1, x14.2) else (if a1 = (7 : Int32) then (m_X11_freeCost fu σ).bind fun x16 => some (x16.1, x16.2) else (if a1 = (8 : Int32) then ((if ¬ a1 = (9 : Int32) then some (0 : Int32) else some (1 : Int32)) : Option (Int32)).bind fun x18 => (m_X11_turnedStretches fu σ x18).bind fun x19 => some (x19.1, x19.2) else (if a1 = (9 : Int32) then ((if ¬ a1 = (9 : Int32) then some (0 : Int32) else some (1 : Int32)) : Option (Int32)).bind fun x22 => (m_X11_turnedStretches fu σ x22).bind fun x23 => some (x23.1, x23.2) else (if a1 = (10 : Int32) then (m_X11_likeOnes fu σ).bind fun x26 => some (x26.1, x26.2) else (if a1 = (11 : Int32) then (m_X11_leftOut fu σ (a1 - (11 : Int32))).bind fun x28 => some (x28.1, x28.2) else (if a1 = (12 : Int32) then (m_X11_leftOut fu σ (a1 - (11 : Int32))).bind fun x30 => some (x30.1, x30.2) else (if a1 = (13 : Int32) then (zrd σ 107 (0 : Int32)).bind fun x32 => (zrd σ 107 (1 : Int32)).bind fun x33 => some ((x32 + x33), σ) else (if a1 = (14 : Int32) then some ((σ.1 103 1), σ) else (m_X11_laidCount fu σ a1).bind fun x35 => some (x35.1, x35.2))))))))))))))))
set_option maxHeartbeats 4000000 in
set_option maxRecDepth 100000 in
theorem c_X11_counted (l : Launch) (g : zgeo) (fu : Nat) {σ : zmem} {a1 : Int32} {r : Int32 × zmem} (hr : m_X11_counted fu σ a1 = some r) : zCt (zQI g r.1 r.2) l g yX11_counted cX11_counted 2 (some .int) 7 170 [.ref (zA g 103), .int a1] σ := by
  refine zopen (by decide) (Nat.le_of_ble_eq_true rfl) ?_
  intro p e s m below meth c M ls hl I
  have M : zMC RX11 cX11_counted 2 (some .int) g p m c s ([.ref (zA g 103), .int a1] : List Value).toArray meth := M
  have hl : lv_has ls 2 [(0, .ref (zA g 103)), (1, .int a1)] := hl
  generalize ([.ref (zA g 103), .int a1] : List Value).toArray = args at M ⊢
  have hx := M.1.1
  have hb := M.1.2.1
  unfold m_X11_counted at hr
  refine lv_iload_n hx hb dX11_counted_0 rfl (lv_at hl 1 rfl) ?_
  by_cases c1 : a1 = (0 : Int32)
  · replace hr := zif_t hr c1
    refine lv_tableIn (tgt := 76) hx hb dX11_counted_1 (by rw [c1]; decide) (by rw [c1]; decide) (by rw [c1]; try rfl) (by decide) ?_
    refine lv_aload_n hx hb dX11_counted_76 rfl (lv_at hl 0 rfl) ?_
    refine lv_iload_n hx hb dX11_counted_77 rfl (lv_at hl 1 rfl) ?_
    obtain ⟨x2, e_x2, hr⟩ := zb_some hr
    refine zcallI M I (zrunV (as := [.int a1]) M I (c_X11_signs l g fu e_x2) zc_103 zK11.1 (by decide) zlv_X11_85 ⟨Nat.le_of_ble_eq_true rfl, Nat.le_of_ble_eq_true rfl⟩ ⟨Nat.zero_le _, Nat.zero_le _⟩ rfl rfl (Nat.le_of_ble_eq_true rfl) hl.1 dX11_counted_78) (fun H locs I => ?_)
    obtain rfl := Option.some.inj hr
    exact zretI M I dX11_counted_81
  · replace hr := zif_f hr c1
    by_cases c3 : a1 = (1 : Int32)
    · replace hr := zif_t hr c3
      refine lv_tableIn (tgt := 76) hx hb dX11_counted_1 (by rw [c3]; decide) (by rw [c3]; decide) (by rw [c3]; try rfl) (by decide) ?_
      refine lv_aload_n hx hb dX11_counted_76 rfl (lv_at hl 0 rfl) ?_
      refine lv_iload_n hx hb dX11_counted_77 rfl (lv_at hl 1 rfl) ?_
      obtain ⟨x4, e_x4, hr⟩ := zb_some hr
      refine zcallI M I (zrunV (as := [.int a1]) M I (c_X11_signs l g fu e_x4) zc_103 zK11.1 (by decide) zlv_X11_85 ⟨Nat.le_of_ble_eq_true rfl, Nat.le_of_ble_eq_true rfl⟩ ⟨Nat.zero_le _, Nat.zero_le _⟩ rfl rfl (Nat.le_of_ble_eq_true rfl) hl.1 dX11_counted_78) (fun H locs I => ?_)
      obtain rfl := Option.some.inj hr
      exact zretI M I dX11_counted_81
    · replace hr := zif_f hr c3
      by_cases c5 : a1 = (2 : Int32)
      · replace hr := zif_t hr c5
        refine lv_tableIn (tgt := 141) hx hb dX11_counted_1 (by rw [c5]; decide) (by rw [c5]; decide) (by rw [c5]; try rfl) (by decide) ?_
        refine lv_aload_n hx hb dX11_counted_141 rfl (lv_at hl 0 rfl) ?_
        refine lv_iload_n hx hb dX11_counted_142 rfl (lv_at hl 1 rfl) ?_
        obtain ⟨x6, e_x6, hr⟩ := zb_some hr
        refine zcallI M I (zrunV (as := [.int a1]) M I (c_X11_laidCount l g fu e_x6) zc_103 zK11.1 (by decide) zlv_X11_222 ⟨Nat.le_of_ble_eq_true rfl, Nat.le_of_ble_eq_true rfl⟩ ⟨Nat.zero_le _, Nat.zero_le _⟩ rfl rfl (Nat.le_of_ble_eq_true rfl) hl.1 dX11_counted_143) (fun H locs I => ?_)
        obtain rfl := Option.some.inj hr
        exact zretI M I dX11_counted_146
      · replace hr := zif_f hr c5
        by_cases c7 : a1 = (3 : Int32)
        · replace hr := zif_t hr c7
          refine lv_tableIn (tgt := 141) hx hb dX11_counted_1 (by rw [c7]; decide) (by rw [c7]; decide) (by rw [c7]; try rfl) (by decide) ?_
          refine lv_aload_n hx hb dX11_counted_141 rfl (lv_at hl 0 rfl) ?_
          refine lv_iload_n hx hb dX11_counted_142 rfl (lv_at hl 1 rfl) ?_
          obtain ⟨x8, e_x8, hr⟩ := zb_some hr
          refine zcallI M I (zrunV (as := [.int a1]) M I (c_X11_laidCount l g fu e_x8) zc_103 zK11.1 (by decide) zlv_X11_222 ⟨Nat.le_of_ble_eq_true rfl, Nat.le_of_ble_eq_true rfl⟩ ⟨Nat.zero_le _, Nat.zero_le _⟩ rfl rfl (Nat.le_of_ble_eq_true rfl) hl.1 dX11_counted_143) (fun H locs I => ?_)
          obtain rfl := Option.some.inj hr
          exact zretI M I dX11_counted_146
        · replace hr := zif_f hr c7
          by_cases c9 : a1 = (4 : Int32)
          · replace hr := zif_t hr c9
            refine lv_tableIn (tgt := 141) hx hb dX11_counted_1 (by rw [c9]; decide) (by rw [c9]; decide) (by rw [c9]; try rfl) (by decide) ?_
            refine lv_aload_n hx hb dX11_counted_141 rfl (lv_at hl 0 rfl) ?_
            refine lv_iload_n hx hb dX11_counted_142 rfl (lv_at hl 1 rfl) ?_
            obtain ⟨x10, e_x10, hr⟩ := zb_some hr
            refine zcallI M I (zrunV (as := [.int a1]) M I (c_X11_laidCount l g fu e_x10) zc_103 zK11.1 (by decide) zlv_X11_222 ⟨Nat.le_of_ble_eq_true rfl, Nat.le_of_ble_eq_true rfl⟩ ⟨Nat.zero_le _, Nat.zero_le _⟩ rfl rfl (Nat.le_of_ble_eq_true rfl) hl.1 dX11_counted_143) (fun H locs I => ?_)
            obtain rfl := Option.some.inj hr
            exact zretI M I dX11_counted_146
          · replace hr := zif_f hr c9
            by_cases c11 : a1 = (5 : Int32)
            · replace hr := zif_t hr c11
              refine lv_tableIn (tgt := 141) hx hb dX11_counted_1 (by rw [c11]; decide) (by rw [c11]; decide) (by rw [c11]; try rfl) (by decide) ?_
              refine lv_aload_n hx hb dX11_counted_141 rfl (lv_at hl 0 rfl) ?_
              refine lv_iload_n hx hb dX11_counted_142 rfl (lv_at hl 1 rfl) ?_
              obtain ⟨x12, e_x12, hr⟩ := zb_some hr
              refine zcallI M I (zrunV (as := [.int a1]) M I (c_X11_laidCount l g fu e_x12) zc_103 zK11.1 (by decide) zlv_X11_222 ⟨Nat.le_of_ble_eq_true rfl, Nat.le_of_ble_eq_true rfl⟩ ⟨Nat.zero_le _, Nat.zero_le _⟩ rfl rfl (Nat.le_of_ble_eq_true rfl) hl.1 dX11_counted_143) (fun H locs I => ?_)
              obtain rfl := Option.some.inj hr
              exact zretI M I dX11_counted_146
            · replace hr := zif_f hr c11
              by_cases c13 : a1 = (6 : Int32)
              · replace hr := zif_t hr c13
                refine lv_tableIn (tgt := 82) hx hb dX11_counted_1 (by rw [c13]; decide) (by rw [c13]; decide) (by rw [c13]; try rfl) (by decide) ?_
                refine lv_aload_n hx hb dX11_counted_82 rfl (lv_at hl 0 rfl) ?_
                obtain ⟨x14, e_x14, hr⟩ := zb_some hr
                refine zcallI M I (zrunV (as := []) M I (c_X11_costNow l g fu e_x14) zc_103 zK11.1 (by decide) zlv_X11_206 ⟨Nat.le_of_ble_eq_true rfl, Nat.le_of_ble_eq_true rfl⟩ ⟨Nat.zero_le _, Nat.zero_le _⟩ rfl rfl (Nat.le_of_ble_eq_true rfl) hl.1 dX11_counted_83) (fun H locs I => ?_)
                obtain rfl := Option.some.inj hr
                exact zretI M I dX11_counted_86
              · replace hr := zif_f hr c13
                by_cases c15 : a1 = (7 : Int32)
                · replace hr := zif_t hr c15
                  refine lv_tableIn (tgt := 87) hx hb dX11_counted_1 (by rw [c15]; decide) (by rw [c15]; decide) (by rw [c15]; try rfl) (by decide) ?_
                  refine lv_aload_n hx hb dX11_counted_87 rfl (lv_at hl 0 rfl) ?_
                  obtain ⟨x16, e_x16, hr⟩ := zb_some hr
                  refine zcallI M I (zrunV (as := []) M I (c_X11_freeCost l g fu e_x16) zc_103 zK11.1 (by decide) zlv_X11_209 ⟨Nat.le_of_ble_eq_true rfl, Nat.le_of_ble_eq_true rfl⟩ ⟨Nat.zero_le _, Nat.zero_le _⟩ rfl rfl (Nat.le_of_ble_eq_true rfl) hl.1 dX11_counted_88) (fun H locs I => ?_)
                  obtain rfl := Option.some.inj hr
                  exact zretI M I dX11_counted_91
                · replace hr := zif_f hr c15
                  by_cases c17 : a1 = (8 : Int32)
                  · replace hr := zif_t hr c17
                    refine lv_tableIn (tgt := 92) hx hb dX11_counted_1 (by rw [c17]; decide) (by rw [c17]; decide) (by rw [c17]; try rfl) (by decide) ?_
                    refine lv_aload_n hx hb dX11_counted_92 rfl (lv_at hl 0 rfl) ?_
                    refine lv_iload_n hx hb dX11_counted_93 rfl (lv_at hl 1 rfl) ?_
                    refine lv_bipush (v := (9 : Int32)) hx hb dX11_counted_94 (by decide) ?_
                    obtain ⟨x18, e_x18, hr⟩ := zb_some hr
                    have K_x18 : ∀ (ls : Array Slot) (H : Heap) (locs : List Loc), lv_has ls 2 [] → zIV g σ (zAA g) s.heap H locs → W p l e (zrm 7 170) s m args below meth c H locs 0 0 (MQ below (zQI g r.1 r.2) args s 0 0 (zAA g)) (F0 m 104 ls [.int x18, .ref (zA g 103)]) := by
                      intro ls H locs hl I
                      obtain ⟨x19, e_x19, hr⟩ := zb_some hr
                      refine zcallI M I (zrunV (as := [.int x18]) M I (c_X11_turnedStretches l g fu e_x19) zc_103 zK11.1 (by decide) zlv_X11_212 ⟨Nat.le_of_ble_eq_true rfl, Nat.le_of_ble_eq_true rfl⟩ ⟨Nat.zero_le _, Nat.zero_le _⟩ rfl rfl (Nat.le_of_ble_eq_true rfl) hl.1 dX11_counted_104) (fun H locs I => ?_)
                      obtain rfl := Option.some.inj hr
                      exact zretI M I dX11_counted_107
                    refine lv_icmp_ne (tgt := 103) hx hb dX11_counted_96 (by decide) (fun c20 => ?_) (fun c20 => ?_)
                    · replace e_x18 := zif_t e_x18 c20
                      refine lv_iconst (v := (0 : Int32)) hx hb dX11_counted_103 (by decide) ?_
                      obtain rfl := Option.some.inj e_x18
                      exact K_x18 ls _ _ (lv_sub hl [] rfl) I
                    · replace e_x18 := zif_f e_x18 (fun hq => hq c20)
                      refine lv_iconst (v := (1 : Int32)) hx hb dX11_counted_99 (by decide) ?_
                      refine lv_goto (tgt := 104) hx hb dX11_counted_100 (by decide) ?_
                      obtain rfl := Option.some.inj e_x18
                      exact K_x18 ls _ _ (lv_sub hl [] rfl) I
                  · replace hr := zif_f hr c17
                    by_cases c21 : a1 = (9 : Int32)
                    · replace hr := zif_t hr c21
                      refine lv_tableIn (tgt := 92) hx hb dX11_counted_1 (by rw [c21]; decide) (by rw [c21]; decide) (by rw [c21]; try rfl) (by decide) ?_
                      refine lv_aload_n hx hb dX11_counted_92 rfl (lv_at hl 0 rfl) ?_
                      refine lv_iload_n hx hb dX11_counted_93 rfl (lv_at hl 1 rfl) ?_
                      refine lv_bipush (v := (9 : Int32)) hx hb dX11_counted_94 (by decide) ?_
                      obtain ⟨x22, e_x22, hr⟩ := zb_some hr
                      have K_x22 : ∀ (ls : Array Slot) (H : Heap) (locs : List Loc), lv_has ls 2 [] → zIV g σ (zAA g) s.heap H locs → W p l e (zrm 7 170) s m args below meth c H locs 0 0 (MQ below (zQI g r.1 r.2) args s 0 0 (zAA g)) (F0 m 104 ls [.int x22, .ref (zA g 103)]) := by
                        intro ls H locs hl I
                        obtain ⟨x23, e_x23, hr⟩ := zb_some hr
                        refine zcallI M I (zrunV (as := [.int x22]) M I (c_X11_turnedStretches l g fu e_x23) zc_103 zK11.1 (by decide) zlv_X11_212 ⟨Nat.le_of_ble_eq_true rfl, Nat.le_of_ble_eq_true rfl⟩ ⟨Nat.zero_le _, Nat.zero_le _⟩ rfl rfl (Nat.le_of_ble_eq_true rfl) hl.1 dX11_counted_104) (fun H locs I => ?_)
                        obtain rfl := Option.some.inj hr
                        exact zretI M I dX11_counted_107
                      refine lv_icmp_ne (tgt := 103) hx hb dX11_counted_96 (by decide) (fun c24 => ?_) (fun c24 => ?_)
                      · replace e_x22 := zif_t e_x22 c24
                        refine lv_iconst (v := (0 : Int32)) hx hb dX11_counted_103 (by decide) ?_
                        obtain rfl := Option.some.inj e_x22
                        exact K_x22 ls _ _ (lv_sub hl [] rfl) I
                      · replace e_x22 := zif_f e_x22 (fun hq => hq c24)
                        refine lv_iconst (v := (1 : Int32)) hx hb dX11_counted_99 (by decide) ?_
                        refine lv_goto (tgt := 104) hx hb dX11_counted_100 (by decide) ?_
                        obtain rfl := Option.some.inj e_x22
                        exact K_x22 ls _ _ (lv_sub hl [] rfl) I
                    · replace hr := zif_f hr c21
                      by_cases c25 : a1 = (10 : Int32)
                      · replace hr := zif_t hr c25
                        refine lv_tableIn (tgt := 108) hx hb dX11_counted_1 (by rw [c25]; decide) (by rw [c25]; decide) (by rw [c25]; try rfl) (by decide) ?_
                        refine lv_aload_n hx hb dX11_counted_108 rfl (lv_at hl 0 rfl) ?_
                        obtain ⟨x26, e_x26, hr⟩ := zb_some hr
                        refine zcallI M I (zrunV (as := []) M I (c_X11_likeOnes l g fu e_x26) zc_103 zK11.1 (by decide) zlv_X11_216 ⟨Nat.le_of_ble_eq_true rfl, Nat.le_of_ble_eq_true rfl⟩ ⟨Nat.zero_le _, Nat.zero_le _⟩ rfl rfl (Nat.le_of_ble_eq_true rfl) hl.1 dX11_counted_109) (fun H locs I => ?_)
                        obtain rfl := Option.some.inj hr
                        exact zretI M I dX11_counted_112
                      · replace hr := zif_f hr c25
                        by_cases c27 : a1 = (11 : Int32)
                        · replace hr := zif_t hr c27
                          refine lv_tableIn (tgt := 113) hx hb dX11_counted_1 (by rw [c27]; decide) (by rw [c27]; decide) (by rw [c27]; try rfl) (by decide) ?_
                          refine lv_aload_n hx hb dX11_counted_113 rfl (lv_at hl 0 rfl) ?_
                          refine lv_iload_n hx hb dX11_counted_114 rfl (lv_at hl 1 rfl) ?_
                          refine lv_bipush (v := (11 : Int32)) hx hb dX11_counted_115 (by decide) ?_
                          refine lv_isub hx hb dX11_counted_117 ?_
                          obtain ⟨x28, e_x28, hr⟩ := zb_some hr
                          refine zcallI M I (zrunV (as := [.int (a1 - (11 : Int32))]) M I (c_X11_leftOut l g fu e_x28) zc_103 zK11.1 (by decide) zlv_X11_219 ⟨Nat.le_of_ble_eq_true rfl, Nat.le_of_ble_eq_true rfl⟩ ⟨Nat.zero_le _, Nat.zero_le _⟩ rfl rfl (Nat.le_of_ble_eq_true rfl) hl.1 dX11_counted_118) (fun H locs I => ?_)
                          obtain rfl := Option.some.inj hr
                          exact zretI M I dX11_counted_121
                        · replace hr := zif_f hr c27
                          by_cases c29 : a1 = (12 : Int32)
                          · replace hr := zif_t hr c29
                            refine lv_tableIn (tgt := 113) hx hb dX11_counted_1 (by rw [c29]; decide) (by rw [c29]; decide) (by rw [c29]; try rfl) (by decide) ?_
                            refine lv_aload_n hx hb dX11_counted_113 rfl (lv_at hl 0 rfl) ?_
                            refine lv_iload_n hx hb dX11_counted_114 rfl (lv_at hl 1 rfl) ?_
                            refine lv_bipush (v := (11 : Int32)) hx hb dX11_counted_115 (by decide) ?_
                            refine lv_isub hx hb dX11_counted_117 ?_
                            obtain ⟨x30, e_x30, hr⟩ := zb_some hr
                            refine zcallI M I (zrunV (as := [.int (a1 - (11 : Int32))]) M I (c_X11_leftOut l g fu e_x30) zc_103 zK11.1 (by decide) zlv_X11_219 ⟨Nat.le_of_ble_eq_true rfl, Nat.le_of_ble_eq_true rfl⟩ ⟨Nat.zero_le _, Nat.zero_le _⟩ rfl rfl (Nat.le_of_ble_eq_true rfl) hl.1 dX11_counted_118) (fun H locs I => ?_)
                            obtain rfl := Option.some.inj hr
                            exact zretI M I dX11_counted_121
                          · replace hr := zif_f hr c29
                            by_cases c31 : a1 = (13 : Int32)
                            · replace hr := zif_t hr c31
                              refine lv_tableIn (tgt := 122) hx hb dX11_counted_1 (by rw [c31]; decide) (by rw [c31]; decide) (by rw [c31]; try rfl) (by decide) ?_
                              refine lv_aload_n hx hb dX11_counted_122 rfl (lv_at hl 0 rfl) ?_
                              refine zgetR (j := 107) M I zc_103 zfl_X11_19 dX11_counted_123 rfl ?_
                              refine lv_iconst (v := (0 : Int32)) hx hb dX11_counted_126 (by decide) ?_
                              obtain ⟨x32, e_x32, hr⟩ := zb_some hr
                              refine ziald M I zc_107 e_x32 dX11_counted_127 ?_
                              refine lv_aload_n hx hb dX11_counted_128 rfl (lv_at hl 0 rfl) ?_
                              refine zgetR (j := 107) M I zc_103 zfl_X11_19 dX11_counted_129 rfl ?_
                              refine lv_iconst (v := (1 : Int32)) hx hb dX11_counted_132 (by decide) ?_
                              obtain ⟨x33, e_x33, hr⟩ := zb_some hr
                              refine ziald M I zc_107 e_x33 dX11_counted_133 ?_
                              refine lv_iadd hx hb dX11_counted_134 ?_
                              obtain rfl := Option.some.inj hr
                              exact zretI M I dX11_counted_135
                            · replace hr := zif_f hr c31
                              by_cases c34 : a1 = (14 : Int32)
                              · replace hr := zif_t hr c34
                                refine lv_tableIn (tgt := 136) hx hb dX11_counted_1 (by rw [c34]; decide) (by rw [c34]; decide) (by rw [c34]; try rfl) (by decide) ?_
                                refine lv_aload_n hx hb dX11_counted_136 rfl (lv_at hl 0 rfl) ?_
                                refine zgetI M I zc_103 zfl_X11_74 dX11_counted_137 ?_
                                obtain rfl := Option.some.inj hr
                                exact zretI M I dX11_counted_140
                              · replace hr := zif_f hr c34
                                refine lv_tableOut (tgt := 141) hx hb dX11_counted_1 (ztab_15 c1 c3 c5 c7 c9 c11 c13 c15 c17 c21 c25 c27 c29 c31 c34) (by decide) ?_
                                refine lv_aload_n hx hb dX11_counted_141 rfl (lv_at hl 0 rfl) ?_
                                refine lv_iload_n hx hb dX11_counted_142 rfl (lv_at hl 1 rfl) ?_
                                obtain ⟨x35, e_x35, hr⟩ := zb_some hr
                                refine zcallI M I (zrunV (as := [.int a1]) M I (c_X11_laidCount l g fu e_x35) zc_103 zK11.1 (by decide) zlv_X11_222 ⟨Nat.le_of_ble_eq_true rfl, Nat.le_of_ble_eq_true rfl⟩ ⟨Nat.zero_le _, Nat.zero_le _⟩ rfl rfl (Nat.le_of_ble_eq_true rfl) hl.1 dX11_counted_143) (fun H locs I => ?_)
                                obtain rfl := Option.some.inj hr
                                exact zretI M I dX11_counted_146
def m_X11_count (fu : Nat) (σ : zmem) (a1 : Int32) : Option (Int32 × zmem) := (m_X11_within fu σ a1 (0 : Int32) (14 : Int32)).bind fun x1 => ((if x1 = 0 then some (1 : Int32) else some (0 : Int32)) : Option (Int32)).bind fun x2 => (if ((zst σ 103 7 x2).1 103 7) ≤ 0 then (m_X11_counted fu (zst σ 103 7 x2) a1).bind fun x3 => some (x3.1, x3.2) else some ((0 : Int32), (zst σ 103 7 x2)))
set_option maxHeartbeats 4000000 in
set_option maxRecDepth 100000 in
theorem c_X11_count (l : Launch) (g : zgeo) (fu : Nat) {σ : zmem} {a1 : Int32} {r : Int32 × zmem} (hr : m_X11_count fu σ a1 = some r) : zCt (zQI g r.1 r.2) l g yX11_count cX11_count 2 (some .int) 8 191 [.ref (zA g 103), .int a1] σ := by
  refine zopen (by decide) (Nat.le_of_ble_eq_true rfl) ?_
  intro p e s m below meth c M ls hl I
  have M : zMC RX11 cX11_count 2 (some .int) g p m c s ([.ref (zA g 103), .int a1] : List Value).toArray meth := M
  have hl : lv_has ls 2 [(0, .ref (zA g 103)), (1, .int a1)] := hl
  generalize ([.ref (zA g 103), .int a1] : List Value).toArray = args at M ⊢
  have hx := M.1.1
  have hb := M.1.2.1
  unfold m_X11_count at hr
  refine lv_aload_n hx hb dX11_count_0 rfl (lv_at hl 0 rfl) ?_
  refine lv_iload_n hx hb dX11_count_1 rfl (lv_at hl 1 rfl) ?_
  refine lv_iconst (v := (0 : Int32)) hx hb dX11_count_2 (by decide) ?_
  refine lv_bipush (v := (14 : Int32)) hx hb dX11_count_3 (by decide) ?_
  obtain ⟨x1, e_x1, hr⟩ := zb_some hr
  refine zcallI M I (zrunS (as := [.int a1, .int (0 : Int32), .int (14 : Int32)]) M I (c_X11_within l g fu e_x1) zls_X11_77 ⟨Nat.le_of_ble_eq_true rfl, Nat.le_of_ble_eq_true rfl⟩ ⟨Nat.zero_le _, Nat.zero_le _⟩ rfl rfl (Nat.le_of_ble_eq_true rfl) hl.1 dX11_count_5) (fun H locs I => ?_)
  obtain ⟨x2, e_x2, hr⟩ := zb_some hr
  have K_x2 : ∀ (ls : Array Slot) (H : Heap) (locs : List Loc), lv_has ls 2 [(0, .ref (zA g 103)), (1, .int a1)] → zIV g σ (zAA g) s.heap H locs → W p l e (zrm 8 191) s m args below meth c H locs 0 0 (MQ below (zQI g r.1 r.2) args s 0 0 (zAA g)) (F0 m 16 ls [.int x2, .ref (zA g 103)]) := by
    intro ls H locs hl I
    refine zputI M I zc_103 zfw_X11_70 dX11_count_16 (fun H locs I => ?_)
    refine lv_aload_n hx hb dX11_count_19 rfl (lv_at hl 0 rfl) ?_
    refine zgetI M I zc_103 zfl_X11_70 dX11_count_20 ?_
    refine lv_if_le (tgt := 30) hx hb dX11_count_23 (by decide) (fun c4 => ?_) (fun c4 => ?_)
    · replace hr := zif_t hr c4
      refine lv_aload_n hx hb dX11_count_30 rfl (lv_at hl 0 rfl) ?_
      refine lv_iload_n hx hb dX11_count_31 rfl (lv_at hl 1 rfl) ?_
      obtain ⟨x3, e_x3, hr⟩ := zb_some hr
      refine zcallI M I (zrunV (as := [.int a1]) M I (c_X11_counted l g fu e_x3) zc_103 zK11.1 (by decide) zlv_X11_225 ⟨Nat.le_of_ble_eq_true rfl, Nat.le_of_ble_eq_true rfl⟩ ⟨Nat.zero_le _, Nat.zero_le _⟩ rfl rfl (Nat.le_of_ble_eq_true rfl) hl.1 dX11_count_32) (fun H locs I => ?_)
      obtain rfl := Option.some.inj hr
      exact zretI M I dX11_count_35
    · replace hr := zif_f hr c4
      refine lv_iconst (v := (0 : Int32)) hx hb dX11_count_26 (by decide) ?_
      refine lv_goto (tgt := 35) hx hb dX11_count_27 (by decide) ?_
      obtain rfl := Option.some.inj hr
      exact zretI M I dX11_count_35
  refine lv_if_eq (tgt := 15) hx hb dX11_count_8 (by decide) (fun c5 => ?_) (fun c5 => ?_)
  · replace e_x2 := zif_t e_x2 c5
    refine lv_iconst (v := (1 : Int32)) hx hb dX11_count_15 (by decide) ?_
    obtain rfl := Option.some.inj e_x2
    exact K_x2 ls _ _ hl I
  · replace e_x2 := zif_f e_x2 c5
    refine lv_iconst (v := (0 : Int32)) hx hb dX11_count_11 (by decide) ?_
    refine lv_goto (tgt := 16) hx hb dX11_count_12 (by decide) ?_
    obtain rfl := Option.some.inj e_x2
    exact K_x2 ls _ _ hl I
def m_X11_setting (fu : Nat) (σ : zmem) (a1 : Int32) : Option (Int32 × zmem) := (m_X11_isSetting fu σ a1).bind fun x1 => ((if x1 = 0 then some (1 : Int32) else some (0 : Int32)) : Option (Int32)).bind fun x2 => (if ((zst σ 103 7 x2).1 103 7) ≤ 0 then (zrd (zst σ 103 7 x2) 104 a1).bind fun x3 => some (x3, (zst σ 103 7 x2)) else some ((0 : Int32), (zst σ 103 7 x2)))
set_option maxHeartbeats 4000000 in
set_option maxRecDepth 100000 in
theorem c_X11_setting (l : Launch) (g : zgeo) (fu : Nat) {σ : zmem} {a1 : Int32} {r : Int32 × zmem} (hr : m_X11_setting fu σ a1 = some r) : zCt (zQI g r.1 r.2) l g yX11_setting cX11_setting 2 (some .int) 2 42 [.ref (zA g 103), .int a1] σ := by
  refine zopen (by decide) (Nat.le_of_ble_eq_true rfl) ?_
  intro p e s m below meth c M ls hl I
  have M : zMC RX11 cX11_setting 2 (some .int) g p m c s ([.ref (zA g 103), .int a1] : List Value).toArray meth := M
  have hl : lv_has ls 2 [(0, .ref (zA g 103)), (1, .int a1)] := hl
  generalize ([.ref (zA g 103), .int a1] : List Value).toArray = args at M ⊢
  have hx := M.1.1
  have hb := M.1.2.1
  unfold m_X11_setting at hr
  refine lv_aload_n hx hb dX11_setting_0 rfl (lv_at hl 0 rfl) ?_
  refine lv_iload_n hx hb dX11_setting_1 rfl (lv_at hl 1 rfl) ?_
  obtain ⟨x1, e_x1, hr⟩ := zb_some hr
  refine zcallI M I (zrunS (as := [.int a1]) M I (c_X11_isSetting l g fu e_x1) zls_X11_159 ⟨Nat.le_of_ble_eq_true rfl, Nat.le_of_ble_eq_true rfl⟩ ⟨Nat.zero_le _, Nat.zero_le _⟩ rfl rfl (Nat.le_of_ble_eq_true rfl) hl.1 dX11_setting_2) (fun H locs I => ?_)
  obtain ⟨x2, e_x2, hr⟩ := zb_some hr
  have K_x2 : ∀ (ls : Array Slot) (H : Heap) (locs : List Loc), lv_has ls 2 [(0, .ref (zA g 103)), (1, .int a1)] → zIV g σ (zAA g) s.heap H locs → W p l e (zrm 2 42) s m args below meth c H locs 0 0 (MQ below (zQI g r.1 r.2) args s 0 0 (zAA g)) (F0 m 13 ls [.int x2, .ref (zA g 103)]) := by
    intro ls H locs hl I
    refine zputI M I zc_103 zfw_X11_70 dX11_setting_13 (fun H locs I => ?_)
    refine lv_aload_n hx hb dX11_setting_16 rfl (lv_at hl 0 rfl) ?_
    refine zgetI M I zc_103 zfl_X11_70 dX11_setting_17 ?_
    refine lv_if_le (tgt := 27) hx hb dX11_setting_20 (by decide) (fun c4 => ?_) (fun c4 => ?_)
    · replace hr := zif_t hr c4
      refine lv_aload_n hx hb dX11_setting_27 rfl (lv_at hl 0 rfl) ?_
      refine zgetR (j := 104) M I zc_103 zfl_X11_7 dX11_setting_28 rfl ?_
      refine lv_iload_n hx hb dX11_setting_31 rfl (lv_at hl 1 rfl) ?_
      obtain ⟨x3, e_x3, hr⟩ := zb_some hr
      refine ziald M I zc_104 e_x3 dX11_setting_32 ?_
      obtain rfl := Option.some.inj hr
      exact zretI M I dX11_setting_33
    · replace hr := zif_f hr c4
      refine lv_iconst (v := (0 : Int32)) hx hb dX11_setting_23 (by decide) ?_
      refine lv_goto (tgt := 33) hx hb dX11_setting_24 (by decide) ?_
      obtain rfl := Option.some.inj hr
      exact zretI M I dX11_setting_33
  refine lv_if_eq (tgt := 12) hx hb dX11_setting_5 (by decide) (fun c5 => ?_) (fun c5 => ?_)
  · replace e_x2 := zif_t e_x2 c5
    refine lv_iconst (v := (1 : Int32)) hx hb dX11_setting_12 (by decide) ?_
    obtain rfl := Option.some.inj e_x2
    exact K_x2 ls _ _ hl I
  · replace e_x2 := zif_f e_x2 c5
    refine lv_iconst (v := (0 : Int32)) hx hb dX11_setting_8 (by decide) ?_
    refine lv_goto (tgt := 13) hx hb dX11_setting_9 (by decide) ?_
    obtain rfl := Option.some.inj e_x2
    exact K_x2 ls _ _ hl I
def m_X11_setThen (fu : Nat) (σ : zmem) (a1 : Int32) (a2 : Int32) : Option (Int32 × zmem) := (zrd σ 104 a1).bind fun x1 => (zwr σ 104 a1 a2).bind fun s2 => (m_X11_costNow fu s2).bind fun x3 => (zwr x3.2 104 a1 x1).bind fun s4 => some (x3.1, s4)
set_option maxHeartbeats 4000000 in
set_option maxRecDepth 100000 in
theorem c_X11_setThen (l : Launch) (g : zgeo) (fu : Nat) {σ : zmem} {a1 : Int32} {a2 : Int32} {r : Int32 × zmem} (hr : m_X11_setThen fu σ a1 a2 = some r) : zCt (zQI g r.1 r.2) l g yX11_setThen cX11_setThen 5 (some .int) 7 169 [.ref (zA g 103), .int a1, .int a2] σ := by
  refine zopen (by decide) (Nat.le_of_ble_eq_true rfl) ?_
  intro p e s m below meth c M ls hl I
  have M : zMC RX11 cX11_setThen 5 (some .int) g p m c s ([.ref (zA g 103), .int a1, .int a2] : List Value).toArray meth := M
  have hl : lv_has ls 5 [(0, .ref (zA g 103)), (1, .int a1), (2, .int a2)] := hl
  generalize ([.ref (zA g 103), .int a1, .int a2] : List Value).toArray = args at M ⊢
  have hx := M.1.1
  have hb := M.1.2.1
  unfold m_X11_setThen at hr
  refine lv_aload_n hx hb dX11_setThen_0 rfl (lv_at hl 0 rfl) ?_
  refine zgetR (j := 104) M I zc_103 zfl_X11_7 dX11_setThen_1 rfl ?_
  refine lv_iload_n hx hb dX11_setThen_4 rfl (lv_at hl 1 rfl) ?_
  obtain ⟨x1, e_x1, hr⟩ := zb_some hr
  refine ziald M I zc_104 e_x1 dX11_setThen_5 ?_
  refine lv_istore_n (lv' := [(3, .int x1), (0, .ref (zA g 103)), (1, .int a1), (2, .int a2)]) hx hb dX11_setThen_6 rfl hl (by decide) rfl (fun ls hl => ?_)
  refine lv_aload_n hx hb dX11_setThen_7 rfl (lv_at hl 1 rfl) ?_
  refine zgetR (j := 104) M I zc_103 zfl_X11_7 dX11_setThen_8 rfl ?_
  refine lv_iload_n hx hb dX11_setThen_11 rfl (lv_at hl 2 rfl) ?_
  refine lv_iload_n hx hb dX11_setThen_12 rfl (lv_at hl 3 rfl) ?_
  obtain ⟨s2, e_s2, hr⟩ := zb_some hr
  refine ziast M I zc_104 e_s2 dX11_setThen_13 (fun H locs I => ?_)
  refine lv_aload_n hx hb dX11_setThen_14 rfl (lv_at hl 1 rfl) ?_
  obtain ⟨x3, e_x3, hr⟩ := zb_some hr
  refine zcallI M I (zrunV (as := []) M I (c_X11_costNow l g fu e_x3) zc_103 zK11.1 (by decide) zlv_X11_206 ⟨Nat.le_of_ble_eq_true rfl, Nat.le_of_ble_eq_true rfl⟩ ⟨Nat.zero_le _, Nat.zero_le _⟩ rfl rfl (Nat.le_of_ble_eq_true rfl) hl.1 dX11_setThen_15) (fun H locs I => ?_)
  refine lv_istore (lv' := [(4, .int x3.1), (3, .int x1), (0, .ref (zA g 103)), (1, .int a1), (2, .int a2)]) hx hb dX11_setThen_18 hl (by decide) rfl (fun ls hl => ?_)
  refine lv_aload_n hx hb dX11_setThen_20 rfl (lv_at hl 2 rfl) ?_
  refine zgetR (j := 104) M I zc_103 zfl_X11_7 dX11_setThen_21 rfl ?_
  refine lv_iload_n hx hb dX11_setThen_24 rfl (lv_at hl 3 rfl) ?_
  refine lv_iload_n hx hb dX11_setThen_25 rfl (lv_at hl 1 rfl) ?_
  obtain ⟨s4, e_s4, hr⟩ := zb_some hr
  refine ziast M I zc_104 e_s4 dX11_setThen_26 (fun H locs I => ?_)
  refine lv_iload hx hb dX11_setThen_27 (lv_at hl 0 rfl) ?_
  obtain rfl := Option.some.inj hr
  exact zretI M I dX11_setThen_29
def m_X11_ifSet (fu : Nat) (σ : zmem) (a1 : Int32) (a2 : Int32) : Option (Int32 × zmem) := (m_X11_isSetting fu σ a1).bind fun x1 => ((if ¬ x1 = 0 then (m_X11_isValue fu σ a1 a2).bind fun x5 => (if x5 = 0 then some (2 : Int32) else some (0 : Int32)) else some (1 : Int32)) : Option (Int32)).bind fun x2 => (if ((zst σ 103 7 x2).1 103 7) ≤ 0 then (m_X11_setThen fu (zst σ 103 7 x2) a1 a2).bind fun x3 => some (x3.1, x3.2) else some ((0 : Int32), (zst σ 103 7 x2)))
set_option maxHeartbeats 4000000 in
set_option maxRecDepth 100000 in
theorem c_X11_ifSet (l : Launch) (g : zgeo) (fu : Nat) {σ : zmem} {a1 : Int32} {a2 : Int32} {r : Int32 × zmem} (hr : m_X11_ifSet fu σ a1 a2 = some r) : zCt (zQI g r.1 r.2) l g yX11_ifSet cX11_ifSet 3 (some .int) 8 193 [.ref (zA g 103), .int a1, .int a2] σ := by
  refine zopen (by decide) (Nat.le_of_ble_eq_true rfl) ?_
  intro p e s m below meth c M ls hl I
  have M : zMC RX11 cX11_ifSet 3 (some .int) g p m c s ([.ref (zA g 103), .int a1, .int a2] : List Value).toArray meth := M
  have hl : lv_has ls 3 [(0, .ref (zA g 103)), (1, .int a1), (2, .int a2)] := hl
  generalize ([.ref (zA g 103), .int a1, .int a2] : List Value).toArray = args at M ⊢
  have hx := M.1.1
  have hb := M.1.2.1
  unfold m_X11_ifSet at hr
  refine lv_aload_n hx hb dX11_ifSet_0 rfl (lv_at hl 0 rfl) ?_
  refine lv_iload_n hx hb dX11_ifSet_1 rfl (lv_at hl 1 rfl) ?_
  obtain ⟨x1, e_x1, hr⟩ := zb_some hr
  refine zcallI M I (zrunS (as := [.int a1]) M I (c_X11_isSetting l g fu e_x1) zls_X11_159 ⟨Nat.le_of_ble_eq_true rfl, Nat.le_of_ble_eq_true rfl⟩ ⟨Nat.zero_le _, Nat.zero_le _⟩ rfl rfl (Nat.le_of_ble_eq_true rfl) hl.1 dX11_ifSet_2) (fun H locs I => ?_)
  obtain ⟨x2, e_x2, hr⟩ := zb_some hr
  have K_x2 : ∀ (ls : Array Slot) (H : Heap) (locs : List Loc), lv_has ls 3 [(0, .ref (zA g 103)), (1, .int a1), (2, .int a2)] → zIV g σ (zAA g) s.heap H locs → W p l e (zrm 8 193) s m args below meth c H locs 0 0 (MQ below (zQI g r.1 r.2) args s 0 0 (zAA g)) (F0 m 25 ls [.int x2, .ref (zA g 103)]) := by
    intro ls H locs hl I
    refine zputI M I zc_103 zfw_X11_70 dX11_ifSet_25 (fun H locs I => ?_)
    refine lv_aload_n hx hb dX11_ifSet_28 rfl (lv_at hl 0 rfl) ?_
    refine zgetI M I zc_103 zfl_X11_70 dX11_ifSet_29 ?_
    refine lv_if_le (tgt := 39) hx hb dX11_ifSet_32 (by decide) (fun c4 => ?_) (fun c4 => ?_)
    · replace hr := zif_t hr c4
      refine lv_aload_n hx hb dX11_ifSet_39 rfl (lv_at hl 0 rfl) ?_
      refine lv_iload_n hx hb dX11_ifSet_40 rfl (lv_at hl 1 rfl) ?_
      refine lv_iload_n hx hb dX11_ifSet_41 rfl (lv_at hl 2 rfl) ?_
      obtain ⟨x3, e_x3, hr⟩ := zb_some hr
      refine zcallI M I (zrunV (as := [.int a1, .int a2]) M I (c_X11_setThen l g fu e_x3) zc_103 zK11.1 (by decide) zlv_X11_228 ⟨Nat.le_of_ble_eq_true rfl, Nat.le_of_ble_eq_true rfl⟩ ⟨Nat.zero_le _, Nat.zero_le _⟩ rfl rfl (Nat.le_of_ble_eq_true rfl) hl.1 dX11_ifSet_42) (fun H locs I => ?_)
      obtain rfl := Option.some.inj hr
      exact zretI M I dX11_ifSet_45
    · replace hr := zif_f hr c4
      refine lv_iconst (v := (0 : Int32)) hx hb dX11_ifSet_35 (by decide) ?_
      refine lv_goto (tgt := 45) hx hb dX11_ifSet_36 (by decide) ?_
      obtain rfl := Option.some.inj hr
      exact zretI M I dX11_ifSet_45
  refine lv_if_ne (tgt := 12) hx hb dX11_ifSet_5 (by decide) (fun c7 => ?_) (fun c7 => ?_)
  · replace e_x2 := zif_t e_x2 c7
    refine lv_iload_n hx hb dX11_ifSet_12 rfl (lv_at hl 1 rfl) ?_
    refine lv_iload_n hx hb dX11_ifSet_13 rfl (lv_at hl 2 rfl) ?_
    obtain ⟨x5, e_x5, e_x2⟩ := zb_some e_x2
    refine zcallI M I (zrunS (as := [.int a1, .int a2]) M I (c_X11_isValue l g fu e_x5) zls_X11_162 ⟨Nat.le_of_ble_eq_true rfl, Nat.le_of_ble_eq_true rfl⟩ ⟨Nat.zero_le _, Nat.zero_le _⟩ rfl rfl (Nat.le_of_ble_eq_true rfl) hl.1 dX11_ifSet_14) (fun H locs I => ?_)
    refine lv_if_eq (tgt := 24) hx hb dX11_ifSet_17 (by decide) (fun c6 => ?_) (fun c6 => ?_)
    · replace e_x2 := zif_t e_x2 c6
      refine lv_iconst (v := (2 : Int32)) hx hb dX11_ifSet_24 (by decide) ?_
      obtain rfl := Option.some.inj e_x2
      exact K_x2 ls _ _ hl I
    · replace e_x2 := zif_f e_x2 c6
      refine lv_iconst (v := (0 : Int32)) hx hb dX11_ifSet_20 (by decide) ?_
      refine lv_goto (tgt := 25) hx hb dX11_ifSet_21 (by decide) ?_
      obtain rfl := Option.some.inj e_x2
      exact K_x2 ls _ _ hl I
  · replace e_x2 := zif_f e_x2 (fun hq => hq c7)
    refine lv_iconst (v := (1 : Int32)) hx hb dX11_ifSet_8 (by decide) ?_
    refine lv_goto (tgt := 25) hx hb dX11_ifSet_9 (by decide) ?_
    obtain rfl := Option.some.inj e_x2
    exact K_x2 ls _ _ hl I
def m_X11_changedThen (fu : Nat) (σ : zmem) (a1 : Int32) (a2 : Int32) (a3 : Int32) : Option (Int32 × zmem) := (m_X11_at fu σ a1 a2).bind fun x1 => (m_X11_lay fu σ a1 a2 a3).bind fun x2 => (m_X11_costNow fu x2).bind fun x3 => (m_X11_lay fu x3.2 a1 a2 x1).bind fun x4 => some (x3.1, x4)
set_option maxHeartbeats 4000000 in
set_option maxRecDepth 100000 in
theorem c_X11_changedThen (l : Launch) (g : zgeo) (fu : Nat) {σ : zmem} {a1 : Int32} {a2 : Int32} {a3 : Int32} {r : Int32 × zmem} (hr : m_X11_changedThen fu σ a1 a2 a3 = some r) : zCt (zQI g r.1 r.2) l g yX11_changedThen cX11_changedThen 6 (some .int) 7 169 [.ref (zA g 103), .int a1, .int a2, .int a3] σ := by
  refine zopen (by decide) (Nat.le_of_ble_eq_true rfl) ?_
  intro p e s m below meth c M ls hl I
  have M : zMC RX11 cX11_changedThen 6 (some .int) g p m c s ([.ref (zA g 103), .int a1, .int a2, .int a3] : List Value).toArray meth := M
  have hl : lv_has ls 6 [(0, .ref (zA g 103)), (1, .int a1), (2, .int a2), (3, .int a3)] := hl
  generalize ([.ref (zA g 103), .int a1, .int a2, .int a3] : List Value).toArray = args at M ⊢
  have hx := M.1.1
  have hb := M.1.2.1
  unfold m_X11_changedThen at hr
  refine lv_aload_n hx hb dX11_changedThen_0 rfl (lv_at hl 0 rfl) ?_
  refine lv_iload_n hx hb dX11_changedThen_1 rfl (lv_at hl 1 rfl) ?_
  refine lv_iload_n hx hb dX11_changedThen_2 rfl (lv_at hl 2 rfl) ?_
  obtain ⟨x1, e_x1, hr⟩ := zb_some hr
  refine zcallI M I (zrunV (as := [.int a1, .int a2]) M I (c_X11_at l g fu e_x1) zc_103 zK11.1 (by decide) zlv_X11_89 ⟨Nat.le_of_ble_eq_true rfl, Nat.le_of_ble_eq_true rfl⟩ ⟨Nat.zero_le _, Nat.zero_le _⟩ rfl rfl (Nat.le_of_ble_eq_true rfl) hl.1 dX11_changedThen_3) (fun H locs I => ?_)
  refine lv_istore (lv' := [(4, .int x1), (0, .ref (zA g 103)), (1, .int a1), (2, .int a2), (3, .int a3)]) hx hb dX11_changedThen_6 hl (by decide) rfl (fun ls hl => ?_)
  refine lv_aload_n hx hb dX11_changedThen_8 rfl (lv_at hl 1 rfl) ?_
  refine lv_iload_n hx hb dX11_changedThen_9 rfl (lv_at hl 2 rfl) ?_
  refine lv_iload_n hx hb dX11_changedThen_10 rfl (lv_at hl 3 rfl) ?_
  refine lv_iload_n hx hb dX11_changedThen_11 rfl (lv_at hl 4 rfl) ?_
  obtain ⟨x2, e_x2, hr⟩ := zb_some hr
  refine zcallU M I (zrunV (as := [.int a1, .int a2, .int a3]) M I (c_X11_lay l g fu e_x2) zc_103 zK11.1 (by decide) zlv_X11_152 ⟨Nat.le_of_ble_eq_true rfl, Nat.le_of_ble_eq_true rfl⟩ ⟨Nat.zero_le _, Nat.zero_le _⟩ rfl rfl (Nat.le_of_ble_eq_true rfl) hl.1 dX11_changedThen_12) (fun H locs I => ?_)
  refine lv_aload_n hx hb dX11_changedThen_15 rfl (lv_at hl 1 rfl) ?_
  obtain ⟨x3, e_x3, hr⟩ := zb_some hr
  refine zcallI M I (zrunV (as := []) M I (c_X11_costNow l g fu e_x3) zc_103 zK11.1 (by decide) zlv_X11_206 ⟨Nat.le_of_ble_eq_true rfl, Nat.le_of_ble_eq_true rfl⟩ ⟨Nat.zero_le _, Nat.zero_le _⟩ rfl rfl (Nat.le_of_ble_eq_true rfl) hl.1 dX11_changedThen_16) (fun H locs I => ?_)
  refine lv_istore (lv' := [(5, .int x3.1), (4, .int x1), (0, .ref (zA g 103)), (1, .int a1), (2, .int a2), (3, .int a3)]) hx hb dX11_changedThen_19 hl (by decide) rfl (fun ls hl => ?_)
  refine lv_aload_n hx hb dX11_changedThen_21 rfl (lv_at hl 2 rfl) ?_
  refine lv_iload_n hx hb dX11_changedThen_22 rfl (lv_at hl 3 rfl) ?_
  refine lv_iload_n hx hb dX11_changedThen_23 rfl (lv_at hl 4 rfl) ?_
  refine lv_iload hx hb dX11_changedThen_24 (lv_at hl 1 rfl) ?_
  obtain ⟨x4, e_x4, hr⟩ := zb_some hr
  refine zcallU M I (zrunV (as := [.int a1, .int a2, .int x1]) M I (c_X11_lay l g fu e_x4) zc_103 zK11.1 (by decide) zlv_X11_152 ⟨Nat.le_of_ble_eq_true rfl, Nat.le_of_ble_eq_true rfl⟩ ⟨Nat.zero_le _, Nat.zero_le _⟩ rfl rfl (Nat.le_of_ble_eq_true rfl) hl.1 dX11_changedThen_26) (fun H locs I => ?_)
  refine lv_iload hx hb dX11_changedThen_29 (lv_at hl 0 rfl) ?_
  obtain rfl := Option.some.inj hr
  exact zretI M I dX11_changedThen_31
def m_X11_ifChanged (fu : Nat) (σ : zmem) (a1 : Int32) (a2 : Int32) (a3 : Int32) : Option (Int32 × zmem) := (m_X11_isPlace fu σ a1 a2).bind fun x1 => ((if ¬ x1 = 0 then (m_X11_isSign fu σ a3).bind fun x5 => (if x5 = 0 then some (2 : Int32) else some (0 : Int32)) else some (1 : Int32)) : Option (Int32)).bind fun x2 => (if ((zst σ 103 7 x2).1 103 7) ≤ 0 then (m_X11_changedThen fu (zst σ 103 7 x2) a1 a2 a3).bind fun x3 => some (x3.1, x3.2) else some ((0 : Int32), (zst σ 103 7 x2)))
set_option maxHeartbeats 4000000 in
set_option maxRecDepth 100000 in
theorem c_X11_ifChanged (l : Launch) (g : zgeo) (fu : Nat) {σ : zmem} {a1 : Int32} {a2 : Int32} {a3 : Int32} {r : Int32 × zmem} (hr : m_X11_ifChanged fu σ a1 a2 a3 = some r) : zCt (zQI g r.1 r.2) l g yX11_ifChanged cX11_ifChanged 4 (some .int) 8 194 [.ref (zA g 103), .int a1, .int a2, .int a3] σ := by
  refine zopen (by decide) (Nat.le_of_ble_eq_true rfl) ?_
  intro p e s m below meth c M ls hl I
  have M : zMC RX11 cX11_ifChanged 4 (some .int) g p m c s ([.ref (zA g 103), .int a1, .int a2, .int a3] : List Value).toArray meth := M
  have hl : lv_has ls 4 [(0, .ref (zA g 103)), (1, .int a1), (2, .int a2), (3, .int a3)] := hl
  generalize ([.ref (zA g 103), .int a1, .int a2, .int a3] : List Value).toArray = args at M ⊢
  have hx := M.1.1
  have hb := M.1.2.1
  unfold m_X11_ifChanged at hr
  refine lv_aload_n hx hb dX11_ifChanged_0 rfl (lv_at hl 0 rfl) ?_
  refine lv_aload_n hx hb dX11_ifChanged_1 rfl (lv_at hl 0 rfl) ?_
  refine lv_iload_n hx hb dX11_ifChanged_2 rfl (lv_at hl 1 rfl) ?_
  refine lv_iload_n hx hb dX11_ifChanged_3 rfl (lv_at hl 2 rfl) ?_
  obtain ⟨x1, e_x1, hr⟩ := zb_some hr
  refine zcallI M I (zrunV (as := [.int a1, .int a2]) M I (c_X11_isPlace l g fu e_x1) zc_103 zK11.1 (by decide) zlv_X11_156 ⟨Nat.le_of_ble_eq_true rfl, Nat.le_of_ble_eq_true rfl⟩ ⟨Nat.zero_le _, Nat.zero_le _⟩ rfl rfl (Nat.le_of_ble_eq_true rfl) hl.1 dX11_ifChanged_4) (fun H locs I => ?_)
  obtain ⟨x2, e_x2, hr⟩ := zb_some hr
  have K_x2 : ∀ (ls : Array Slot) (H : Heap) (locs : List Loc), lv_has ls 4 [(0, .ref (zA g 103)), (1, .int a1), (2, .int a2), (3, .int a3)] → zIV g σ (zAA g) s.heap H locs → W p l e (zrm 8 194) s m args below meth c H locs 0 0 (MQ below (zQI g r.1 r.2) args s 0 0 (zAA g)) (F0 m 26 ls [.int x2, .ref (zA g 103)]) := by
    intro ls H locs hl I
    refine zputI M I zc_103 zfw_X11_70 dX11_ifChanged_26 (fun H locs I => ?_)
    refine lv_aload_n hx hb dX11_ifChanged_29 rfl (lv_at hl 0 rfl) ?_
    refine zgetI M I zc_103 zfl_X11_70 dX11_ifChanged_30 ?_
    refine lv_if_le (tgt := 40) hx hb dX11_ifChanged_33 (by decide) (fun c4 => ?_) (fun c4 => ?_)
    · replace hr := zif_t hr c4
      refine lv_aload_n hx hb dX11_ifChanged_40 rfl (lv_at hl 0 rfl) ?_
      refine lv_iload_n hx hb dX11_ifChanged_41 rfl (lv_at hl 1 rfl) ?_
      refine lv_iload_n hx hb dX11_ifChanged_42 rfl (lv_at hl 2 rfl) ?_
      refine lv_iload_n hx hb dX11_ifChanged_43 rfl (lv_at hl 3 rfl) ?_
      obtain ⟨x3, e_x3, hr⟩ := zb_some hr
      refine zcallI M I (zrunV (as := [.int a1, .int a2, .int a3]) M I (c_X11_changedThen l g fu e_x3) zc_103 zK11.1 (by decide) zlv_X11_231 ⟨Nat.le_of_ble_eq_true rfl, Nat.le_of_ble_eq_true rfl⟩ ⟨Nat.zero_le _, Nat.zero_le _⟩ rfl rfl (Nat.le_of_ble_eq_true rfl) hl.1 dX11_ifChanged_44) (fun H locs I => ?_)
      obtain rfl := Option.some.inj hr
      exact zretI M I dX11_ifChanged_47
    · replace hr := zif_f hr c4
      refine lv_iconst (v := (0 : Int32)) hx hb dX11_ifChanged_36 (by decide) ?_
      refine lv_goto (tgt := 47) hx hb dX11_ifChanged_37 (by decide) ?_
      obtain rfl := Option.some.inj hr
      exact zretI M I dX11_ifChanged_47
  refine lv_if_ne (tgt := 14) hx hb dX11_ifChanged_7 (by decide) (fun c7 => ?_) (fun c7 => ?_)
  · replace e_x2 := zif_t e_x2 c7
    refine lv_iload_n hx hb dX11_ifChanged_14 rfl (lv_at hl 3 rfl) ?_
    obtain ⟨x5, e_x5, e_x2⟩ := zb_some e_x2
    refine zcallI M I (zrunS (as := [.int a3]) M I (c_X11_isSign l g fu e_x5) zls_X11_146 ⟨Nat.le_of_ble_eq_true rfl, Nat.le_of_ble_eq_true rfl⟩ ⟨Nat.zero_le _, Nat.zero_le _⟩ rfl rfl (Nat.le_of_ble_eq_true rfl) hl.1 dX11_ifChanged_15) (fun H locs I => ?_)
    refine lv_if_eq (tgt := 25) hx hb dX11_ifChanged_18 (by decide) (fun c6 => ?_) (fun c6 => ?_)
    · replace e_x2 := zif_t e_x2 c6
      refine lv_iconst (v := (2 : Int32)) hx hb dX11_ifChanged_25 (by decide) ?_
      obtain rfl := Option.some.inj e_x2
      exact K_x2 ls _ _ hl I
    · replace e_x2 := zif_f e_x2 c6
      refine lv_iconst (v := (0 : Int32)) hx hb dX11_ifChanged_21 (by decide) ?_
      refine lv_goto (tgt := 26) hx hb dX11_ifChanged_22 (by decide) ?_
      obtain rfl := Option.some.inj e_x2
      exact K_x2 ls _ _ hl I
  · replace e_x2 := zif_f e_x2 (fun hq => hq c7)
    refine lv_iconst (v := (1 : Int32)) hx hb dX11_ifChanged_10 (by decide) ?_
    refine lv_goto (tgt := 26) hx hb dX11_ifChanged_11 (by decide) ?_
    obtain rfl := Option.some.inj e_x2
    exact K_x2 ls _ _ hl I
def l_X11_bestNow_11 (fu : Nat) : Nat → Int32 → Int32 → Int32 → zmem → Option (Int32 × zmem)
  | 0, _, _, _, _ => none
  | n + 1, v1, v2, v3, σ => (if v3 ≤ (1 : Int32) then some (v1, σ) else (m_X11_setThen fu σ (0 : Int32) v3).bind fun x2 => ((if v2 ≤ x2.1 then some v1 else some v3) : Option (Int32)).bind fun x3 => ((if v2 ≤ x2.1 then some v2 else some x2.1) : Option (Int32)).bind fun x4 => l_X11_bestNow_11 fu n x3 x4 (v3 - 1) x2.2)
set_option maxHeartbeats 4000000 in
set_option maxRecDepth 100000 in
theorem k_X11_bestNow_11 {l : Launch} {g : zgeo} {fu : Nat} {p : Program} {e : Env} {s : State} {m : MethodId} {args : Array Value} {below : List Frame} {meth : Method} {c : Code} (M : zMC RX11 cX11_bestNow 5 (some .int) g p m c s args meth) {Q : State → Prop} : ∀ (n : Nat) (v1 : Int32) (v2 : Int32) (v3 : Int32) (σ : zmem) (o : Int32 × zmem), l_X11_bestNow_11 fu n v1 v2 v3 σ = some o → ∀ (ls : Array Slot) (H : Heap) (locs : List Loc), lv_has ls 5 [(0, .ref (zA g 103)), (1, .int v1), (2, .int v2), (3, .int v3)] → zIV g σ (zAA g) s.heap H locs → (∀ (ls : Array Slot) (H : Heap) (locs : List Loc), lv_has ls 5 [(1, .int o.1)] → zIV g o.2 (zAA g) s.heap H locs → W p l e (zrm 8 193) s m args below meth c H locs 0 0 Q (F0 m 55 ls [])) → W p l e (zrm 8 193) s m args below meth c H locs 0 0 Q (F0 m 11 ls []) := by
  have hx := M.1.1
  have hb := M.1.2.1
  intro n
  induction n with
  | zero =>
    intro v1 v2 v3 σ o hr ls H locs hl I KF
    have hr : (none : Option (Int32 × zmem)) = some o := hr
    cases hr
  | succ n ih =>
    intro v1 v2 v3 σ o hr ls H locs hl I KF
    rw [l_X11_bestNow_11] at hr
    refine lv_iload_n hx hb dX11_bestNow_11 rfl (lv_at hl 3 rfl) ?_
    refine lv_iconst (v := (1 : Int32)) hx hb dX11_bestNow_12 (by decide) ?_
    refine lv_icmp_le (tgt := 55) hx hb dX11_bestNow_13 (by decide) (fun c7 => ?_) (fun c7 => ?_)
    · replace hr := zif_t hr c7
      obtain rfl := Option.some.inj hr
      exact KF ls _ _ (lv_sub hl [1] rfl) I
    · replace hr := zif_f hr c7
      refine lv_aload_n hx hb dX11_bestNow_16 rfl (lv_at hl 0 rfl) ?_
      refine lv_iconst (v := (0 : Int32)) hx hb dX11_bestNow_17 (by decide) ?_
      refine lv_iload_n hx hb dX11_bestNow_18 rfl (lv_at hl 3 rfl) ?_
      obtain ⟨x2, e_x2, hr⟩ := zb_some hr
      refine zcallI M I (zrunV (as := [.int (0 : Int32), .int v3]) M I (c_X11_setThen l g fu e_x2) zc_103 zK11.1 (by decide) zlv_X11_228 ⟨Nat.le_of_ble_eq_true rfl, Nat.le_of_ble_eq_true rfl⟩ ⟨Nat.zero_le _, Nat.zero_le _⟩ rfl rfl (Nat.le_of_ble_eq_true rfl) hl.1 dX11_bestNow_19) (fun H locs I => ?_)
      refine lv_istore (lv' := [(4, .int x2.1), (0, .ref (zA g 103)), (1, .int v1), (2, .int v2), (3, .int v3)]) hx hb dX11_bestNow_22 hl (by decide) rfl (fun ls hl => ?_)
      refine lv_iload hx hb dX11_bestNow_24 (lv_at hl 0 rfl) ?_
      refine lv_iload_n hx hb dX11_bestNow_26 rfl (lv_at hl 3 rfl) ?_
      obtain ⟨x3, e_x3, hr⟩ := zb_some hr
      have K_x3 : ∀ (ls : Array Slot) (H : Heap) (locs : List Loc), lv_has ls 5 [(0, .ref (zA g 103)), (2, .int v2), (3, .int v3), (4, .int x2.1)] → zIV g x2.2 (zAA g) s.heap H locs → W p l e (zrm 8 193) s m args below meth c H locs 0 0 Q (F0 m 35 ls [.int x3]) := by
        intro ls H locs hl I
        refine lv_istore_n (lv' := [(1, .int x3), (0, .ref (zA g 103)), (2, .int v2), (3, .int v3), (4, .int x2.1)]) hx hb dX11_bestNow_35 rfl hl (by decide) rfl (fun ls hl => ?_)
        refine lv_iload hx hb dX11_bestNow_36 (lv_at hl 4 rfl) ?_
        refine lv_iload_n hx hb dX11_bestNow_38 rfl (lv_at hl 2 rfl) ?_
        obtain ⟨x4, e_x4, hr⟩ := zb_some hr
        have K_x4 : ∀ (ls : Array Slot) (H : Heap) (locs : List Loc), lv_has ls 5 [(0, .ref (zA g 103)), (1, .int x3), (3, .int v3)] → zIV g x2.2 (zAA g) s.heap H locs → W p l e (zrm 8 193) s m args below meth c H locs 0 0 Q (F0 m 48 ls [.int x4]) := by
          intro ls H locs hl I
          refine lv_istore_n (lv' := [(2, .int x4), (0, .ref (zA g 103)), (1, .int x3), (3, .int v3)]) hx hb dX11_bestNow_48 rfl hl (by decide) rfl (fun ls hl => ?_)
          refine lv_iinc (lv' := [(3, .int (v3 - 1)), (2, .int x4), (0, .ref (zA g 103)), (1, .int x3)]) (k := 3) (v := (v3 - 1)) hx hb dX11_bestNow_49 hl rfl (zi_m1 _) (by decide) rfl (fun ls hl => ?_)
          refine lv_goto (tgt := 11) hx hb dX11_bestNow_52 (by decide) ?_
          exact ih _ _ _ _  _ hr ls _ _ (lv_sub hl [2, 3, 1, 0] rfl) I KF
        refine lv_icmp_ge (tgt := 47) hx hb dX11_bestNow_39 (by decide) (fun c5 => ?_) (fun c5 => ?_)
        · replace e_x4 := zif_t e_x4 c5
          refine lv_iload_n hx hb dX11_bestNow_47 rfl (lv_at hl 2 rfl) ?_
          obtain rfl := Option.some.inj e_x4
          exact K_x4 ls _ _ (lv_sub hl [1, 0, 3] rfl) I
        · replace e_x4 := zif_f e_x4 c5
          refine lv_iload hx hb dX11_bestNow_42 (lv_at hl 4 rfl) ?_
          refine lv_goto (tgt := 48) hx hb dX11_bestNow_44 (by decide) ?_
          obtain rfl := Option.some.inj e_x4
          exact K_x4 ls _ _ (lv_sub hl [1, 0, 3] rfl) I
      refine lv_icmp_ge (tgt := 34) hx hb dX11_bestNow_27 (by decide) (fun c6 => ?_) (fun c6 => ?_)
      · replace e_x3 := zif_t e_x3 c6
        refine lv_iload_n hx hb dX11_bestNow_34 rfl (lv_at hl 2 rfl) ?_
        obtain rfl := Option.some.inj e_x3
        exact K_x3 ls _ _ (lv_sub hl [1, 3, 4, 0] rfl) I
      · replace e_x3 := zif_f e_x3 c6
        refine lv_iload_n hx hb dX11_bestNow_30 rfl (lv_at hl 4 rfl) ?_
        refine lv_goto (tgt := 35) hx hb dX11_bestNow_31 (by decide) ?_
        obtain rfl := Option.some.inj e_x3
        exact K_x3 ls _ _ (lv_sub hl [1, 3, 4, 0] rfl) I
def m_X11_bestNow (fu : Nat) (σ : zmem) : Option (Int32 × zmem) := (m_X11_setThen fu σ (0 : Int32) (5 : Int32)).bind fun x1 => (l_X11_bestNow_11 fu fu (5 : Int32) x1.1 (4 : Int32) x1.2).bind fun x8 => some (x8.1, x8.2)
set_option maxHeartbeats 4000000 in
set_option maxRecDepth 100000 in
theorem c_X11_bestNow (l : Launch) (g : zgeo) (fu : Nat) {σ : zmem} {r : Int32 × zmem} (hr : m_X11_bestNow fu σ = some r) : zCt (zQI g r.1 r.2) l g yX11_bestNow cX11_bestNow 5 (some .int) 8 193 [.ref (zA g 103)] σ := by
  refine zopen (by decide) (Nat.le_of_ble_eq_true rfl) ?_
  intro p e s m below meth c M ls hl I
  have M : zMC RX11 cX11_bestNow 5 (some .int) g p m c s ([.ref (zA g 103)] : List Value).toArray meth := M
  have hl : lv_has ls 5 [(0, .ref (zA g 103))] := hl
  generalize ([.ref (zA g 103)] : List Value).toArray = args at M ⊢
  have hx := M.1.1
  have hb := M.1.2.1
  unfold m_X11_bestNow at hr
  refine lv_iconst (v := (5 : Int32)) hx hb dX11_bestNow_0 (by decide) ?_
  refine lv_istore_n (lv' := [(1, .int (5 : Int32)), (0, .ref (zA g 103))]) hx hb dX11_bestNow_1 rfl hl (by decide) rfl (fun ls hl => ?_)
  refine lv_aload_n hx hb dX11_bestNow_2 rfl (lv_at hl 1 rfl) ?_
  refine lv_iconst (v := (0 : Int32)) hx hb dX11_bestNow_3 (by decide) ?_
  refine lv_iconst (v := (5 : Int32)) hx hb dX11_bestNow_4 (by decide) ?_
  obtain ⟨x1, e_x1, hr⟩ := zb_some hr
  refine zcallI M I (zrunV (as := [.int (0 : Int32), .int (5 : Int32)]) M I (c_X11_setThen l g fu e_x1) zc_103 zK11.1 (by decide) zlv_X11_228 ⟨Nat.le_of_ble_eq_true rfl, Nat.le_of_ble_eq_true rfl⟩ ⟨Nat.zero_le _, Nat.zero_le _⟩ rfl rfl (Nat.le_of_ble_eq_true rfl) hl.1 dX11_bestNow_5) (fun H locs I => ?_)
  refine lv_istore_n (lv' := [(2, .int x1.1), (1, .int (5 : Int32)), (0, .ref (zA g 103))]) hx hb dX11_bestNow_8 rfl hl (by decide) rfl (fun ls hl => ?_)
  refine lv_iconst (v := (4 : Int32)) hx hb dX11_bestNow_9 (by decide) ?_
  refine lv_istore_n (lv' := [(3, .int (4 : Int32)), (2, .int x1.1), (1, .int (5 : Int32)), (0, .ref (zA g 103))]) hx hb dX11_bestNow_10 rfl hl (by decide) rfl (fun ls hl => ?_)
  obtain ⟨x8, e_x8, hr⟩ := zb_some hr
  refine k_X11_bestNow_11 M  fu _ _ _ _  _ e_x8 ls _ _ (lv_sub hl [3, 2, 1, 0] rfl) I (fun ls H locs hl I => ?_)
  refine lv_iload_n hx hb dX11_bestNow_55 rfl (lv_at hl 0 rfl) ?_
  obtain rfl := Option.some.inj hr
  exact zretI M I dX11_bestNow_56
def m_X11_bestLength (fu : Nat) (σ : zmem) : Option (Int32 × zmem) := (m_X11_bestNow fu (zst σ 103 7 (0 : Int32))).bind fun x1 => some (x1.1, x1.2)
set_option maxHeartbeats 4000000 in
set_option maxRecDepth 100000 in
theorem c_X11_bestLength (l : Launch) (g : zgeo) (fu : Nat) {σ : zmem} {r : Int32 × zmem} (hr : m_X11_bestLength fu σ = some r) : zCt (zQI g r.1 r.2) l g yX11_bestLength cX11_bestLength 1 (some .int) 9 217 [.ref (zA g 103)] σ := by
  refine zopen (by decide) (Nat.le_of_ble_eq_true rfl) ?_
  intro p e s m below meth c M ls hl I
  have M : zMC RX11 cX11_bestLength 1 (some .int) g p m c s ([.ref (zA g 103)] : List Value).toArray meth := M
  have hl : lv_has ls 1 [(0, .ref (zA g 103))] := hl
  generalize ([.ref (zA g 103)] : List Value).toArray = args at M ⊢
  have hx := M.1.1
  have hb := M.1.2.1
  unfold m_X11_bestLength at hr
  refine lv_aload_n hx hb dX11_bestLength_0 rfl (lv_at hl 0 rfl) ?_
  refine lv_iconst (v := (0 : Int32)) hx hb dX11_bestLength_1 (by decide) ?_
  refine zputI M I zc_103 zfw_X11_70 dX11_bestLength_2 (fun H locs I => ?_)
  refine lv_aload_n hx hb dX11_bestLength_5 rfl (lv_at hl 0 rfl) ?_
  obtain ⟨x1, e_x1, hr⟩ := zb_some hr
  refine zcallI M I (zrunV (as := []) M I (c_X11_bestNow l g fu e_x1) zc_103 zK11.1 (by decide) zlv_X11_234 ⟨Nat.le_of_ble_eq_true rfl, Nat.le_of_ble_eq_true rfl⟩ ⟨Nat.zero_le _, Nat.zero_le _⟩ rfl rfl (Nat.le_of_ble_eq_true rfl) hl.1 dX11_bestLength_6) (fun H locs I => ?_)
  obtain rfl := Option.some.inj hr
  exact zretI M I dX11_bestLength_9
def m_X11_share (fu : Nat) (σ : zmem) : Option (UInt64 × zmem) := (m_X11_signs fu σ (0 : Int32)).bind fun x1 => (m_X11_signs fu σ (1 : Int32)).bind fun x2 => (if ¬ (x1 + x2) = 0 then (m_X11_likeOnes fu σ).bind fun x3 => (zdn (FP.dmul (FP.i2d x3.1) (4611686018427387904 : UInt64))).bind fun q4 => (zdn (FP.ddiv (FP.dmul (FP.i2d x3.1) (4611686018427387904 : UInt64)) (FP.i2d (x1 + x2)))).bind fun q5 => some ((FP.ddiv (FP.dmul (FP.i2d x3.1) (4611686018427387904 : UInt64)) (FP.i2d (x1 + x2))), x3.2) else some (FP.dconst1, σ))
set_option maxHeartbeats 4000000 in
set_option maxRecDepth 100000 in
theorem c_X11_share (l : Launch) (g : zgeo) (fu : Nat) {σ : zmem} {r : UInt64 × zmem} (hr : m_X11_share fu σ = some r) : zCt (zQD g r.1 r.2) l g yX11_share cX11_share 2 (some .double) 7 169 [.ref (zA g 103)] σ := by
  refine zopen (by decide) (Nat.le_of_ble_eq_true rfl) ?_
  intro p e s m below meth c M ls hl I
  have M : zMC RX11 cX11_share 2 (some .double) g p m c s ([.ref (zA g 103)] : List Value).toArray meth := M
  have hl : lv_has ls 2 [(0, .ref (zA g 103))] := hl
  generalize ([.ref (zA g 103)] : List Value).toArray = args at M ⊢
  have hx := M.1.1
  have hb := M.1.2.1
  unfold m_X11_share at hr
  refine lv_aload_n hx hb dX11_share_0 rfl (lv_at hl 0 rfl) ?_
  refine lv_iconst (v := (0 : Int32)) hx hb dX11_share_1 (by decide) ?_
  obtain ⟨x1, e_x1, hr⟩ := zb_some hr
  refine zcallI M I (zrunV (as := [.int (0 : Int32)]) M I (c_X11_signs l g fu e_x1) zc_103 zK11.1 (by decide) zlv_X11_85 ⟨Nat.le_of_ble_eq_true rfl, Nat.le_of_ble_eq_true rfl⟩ ⟨Nat.zero_le _, Nat.zero_le _⟩ rfl rfl (Nat.le_of_ble_eq_true rfl) hl.1 dX11_share_2) (fun H locs I => ?_)
  refine lv_aload_n hx hb dX11_share_5 rfl (lv_at hl 0 rfl) ?_
  refine lv_iconst (v := (1 : Int32)) hx hb dX11_share_6 (by decide) ?_
  obtain ⟨x2, e_x2, hr⟩ := zb_some hr
  refine zcallI M I (zrunV (as := [.int (1 : Int32)]) M I (c_X11_signs l g fu e_x2) zc_103 zK11.1 (by decide) zlv_X11_85 ⟨Nat.le_of_ble_eq_true rfl, Nat.le_of_ble_eq_true rfl⟩ ⟨Nat.zero_le _, Nat.zero_le _⟩ rfl rfl (Nat.le_of_ble_eq_true rfl) hl.1 dX11_share_7) (fun H locs I => ?_)
  refine lv_iadd hx hb dX11_share_10 ?_
  refine lv_istore_n (lv' := [(1, .int (x1 + x2)), (0, .ref (zA g 103))]) hx hb dX11_share_11 rfl hl (by decide) rfl (fun ls hl => ?_)
  refine lv_iload_n hx hb dX11_share_12 rfl (lv_at hl 0 rfl) ?_
  refine lv_if_ne (tgt := 20) hx hb dX11_share_13 (by decide) (fun c6 => ?_) (fun c6 => ?_)
  · replace hr := zif_t hr c6
    refine lv_aload_n hx hb dX11_share_20 rfl (lv_at hl 1 rfl) ?_
    obtain ⟨x3, e_x3, hr⟩ := zb_some hr
    refine zcallI M I (zrunV (as := []) M I (c_X11_likeOnes l g fu e_x3) zc_103 zK11.1 (by decide) zlv_X11_216 ⟨Nat.le_of_ble_eq_true rfl, Nat.le_of_ble_eq_true rfl⟩ ⟨Nat.zero_le _, Nat.zero_le _⟩ rfl rfl (Nat.le_of_ble_eq_true rfl) hl.1 dX11_share_21) (fun H locs I => ?_)
    refine lv_i2d hx hb dX11_share_24 ?_
    refine lv_ldc2d (own := RX11) (v := 4611686018427387904) hx hb M.1.2.2.2.1 (M.1.2.2.2.2 _ (zin (i := 1424) (by decide +kernel) rfl)) dX11_share_25 ?_
    obtain ⟨q4, e_q4, hr⟩ := zb_some hr
    refine lv_dmul hx hb dX11_share_28 (zdn_some e_q4).1 ?_
    refine lv_iload_n hx hb dX11_share_29 rfl (lv_at hl 0 rfl) ?_
    refine lv_i2d hx hb dX11_share_30 ?_
    obtain ⟨q5, e_q5, hr⟩ := zb_some hr
    refine lv_ddiv hx hb dX11_share_31 (zdn_some e_q5).1 ?_
    obtain rfl := Option.some.inj hr
    exact zretD M I dX11_share_32
  · replace hr := zif_f hr (fun hq => hq c6)
    refine lv_dconst1 hx hb dX11_share_16 ?_
    refine lv_goto (tgt := 32) hx hb dX11_share_17 (by decide) ?_
    obtain rfl := Option.some.inj hr
    exact zretD M I dX11_share_32
def m_X11_likeShare (fu : Nat) (σ : zmem) : Option (UInt64 × zmem) := (m_X11_share fu (zst σ 103 7 (0 : Int32))).bind fun x1 => some (x1.1, x1.2)
set_option maxHeartbeats 4000000 in
set_option maxRecDepth 100000 in
theorem c_X11_likeShare (l : Launch) (g : zgeo) (fu : Nat) {σ : zmem} {r : UInt64 × zmem} (hr : m_X11_likeShare fu σ = some r) : zCt (zQD g r.1 r.2) l g yX11_likeShare cX11_likeShare 1 (some .double) 8 190 [.ref (zA g 103)] σ := by
  refine zopen (by decide) (Nat.le_of_ble_eq_true rfl) ?_
  intro p e s m below meth c M ls hl I
  have M : zMC RX11 cX11_likeShare 1 (some .double) g p m c s ([.ref (zA g 103)] : List Value).toArray meth := M
  have hl : lv_has ls 1 [(0, .ref (zA g 103))] := hl
  generalize ([.ref (zA g 103)] : List Value).toArray = args at M ⊢
  have hx := M.1.1
  have hb := M.1.2.1
  unfold m_X11_likeShare at hr
  refine lv_aload_n hx hb dX11_likeShare_0 rfl (lv_at hl 0 rfl) ?_
  refine lv_iconst (v := (0 : Int32)) hx hb dX11_likeShare_1 (by decide) ?_
  refine zputI M I zc_103 zfw_X11_70 dX11_likeShare_2 (fun H locs I => ?_)
  refine lv_aload_n hx hb dX11_likeShare_5 rfl (lv_at hl 0 rfl) ?_
  obtain ⟨x1, e_x1, hr⟩ := zb_some hr
  refine zcallD M I (zrunV (as := []) M I (c_X11_share l g fu e_x1) zc_103 zK11.1 (by decide) zlv_X11_239 ⟨Nat.le_of_ble_eq_true rfl, Nat.le_of_ble_eq_true rfl⟩ ⟨Nat.zero_le _, Nat.zero_le _⟩ rfl rfl (Nat.le_of_ble_eq_true rfl) hl.1 dX11_likeShare_6) (fun H locs I => ?_)
  obtain rfl := Option.some.inj hr
  exact zretD M I dX11_likeShare_9
def m_X11_mix (fu : Nat) (σ : zmem) (a1 : Int64) : Option (zmem) := some (zsl σ 103 29 (((31 : Int64) * (σ.2 103 29)) + a1))
set_option maxHeartbeats 4000000 in
set_option maxRecDepth 100000 in
theorem c_X11_mix (l : Launch) (g : zgeo) (fu : Nat) {σ : zmem} {a1 : Int64} {r : zmem} (hr : m_X11_mix fu σ a1 = some r) : zCt (zQV g r) l g yX11_mix cX11_mix 3 none 0 0 [.ref (zA g 103), .long a1] σ := by
  refine zopen (by decide) (Nat.le_of_ble_eq_true rfl) ?_
  intro p e s m below meth c M ls hl I
  have M : zMC RX11 cX11_mix 3 none g p m c s ([.ref (zA g 103), .long a1] : List Value).toArray meth := M
  have hl : lv_has ls 3 [(0, .ref (zA g 103)), (1, .long a1)] := hl
  generalize ([.ref (zA g 103), .long a1] : List Value).toArray = args at M ⊢
  have hx := M.1.1
  have hb := M.1.2.1
  unfold m_X11_mix at hr
  refine lv_aload_n hx hb dX11_mix_0 rfl (lv_at hl 0 rfl) ?_
  refine lv_ldc2 (own := RX11) (v := 31) hx hb M.1.2.2.2.1 (M.1.2.2.2.2 _ (zin (i := 1434) (by decide +kernel) rfl)) dX11_mix_1 ?_
  refine lv_aload_n hx hb dX11_mix_4 rfl (lv_at hl 0 rfl) ?_
  refine zgetL M I zc_103 zfl_X11_245 dX11_mix_5 ?_
  refine lv_lmul hx hb dX11_mix_8 ?_
  refine lv_lload_n hx hb dX11_mix_9 rfl (lv_at hl 1 rfl) ?_
  refine lv_ladd hx hb dX11_mix_10 ?_
  refine zputL M I zc_103 zfw_X11_245 dX11_mix_11 (fun H locs I => ?_)
  obtain rfl := Option.some.inj hr
  exact zretV M I dX11_mix_14
def l_X11_mixRow_2 (fu : Nat) (a1 : Int32) : Nat → Int32 → zmem → Option (zmem)
  | 0, _, _ => none
  | n + 1, v2, σ => (m_X11_signs fu σ a1).bind fun x1 => (if x1 ≤ v2 then some σ else (m_X11_at fu σ a1 v2).bind fun x2 => (m_X11_mix fu σ (x2.toInt64)).bind fun x3 => l_X11_mixRow_2 fu a1 n (v2 + 1) x3)
set_option maxHeartbeats 4000000 in
set_option maxRecDepth 100000 in
theorem k_X11_mixRow_2 {l : Launch} {g : zgeo} {fu : Nat} {p : Program} {e : Env} {s : State} {m : MethodId} {args : Array Value} {below : List Frame} {meth : Method} {c : Code} (M : zMC RX11 cX11_mixRow 3 none g p m c s args meth) {a1 : Int32} {Q : State → Prop} : ∀ (n : Nat) (v2 : Int32) (σ : zmem) (o : zmem), l_X11_mixRow_2 fu a1 n v2 σ = some o → ∀ (ls : Array Slot) (H : Heap) (locs : List Loc), lv_has ls 3 [(0, .ref (zA g 103)), (1, .int a1), (2, .int v2)] → zIV g σ (zAA g) s.heap H locs → (∀ (ls : Array Slot) (H : Heap) (locs : List Loc), lv_has ls 3 [(0, .ref (zA g 103)), (1, .int a1)] → zIV g o (zAA g) s.heap H locs → W p l e (zrm 7 169) s m args below meth c H locs 0 0 Q (F0 m 28 ls [])) → W p l e (zrm 7 169) s m args below meth c H locs 0 0 Q (F0 m 2 ls []) := by
  have hx := M.1.1
  have hb := M.1.2.1
  intro n
  induction n with
  | zero =>
    intro v2 σ o hr ls H locs hl I KF
    have hr : (none : Option (zmem)) = some o := hr
    cases hr
  | succ n ih =>
    intro v2 σ o hr ls H locs hl I KF
    rw [l_X11_mixRow_2] at hr
    refine lv_iload_n hx hb dX11_mixRow_2 rfl (lv_at hl 2 rfl) ?_
    refine lv_aload_n hx hb dX11_mixRow_3 rfl (lv_at hl 0 rfl) ?_
    refine lv_iload_n hx hb dX11_mixRow_4 rfl (lv_at hl 1 rfl) ?_
    obtain ⟨x1, e_x1, hr⟩ := zb_some hr
    refine zcallI M I (zrunV (as := [.int a1]) M I (c_X11_signs l g fu e_x1) zc_103 zK11.1 (by decide) zlv_X11_85 ⟨Nat.le_of_ble_eq_true rfl, Nat.le_of_ble_eq_true rfl⟩ ⟨Nat.zero_le _, Nat.zero_le _⟩ rfl rfl (Nat.le_of_ble_eq_true rfl) hl.1 dX11_mixRow_5) (fun H locs I => ?_)
    refine lv_icmp_ge (tgt := 28) hx hb dX11_mixRow_8 (by decide) (fun c4 => ?_) (fun c4 => ?_)
    · replace hr := zif_t hr c4
      obtain rfl := Option.some.inj hr
      exact KF ls _ _ (lv_sub hl [0, 1] rfl) I
    · replace hr := zif_f hr c4
      refine lv_aload_n hx hb dX11_mixRow_11 rfl (lv_at hl 0 rfl) ?_
      refine lv_aload_n hx hb dX11_mixRow_12 rfl (lv_at hl 0 rfl) ?_
      refine lv_iload_n hx hb dX11_mixRow_13 rfl (lv_at hl 1 rfl) ?_
      refine lv_iload_n hx hb dX11_mixRow_14 rfl (lv_at hl 2 rfl) ?_
      obtain ⟨x2, e_x2, hr⟩ := zb_some hr
      refine zcallI M I (zrunV (as := [.int a1, .int v2]) M I (c_X11_at l g fu e_x2) zc_103 zK11.1 (by decide) zlv_X11_89 ⟨Nat.le_of_ble_eq_true rfl, Nat.le_of_ble_eq_true rfl⟩ ⟨Nat.zero_le _, Nat.zero_le _⟩ rfl rfl (Nat.le_of_ble_eq_true rfl) hl.1 dX11_mixRow_15) (fun H locs I => ?_)
      refine lv_i2l (v := (x2.toInt64)) hx hb dX11_mixRow_18 rfl ?_
      obtain ⟨x3, e_x3, hr⟩ := zb_some hr
      refine zcallU M I (zrunV (as := [.long (x2.toInt64)]) M I (c_X11_mix l g fu e_x3) zc_103 zK11.1 (by decide) zlv_X11_249 ⟨Nat.le_of_ble_eq_true rfl, Nat.le_of_ble_eq_true rfl⟩ ⟨Nat.zero_le _, Nat.zero_le _⟩ rfl rfl (Nat.le_of_ble_eq_true rfl) hl.1 dX11_mixRow_19) (fun H locs I => ?_)
      refine lv_iinc (lv' := [(2, .int (v2 + 1)), (0, .ref (zA g 103)), (1, .int a1)]) (k := 2) (v := (v2 + 1)) hx hb dX11_mixRow_22 hl rfl (zi_1 _) (by decide) rfl (fun ls hl => ?_)
      refine lv_goto (tgt := 2) hx hb dX11_mixRow_25 (by decide) ?_
      exact ih _ _  _ hr ls _ _ (lv_sub hl [1, 2, 0] rfl) I KF
def l_X11_mixRow_30 (fu : Nat) (a1 : Int32) : Nat → Int32 → zmem → Option (zmem)
  | 0, _, _ => none
  | n + 1, v2, σ => (m_X11_signs fu σ a1).bind fun x6 => (if x6 ≤ v2 then some σ else (m_X11_partnerNow fu σ a1 v2).bind fun x7 => (m_X11_mix fu x7.2 (x7.1.toInt64)).bind fun x8 => l_X11_mixRow_30 fu a1 n (v2 + 1) x8)
set_option maxHeartbeats 4000000 in
set_option maxRecDepth 100000 in
theorem k_X11_mixRow_30 {l : Launch} {g : zgeo} {fu : Nat} {p : Program} {e : Env} {s : State} {m : MethodId} {args : Array Value} {below : List Frame} {meth : Method} {c : Code} (M : zMC RX11 cX11_mixRow 3 none g p m c s args meth) {a1 : Int32} {Q : State → Prop} : ∀ (n : Nat) (v2 : Int32) (σ : zmem) (o : zmem), l_X11_mixRow_30 fu a1 n v2 σ = some o → ∀ (ls : Array Slot) (H : Heap) (locs : List Loc), lv_has ls 3 [(0, .ref (zA g 103)), (1, .int a1), (2, .int v2)] → zIV g σ (zAA g) s.heap H locs → (∀ (ls : Array Slot) (H : Heap) (locs : List Loc), lv_has ls 3 [(0, .ref (zA g 103)), (1, .int a1)] → zIV g o (zAA g) s.heap H locs → W p l e (zrm 7 169) s m args below meth c H locs 0 0 Q (F0 m 56 ls [])) → W p l e (zrm 7 169) s m args below meth c H locs 0 0 Q (F0 m 30 ls []) := by
  have hx := M.1.1
  have hb := M.1.2.1
  intro n
  induction n with
  | zero =>
    intro v2 σ o hr ls H locs hl I KF
    have hr : (none : Option (zmem)) = some o := hr
    cases hr
  | succ n ih =>
    intro v2 σ o hr ls H locs hl I KF
    rw [l_X11_mixRow_30] at hr
    refine lv_iload_n hx hb dX11_mixRow_30 rfl (lv_at hl 2 rfl) ?_
    refine lv_aload_n hx hb dX11_mixRow_31 rfl (lv_at hl 0 rfl) ?_
    refine lv_iload_n hx hb dX11_mixRow_32 rfl (lv_at hl 1 rfl) ?_
    obtain ⟨x6, e_x6, hr⟩ := zb_some hr
    refine zcallI M I (zrunV (as := [.int a1]) M I (c_X11_signs l g fu e_x6) zc_103 zK11.1 (by decide) zlv_X11_85 ⟨Nat.le_of_ble_eq_true rfl, Nat.le_of_ble_eq_true rfl⟩ ⟨Nat.zero_le _, Nat.zero_le _⟩ rfl rfl (Nat.le_of_ble_eq_true rfl) hl.1 dX11_mixRow_33) (fun H locs I => ?_)
    refine lv_icmp_ge (tgt := 56) hx hb dX11_mixRow_36 (by decide) (fun c9 => ?_) (fun c9 => ?_)
    · replace hr := zif_t hr c9
      obtain rfl := Option.some.inj hr
      exact KF ls _ _ (lv_sub hl [0, 1] rfl) I
    · replace hr := zif_f hr c9
      refine lv_aload_n hx hb dX11_mixRow_39 rfl (lv_at hl 0 rfl) ?_
      refine lv_aload_n hx hb dX11_mixRow_40 rfl (lv_at hl 0 rfl) ?_
      refine lv_iload_n hx hb dX11_mixRow_41 rfl (lv_at hl 1 rfl) ?_
      refine lv_iload_n hx hb dX11_mixRow_42 rfl (lv_at hl 2 rfl) ?_
      obtain ⟨x7, e_x7, hr⟩ := zb_some hr
      refine zcallI M I (zrunV (as := [.int a1, .int v2]) M I (c_X11_partnerNow l g fu e_x7) zc_103 zK11.1 (by decide) zlv_X11_197 ⟨Nat.le_of_ble_eq_true rfl, Nat.le_of_ble_eq_true rfl⟩ ⟨Nat.zero_le _, Nat.zero_le _⟩ rfl rfl (Nat.le_of_ble_eq_true rfl) hl.1 dX11_mixRow_43) (fun H locs I => ?_)
      refine lv_i2l (v := (x7.1.toInt64)) hx hb dX11_mixRow_46 rfl ?_
      obtain ⟨x8, e_x8, hr⟩ := zb_some hr
      refine zcallU M I (zrunV (as := [.long (x7.1.toInt64)]) M I (c_X11_mix l g fu e_x8) zc_103 zK11.1 (by decide) zlv_X11_249 ⟨Nat.le_of_ble_eq_true rfl, Nat.le_of_ble_eq_true rfl⟩ ⟨Nat.zero_le _, Nat.zero_le _⟩ rfl rfl (Nat.le_of_ble_eq_true rfl) hl.1 dX11_mixRow_47) (fun H locs I => ?_)
      refine lv_iinc (lv' := [(2, .int (v2 + 1)), (0, .ref (zA g 103)), (1, .int a1)]) (k := 2) (v := (v2 + 1)) hx hb dX11_mixRow_50 hl rfl (zi_1 _) (by decide) rfl (fun ls hl => ?_)
      refine lv_goto (tgt := 30) hx hb dX11_mixRow_53 (by decide) ?_
      exact ih _ _  _ hr ls _ _ (lv_sub hl [1, 2, 0] rfl) I KF
def l_X11_mixRow_58 (fu : Nat) (a1 : Int32) : Nat → Int32 → zmem → Option (zmem)
  | 0, _, _ => none
  | n + 1, v2, σ => (if (3 : Int32) ≤ v2 then some σ else (m_X11_doubledNow fu σ a1 v2).bind fun x11 => (m_X11_mix fu σ (x11.toInt64)).bind fun x12 => l_X11_mixRow_58 fu a1 n (v2 + 1) x12)
set_option maxHeartbeats 4000000 in
set_option maxRecDepth 100000 in
theorem k_X11_mixRow_58 {l : Launch} {g : zgeo} {fu : Nat} {p : Program} {e : Env} {s : State} {m : MethodId} {args : Array Value} {below : List Frame} {meth : Method} {c : Code} (M : zMC RX11 cX11_mixRow 3 none g p m c s args meth) {a1 : Int32} {Q : State → Prop} : ∀ (n : Nat) (v2 : Int32) (σ : zmem) (o : zmem), l_X11_mixRow_58 fu a1 n v2 σ = some o → ∀ (ls : Array Slot) (H : Heap) (locs : List Loc), lv_has ls 3 [(0, .ref (zA g 103)), (1, .int a1), (2, .int v2)] → zIV g σ (zAA g) s.heap H locs → (∀ (ls : Array Slot) (H : Heap) (locs : List Loc), lv_has ls 3 [] → zIV g o (zAA g) s.heap H locs → W p l e (zrm 7 169) s m args below meth c H locs 0 0 Q (F0 m 80 ls [])) → W p l e (zrm 7 169) s m args below meth c H locs 0 0 Q (F0 m 58 ls []) := by
  have hx := M.1.1
  have hb := M.1.2.1
  intro n
  induction n with
  | zero =>
    intro v2 σ o hr ls H locs hl I KF
    have hr : (none : Option (zmem)) = some o := hr
    cases hr
  | succ n ih =>
    intro v2 σ o hr ls H locs hl I KF
    rw [l_X11_mixRow_58] at hr
    refine lv_iload_n hx hb dX11_mixRow_58 rfl (lv_at hl 2 rfl) ?_
    refine lv_iconst (v := (3 : Int32)) hx hb dX11_mixRow_59 (by decide) ?_
    refine lv_icmp_ge (tgt := 80) hx hb dX11_mixRow_60 (by decide) (fun c13 => ?_) (fun c13 => ?_)
    · replace hr := zif_t hr c13
      obtain rfl := Option.some.inj hr
      exact KF ls _ _ (lv_sub hl [] rfl) I
    · replace hr := zif_f hr c13
      refine lv_aload_n hx hb dX11_mixRow_63 rfl (lv_at hl 0 rfl) ?_
      refine lv_aload_n hx hb dX11_mixRow_64 rfl (lv_at hl 0 rfl) ?_
      refine lv_iload_n hx hb dX11_mixRow_65 rfl (lv_at hl 1 rfl) ?_
      refine lv_iload_n hx hb dX11_mixRow_66 rfl (lv_at hl 2 rfl) ?_
      obtain ⟨x11, e_x11, hr⟩ := zb_some hr
      refine zcallI M I (zrunV (as := [.int a1, .int v2]) M I (c_X11_doubledNow l g fu e_x11) zc_103 zK11.1 (by decide) zlv_X11_203 ⟨Nat.le_of_ble_eq_true rfl, Nat.le_of_ble_eq_true rfl⟩ ⟨Nat.zero_le _, Nat.zero_le _⟩ rfl rfl (Nat.le_of_ble_eq_true rfl) hl.1 dX11_mixRow_67) (fun H locs I => ?_)
      refine lv_i2l (v := (x11.toInt64)) hx hb dX11_mixRow_70 rfl ?_
      obtain ⟨x12, e_x12, hr⟩ := zb_some hr
      refine zcallU M I (zrunV (as := [.long (x11.toInt64)]) M I (c_X11_mix l g fu e_x12) zc_103 zK11.1 (by decide) zlv_X11_249 ⟨Nat.le_of_ble_eq_true rfl, Nat.le_of_ble_eq_true rfl⟩ ⟨Nat.zero_le _, Nat.zero_le _⟩ rfl rfl (Nat.le_of_ble_eq_true rfl) hl.1 dX11_mixRow_71) (fun H locs I => ?_)
      refine lv_iinc (lv' := [(2, .int (v2 + 1)), (0, .ref (zA g 103)), (1, .int a1)]) (k := 2) (v := (v2 + 1)) hx hb dX11_mixRow_74 hl rfl (zi_1 _) (by decide) rfl (fun ls hl => ?_)
      refine lv_goto (tgt := 58) hx hb dX11_mixRow_77 (by decide) ?_
      exact ih _ _  _ hr ls _ _ (lv_sub hl [1, 2, 0] rfl) I KF
def m_X11_mixRow (fu : Nat) (σ : zmem) (a1 : Int32) : Option (zmem) := (l_X11_mixRow_2 fu a1 fu (0 : Int32) σ).bind fun x5 => (l_X11_mixRow_30 fu a1 fu (0 : Int32) x5).bind fun x10 => (l_X11_mixRow_58 fu a1 fu (0 : Int32) x10).bind fun x14 => some x14
set_option maxHeartbeats 4000000 in
set_option maxRecDepth 100000 in
theorem c_X11_mixRow (l : Launch) (g : zgeo) (fu : Nat) {σ : zmem} {a1 : Int32} {r : zmem} (hr : m_X11_mixRow fu σ a1 = some r) : zCt (zQV g r) l g yX11_mixRow cX11_mixRow 3 none 7 169 [.ref (zA g 103), .int a1] σ := by
  refine zopen (by decide) (Nat.le_of_ble_eq_true rfl) ?_
  intro p e s m below meth c M ls hl I
  have M : zMC RX11 cX11_mixRow 3 none g p m c s ([.ref (zA g 103), .int a1] : List Value).toArray meth := M
  have hl : lv_has ls 3 [(0, .ref (zA g 103)), (1, .int a1)] := hl
  generalize ([.ref (zA g 103), .int a1] : List Value).toArray = args at M ⊢
  have hx := M.1.1
  have hb := M.1.2.1
  unfold m_X11_mixRow at hr
  refine lv_iconst (v := (0 : Int32)) hx hb dX11_mixRow_0 (by decide) ?_
  refine lv_istore_n (lv' := [(2, .int (0 : Int32)), (0, .ref (zA g 103)), (1, .int a1)]) hx hb dX11_mixRow_1 rfl hl (by decide) rfl (fun ls hl => ?_)
  obtain ⟨x5, e_x5, hr⟩ := zb_some hr
  refine k_X11_mixRow_2 M  fu _ _  _ e_x5 ls _ _ (lv_sub hl [1, 2, 0] rfl) I (fun ls H locs hl I => ?_)
  refine lv_iconst (v := (0 : Int32)) hx hb dX11_mixRow_28 (by decide) ?_
  refine lv_istore_n (lv' := [(2, .int (0 : Int32)), (0, .ref (zA g 103)), (1, .int a1)]) hx hb dX11_mixRow_29 rfl hl (by decide) rfl (fun ls hl => ?_)
  obtain ⟨x10, e_x10, hr⟩ := zb_some hr
  refine k_X11_mixRow_30 M  fu _ _  _ e_x10 ls _ _ (lv_sub hl [1, 2, 0] rfl) I (fun ls H locs hl I => ?_)
  refine lv_iconst (v := (0 : Int32)) hx hb dX11_mixRow_56 (by decide) ?_
  refine lv_istore_n (lv' := [(2, .int (0 : Int32)), (0, .ref (zA g 103)), (1, .int a1)]) hx hb dX11_mixRow_57 rfl hl (by decide) rfl (fun ls hl => ?_)
  obtain ⟨x14, e_x14, hr⟩ := zb_some hr
  refine k_X11_mixRow_58 M  fu _ _  _ e_x14 ls _ _ (lv_sub hl [1, 2, 0] rfl) I (fun ls H locs hl I => ?_)
  obtain rfl := Option.some.inj hr
  exact zretV M I dX11_mixRow_80
