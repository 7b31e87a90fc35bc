def m_J_isNaN (x : UInt64) : Int32 := if Op.cmpValue (FP.dcmp x x) CmpOp.l = 0 then 0 else 1
def m_J_bits (x : UInt64) : Int64 := if ¬ m_J_isNaN x = 0 then 9221120237041090560 else x.toInt64
theorem zls_Jn : zLS RJxe99ae 122 yJxe99ae_isNaN_b9ae7 cJxe99ae_isNaN_b9ae7 2 (some .boolean) 1 := ⟨⟨(zin (i := 1442) (by decide +kernel) rfl), (zin (i := 1443) (by decide +kernel) rfl), (zin (i := 87) (by decide +kernel) rfl), (zin (i := 1444) (by decide +kernel) rfl)⟩, rfl, by decide, by decide, by decide +kernel⟩
set_option maxHeartbeats 4000000 in
set_option maxRecDepth 100000 in
theorem c_J_isNaN (l : Launch) (g : zgeo) {σ : zmem} {x : UInt64} : zCt (zQI g (m_J_isNaN x) σ) l g yJxe99ae_isNaN_b9ae7 cJxe99ae_isNaN_b9ae7 2 (some .boolean) 0 0 [.double x] σ := by
  refine zopen (by decide) (Nat.le_of_ble_eq_true rfl) ?_
  intro p e s m below meth c M ls hl I
  have M : zMC RJxe99ae cJxe99ae_isNaN_b9ae7 2 (some .boolean) g p m c s ([.double x] : List Value).toArray meth := M
  have hl : lv_has ls 2 [(0, .double x)] := hl
  generalize ([.double x] : List Value).toArray = args at M ⊢
  have hx := M.1.1
  have hb := M.1.2.1
  refine lv_dload_n hx hb dJxe99ae_isNaN_b9ae7_0 rfl (lv_at hl 0 rfl) ?_
  refine lv_dload_n hx hb dJxe99ae_isNaN_b9ae7_1 rfl (lv_at hl 0 rfl) ?_
  refine lv_dcmp hx hb dJxe99ae_isNaN_b9ae7_2 ?_
  refine lv_if_eq (tgt := 10) hx hb dJxe99ae_isNaN_b9ae7_3 (by decide) (fun h => ?_) (fun h => ?_)
  · refine lv_iconst (v := 0) hx hb dJxe99ae_isNaN_b9ae7_10 (by decide) ?_
    rw [show m_J_isNaN x = 0 from if_pos h]
    exact zretZ M I (Or.inl rfl) dJxe99ae_isNaN_b9ae7_11
  · refine lv_iconst (v := 1) hx hb dJxe99ae_isNaN_b9ae7_6 (by decide) ?_
    refine lv_goto (tgt := 11) hx hb dJxe99ae_isNaN_b9ae7_7 (by decide) ?_
    rw [show m_J_isNaN x = 1 from if_neg h]
    exact zretZ M I (Or.inr rfl) dJxe99ae_isNaN_b9ae7_11
set_option maxHeartbeats 4000000 in
set_option maxRecDepth 100000 in
theorem c_J_bits (l : Launch) (g : zgeo) {σ : zmem} {x : UInt64} : zCt (zQL g (m_J_bits x) σ) l g yJxe99ae_doubleToLongBits_ccdee cJxe99ae_doubleToLongBits_ccdee 2 (some .long) 1 21 [.double x] σ := by
  refine zopen (by decide) (Nat.le_of_ble_eq_true rfl) ?_
  intro p e s m below meth c M ls hl I
  have M : zMC RJxe99ae cJxe99ae_doubleToLongBits_ccdee 2 (some .long) g p m c s ([.double x] : List Value).toArray meth := M
  have hl : lv_has ls 2 [(0, .double x)] := hl
  generalize ([.double x] : List Value).toArray = args at M ⊢
  have hx := M.1.1
  have hb := M.1.2.1
  refine lv_dload_n hx hb dJxe99ae_doubleToLongBits_ccdee_0 rfl (lv_at hl 0 rfl) ?_
  refine zcallI M I (zrunS (as := [.double x]) M I (c_J_isNaN l g) zls_Jn ⟨Nat.le_of_ble_eq_true rfl, Nat.le_of_ble_eq_true rfl⟩ ⟨Nat.zero_le _, Nat.zero_le _⟩ rfl rfl (Nat.le_of_ble_eq_true rfl) hl.1 dJxe99ae_doubleToLongBits_ccdee_1) (fun H locs I => ?_)
  refine lv_if_ne (tgt := 12) hx hb dJxe99ae_doubleToLongBits_ccdee_4 (by decide) (fun h => ?_) (fun h => ?_)
  · refine lv_ldc2 (own := RJxe99ae) (v := 9221120237041090560) hx hb M.1.2.2.2.1 (M.1.2.2.2.2 _ (zin (i := 1448) (by decide +kernel) rfl)) dJxe99ae_doubleToLongBits_ccdee_12 ?_
    rw [show m_J_bits x = 9221120237041090560 from if_pos h]
    exact zretL M I dJxe99ae_doubleToLongBits_ccdee_15
  · refine lv_dload_n hx hb dJxe99ae_doubleToLongBits_ccdee_7 rfl (lv_at hl 0 rfl) ?_
    refine vn_d2l (own := RJxe99ae) (index := 134) hx hb (M.1.2.2.1.trans hl.1.symm) M.1.2.2.2.1 (M.1.2.2.2.2 _ (zin (i := 1445) (by decide +kernel) rfl)) (M.1.2.2.2.2 _ (zin (i := 1447) (by decide +kernel) rfl)) (M.1.2.2.2.2 _ (zin (i := 1446) (by decide +kernel) rfl)) (M.1.2.2.2.2 _ (zin (i := 87) (by decide +kernel) rfl)) (Nat.le_of_ble_eq_true rfl) (Nat.le_of_ble_eq_true rfl) dJxe99ae_doubleToLongBits_ccdee_8 ?_
    rw [show m_J_bits x = x.toInt64 from if_neg (fun q => q h)]
    exact zretL M I dJxe99ae_doubleToLongBits_ccdee_11
theorem zrunJ {p : Program} {l : Launch} {e : Env} {R : Room} {s : State} {m : MethodId} {args : Array Value} {below : List Frame} {meth : Method} {c : Code} {H : Heap} {locs : List Loc} {cells slots : Nat} {cc : ByteArray} {nL : Nat} {ret : Option FieldType} {g : zgeo} {σ : zmem} {A : Nat → Prop} {H0 : Heap} {pc : Nat} {ls : Array Slot} {rest : List Value} {x : UInt64}
    (M : zMC RX11 cc nL ret g p m c s args meth) (I : zIV g σ A H0 H locs) (hR : 2 ≤ R.frames ∧ 42 ≤ R.locals) (hcs : cells ≤ R.cells ∧ slots ≤ R.slots) (hcat : (rest.map fun v => v.category).sum ≤ 8) (hls : ls.size = nL) (hdg : decode cc pc = .ok (.invokestatic 259, 3)) :
    va_Run p l e R s m args below meth c H locs cells slots 0 0 (F0 m pc ls (.double x :: rest)) rest (zQL g (m_J_bits x) σ ([.double x] : List Value).toArray) (zAA g) := by
  obtain ⟨⟨hx, hb, hml, hown, hts⟩, -, -, hK, hNw⟩ := M
  refine va_runS ⟨hx, hb, hml, hown, hts⟩ (c_J_bits l g) (va_cwS (index := 259) 1 hts ?_ rfl rfl rfl ⟨by decide, by decide, by decide +kernel⟩ ⟨hR.1, hR.2⟩) ⟨zblind, fun U hU hW => ⟨rfl, zPW_of hK hNw I hU hW⟩⟩ rfl rfl hls rfl (lv_room hcat) hdg hcs
  intro w hw
  refine zbig w ?_
  rcases List.mem_append.mp hw with hw | hw
  · simp only [List.mem_cons, List.not_mem_nil, or_false] at hw
    rcases hw with rfl | rfl | rfl
    · exact (zin (i := 1439) (by decide +kernel) rfl)
    · exact (zin (i := 1440) (by decide +kernel) rfl)
    · exact (zin (i := 87) (by decide +kernel) rfl)
  · rcases List.mem_cons.mp hw with rfl | hw
    · exact (zin (i := 1441) (by decide +kernel) rfl)
    · exact hw
def l_X11_digest_14 (fu : Nat) : Nat → Int32 → zmem → Option (zmem)
  | 0, _, _ => none
  | n + 1, v1, σ => (if (15 : Int32) ≤ v1 then some σ else (m_X11_counted fu σ v1).bind fun x1 => (m_X11_mix fu x1.2 (x1.1.toInt64)).bind fun x2 => l_X11_digest_14 fu n (v1 + 1) x2)
set_option maxHeartbeats 4000000 in
set_option maxRecDepth 100000 in
theorem k_X11_digest_14 {l : Launch} {g : zgeo} {fu : Nat} {p : Program} {e : Env} {s : State} {m : MethodId} {args : Array Value} {below : List Frame} {meth : Method} {c : Code} (M : zMC RX11 cX11_digest 5 (some .long) g p m c s args meth) {Q : State → Prop} : ∀ (n : Nat) (v1 : Int32) (σ : zmem) (o : zmem), l_X11_digest_14 fu n v1 σ = some o → ∀ (ls : Array Slot) (H : Heap) (locs : List Loc), lv_has ls 5 [(0, .ref (zA g 103)), (1, .int v1)] → zIV g σ (zAA g) s.heap H locs → (∀ (ls : Array Slot) (H : Heap) (locs : List Loc), lv_has ls 5 [(0, .ref (zA g 103))] → zIV g o (zAA g) s.heap H locs → W p l e (zrm 9 217) s m args below meth c H locs 0 0 Q (F0 m 36 ls [])) → W p l e (zrm 9 217) s m args below meth c H locs 0 0 Q (F0 m 14 ls []) := by
  have hx := M.1.1
  have hb := M.1.2.1
  intro n
  induction n with
  | zero =>
    intro v1 σ o hr ls H locs hl I KF
    have hr : (none : Option (zmem)) = some o := hr
    cases hr
  | succ n ih =>
    intro v1 σ o hr ls H locs hl I KF
    rw [l_X11_digest_14] at hr
    refine lv_iload_n hx hb dX11_digest_14 rfl (lv_at hl 1 rfl) ?_
    refine lv_bipush (v := (15 : Int32)) hx hb dX11_digest_15 (by decide) ?_
    refine lv_icmp_ge (tgt := 36) hx hb dX11_digest_17 (by decide) (fun c3 => ?_) (fun c3 => ?_)
    · replace hr := zif_t hr c3
      obtain rfl := Option.some.inj hr
      exact KF ls _ _ (lv_sub hl [0] rfl) I
    · replace hr := zif_f hr c3
      refine lv_aload_n hx hb dX11_digest_20 rfl (lv_at hl 0 rfl) ?_
      refine lv_aload_n hx hb dX11_digest_21 rfl (lv_at hl 0 rfl) ?_
      refine lv_iload_n hx hb dX11_digest_22 rfl (lv_at hl 1 rfl) ?_
      obtain ⟨x1, e_x1, hr⟩ := zb_some hr
      refine zcallI M I (zrunV (as := [.int v1]) M I (c_X11_counted l g fu e_x1) zc_103 zK11.1 (by decide) zlv_X11_225 ⟨Nat.le_of_ble_eq_true rfl, Nat.le_of_ble_eq_true rfl⟩ ⟨Nat.zero_le _, Nat.zero_le _⟩ rfl rfl (Nat.le_of_ble_eq_true rfl) hl.1 dX11_digest_23) (fun H locs I => ?_)
      refine lv_i2l (v := (x1.1.toInt64)) hx hb dX11_digest_26 rfl ?_
      obtain ⟨x2, e_x2, hr⟩ := zb_some hr
      refine zcallU M I (zrunV (as := [.long (x1.1.toInt64)]) M I (c_X11_mix l g fu e_x2) zc_103 zK11.1 (by decide) zlv_X11_249 ⟨Nat.le_of_ble_eq_true rfl, Nat.le_of_ble_eq_true rfl⟩ ⟨Nat.zero_le _, Nat.zero_le _⟩ rfl rfl (Nat.le_of_ble_eq_true rfl) hl.1 dX11_digest_27) (fun H locs I => ?_)
      refine lv_iinc (lv' := [(1, .int (v1 + 1)), (0, .ref (zA g 103))]) (k := 1) (v := (v1 + 1)) hx hb dX11_digest_30 hl rfl (zi_1 _) (by decide) rfl (fun ls hl => ?_)
      refine lv_goto (tgt := 14) hx hb dX11_digest_33 (by decide) ?_
      exact ih _ _  _ hr ls _ _ (lv_sub hl [1, 0] rfl) I KF
def l_X11_digest_38 (fu : Nat) : Nat → Int32 → zmem → Option (zmem)
  | 0, _, _ => none
  | n + 1, v1, σ => (if (4 : Int32) ≤ v1 then some σ else (zrd σ 104 v1).bind fun x5 => (m_X11_mix fu σ (x5.toInt64)).bind fun x6 => l_X11_digest_38 fu n (v1 + 1) x6)
set_option maxHeartbeats 4000000 in
set_option maxRecDepth 100000 in
theorem k_X11_digest_38 {l : Launch} {g : zgeo} {fu : Nat} {p : Program} {e : Env} {s : State} {m : MethodId} {args : Array Value} {below : List Frame} {meth : Method} {c : Code} (M : zMC RX11 cX11_digest 5 (some .long) g p m c s args meth) {Q : State → Prop} : ∀ (n : Nat) (v1 : Int32) (σ : zmem) (o : zmem), l_X11_digest_38 fu n v1 σ = some o → ∀ (ls : Array Slot) (H : Heap) (locs : List Loc), lv_has ls 5 [(0, .ref (zA g 103)), (1, .int v1)] → zIV g σ (zAA g) s.heap H locs → (∀ (ls : Array Slot) (H : Heap) (locs : List Loc), lv_has ls 5 [(0, .ref (zA g 103))] → zIV g o (zAA g) s.heap H locs → W p l e (zrm 9 217) s m args below meth c H locs 0 0 Q (F0 m 60 ls [])) → W p l e (zrm 9 217) s m args below meth c H locs 0 0 Q (F0 m 38 ls []) := by
  have hx := M.1.1
  have hb := M.1.2.1
  intro n
  induction n with
  | zero =>
    intro v1 σ o hr ls H locs hl I KF
    have hr : (none : Option (zmem)) = some o := hr
    cases hr
  | succ n ih =>
    intro v1 σ o hr ls H locs hl I KF
    rw [l_X11_digest_38] at hr
    refine lv_iload_n hx hb dX11_digest_38 rfl (lv_at hl 1 rfl) ?_
    refine lv_iconst (v := (4 : Int32)) hx hb dX11_digest_39 (by decide) ?_
    refine lv_icmp_ge (tgt := 60) hx hb dX11_digest_40 (by decide) (fun c7 => ?_) (fun c7 => ?_)
    · replace hr := zif_t hr c7
      obtain rfl := Option.some.inj hr
      exact KF ls _ _ (lv_sub hl [0] rfl) I
    · replace hr := zif_f hr c7
      refine lv_aload_n hx hb dX11_digest_43 rfl (lv_at hl 0 rfl) ?_
      refine lv_aload_n hx hb dX11_digest_44 rfl (lv_at hl 0 rfl) ?_
      refine zgetR (j := 104) M I zc_103 zfl_X11_7 dX11_digest_45 rfl ?_
      refine lv_iload_n hx hb dX11_digest_48 rfl (lv_at hl 1 rfl) ?_
      obtain ⟨x5, e_x5, hr⟩ := zb_some hr
      refine ziald M I zc_104 e_x5 dX11_digest_49 ?_
      refine lv_i2l (v := (x5.toInt64)) hx hb dX11_digest_50 rfl ?_
      obtain ⟨x6, e_x6, hr⟩ := zb_some hr
      refine zcallU M I (zrunV (as := [.long (x5.toInt64)]) M I (c_X11_mix l g fu e_x6) zc_103 zK11.1 (by decide) zlv_X11_249 ⟨Nat.le_of_ble_eq_true rfl, Nat.le_of_ble_eq_true rfl⟩ ⟨Nat.zero_le _, Nat.zero_le _⟩ rfl rfl (Nat.le_of_ble_eq_true rfl) hl.1 dX11_digest_51) (fun H locs I => ?_)
      refine lv_iinc (lv' := [(1, .int (v1 + 1)), (0, .ref (zA g 103))]) (k := 1) (v := (v1 + 1)) hx hb dX11_digest_54 hl rfl (zi_1 _) (by decide) rfl (fun ls hl => ?_)
      refine lv_goto (tgt := 38) hx hb dX11_digest_57 (by decide) ?_
      exact ih _ _  _ hr ls _ _ (lv_sub hl [1, 0] rfl) I KF
def l_X11_digest_81 (fu : Nat) (a1 : Int32) : Nat → Int32 → zmem → Option (zmem)
  | 0, _, _ => none
  | n + 1, v2, σ => (if ((4 : Int32) * a1) ≤ v2 then some σ else (m_X11_anchorNow fu σ (v2 / (4 : Int32)) (v2 - v2 / (4 : Int32) * (4 : Int32))).bind fun x12 => (m_X11_mix fu x12.2 (x12.1.toInt64)).bind fun x13 => l_X11_digest_81 fu a1 n (v2 + 1) x13)
set_option maxHeartbeats 4000000 in
set_option maxRecDepth 100000 in
theorem k_X11_digest_81 {l : Launch} {g : zgeo} {fu : Nat} {p : Program} {e : Env} {s : State} {m : MethodId} {args : Array Value} {below : List Frame} {meth : Method} {c : Code} (M : zMC RX11 cX11_digest 5 (some .long) g p m c s args meth) {a1 : Int32} {Q : State → Prop} : ∀ (n : Nat) (v2 : Int32) (σ : zmem) (o : zmem), l_X11_digest_81 fu a1 n v2 σ = some o → ∀ (ls : Array Slot) (H : Heap) (locs : List Loc), lv_has ls 5 [(0, .ref (zA g 103)), (1, .int a1), (2, .int v2)] → zIV g σ (zAA g) s.heap H locs → (∀ (ls : Array Slot) (H : Heap) (locs : List Loc), lv_has ls 5 [(0, .ref (zA g 103))] → zIV g o (zAA g) s.heap H locs → W p l e (zrm 9 217) s m args below meth c H locs 0 0 Q (F0 m 109 ls [])) → W p l e (zrm 9 217) s m args below meth c H locs 0 0 Q (F0 m 81 ls []) := by
  have hx := M.1.1
  have hb := M.1.2.1
  intro n
  induction n with
  | zero =>
    intro v2 σ o hr ls H locs hl I KF
    have hr : (none : Option (zmem)) = some o := hr
    cases hr
  | succ n ih =>
    intro v2 σ o hr ls H locs hl I KF
    rw [l_X11_digest_81] at hr
    refine lv_iload_n hx hb dX11_digest_81 rfl (lv_at hl 2 rfl) ?_
    refine lv_iconst (v := (4 : Int32)) hx hb dX11_digest_82 (by decide) ?_
    refine lv_iload_n hx hb dX11_digest_83 rfl (lv_at hl 1 rfl) ?_
    refine lv_imul hx hb dX11_digest_84 ?_
    refine lv_icmp_ge (tgt := 109) hx hb dX11_digest_85 (by decide) (fun c14 => ?_) (fun c14 => ?_)
    · replace hr := zif_t hr c14
      obtain rfl := Option.some.inj hr
      exact KF ls _ _ (lv_sub hl [0] rfl) I
    · replace hr := zif_f hr c14
      refine lv_aload_n hx hb dX11_digest_88 rfl (lv_at hl 0 rfl) ?_
      refine lv_aload_n hx hb dX11_digest_89 rfl (lv_at hl 0 rfl) ?_
      refine lv_iload_n hx hb dX11_digest_90 rfl (lv_at hl 2 rfl) ?_
      refine lv_iconst (v := (4 : Int32)) hx hb dX11_digest_91 (by decide) ?_
      refine lv_idiv hx hb dX11_digest_92 (by decide) ?_
      refine lv_iload_n hx hb dX11_digest_93 rfl (lv_at hl 2 rfl) ?_
      refine lv_iconst (v := (4 : Int32)) hx hb dX11_digest_94 (by decide) ?_
      refine lv_irem hx hb dX11_digest_95 (by decide) ?_
      obtain ⟨x12, e_x12, hr⟩ := zb_some hr
      refine zcallI M I (zrunV (as := [.int (v2 / (4 : Int32)), .int (v2 - v2 / (4 : Int32) * (4 : Int32))]) M I (c_X11_anchorNow l g fu e_x12) zc_103 zK11.1 (by decide) zlv_X11_185 ⟨Nat.le_of_ble_eq_true rfl, Nat.le_of_ble_eq_true rfl⟩ ⟨Nat.zero_le _, Nat.zero_le _⟩ rfl rfl (Nat.le_of_ble_eq_true rfl) hl.1 dX11_digest_96) (fun H locs I => ?_)
      refine lv_i2l (v := (x12.1.toInt64)) hx hb dX11_digest_99 rfl ?_
      obtain ⟨x13, e_x13, hr⟩ := zb_some hr
      refine zcallU M I (zrunV (as := [.long (x12.1.toInt64)]) M I (c_X11_mix l g fu e_x13) zc_103 zK11.1 (by decide) zlv_X11_249 ⟨Nat.le_of_ble_eq_true rfl, Nat.le_of_ble_eq_true rfl⟩ ⟨Nat.zero_le _, Nat.zero_le _⟩ rfl rfl (Nat.le_of_ble_eq_true rfl) hl.1 dX11_digest_100) (fun H locs I => ?_)
      refine lv_iinc (lv' := [(2, .int (v2 + 1)), (0, .ref (zA g 103)), (1, .int a1)]) (k := 2) (v := (v2 + 1)) hx hb dX11_digest_103 hl rfl (zi_1 _) (by decide) rfl (fun ls hl => ?_)
      refine lv_goto (tgt := 81) hx hb dX11_digest_106 (by decide) ?_
      exact ih _ _  _ hr ls _ _ (lv_sub hl [1, 2, 0] rfl) I KF
def l_X11_digest_116 (fu : Nat) (a2 : Int32) : Nat → Int32 → zmem → Option (zmem)
  | 0, _, _ => none
  | n + 1, v3, σ => (if ((3 : Int32) * a2) ≤ v3 then some σ else (m_X11_turnedNow fu σ (v3 / (3 : Int32)) (v3 - v3 / (3 : Int32) * (3 : Int32))).bind fun x16 => (m_X11_mix fu x16.2 (x16.1.toInt64)).bind fun x17 => l_X11_digest_116 fu a2 n (v3 + 1) x17)
set_option maxHeartbeats 4000000 in
set_option maxRecDepth 100000 in
theorem k_X11_digest_116 {l : Launch} {g : zgeo} {fu : Nat} {p : Program} {e : Env} {s : State} {m : MethodId} {args : Array Value} {below : List Frame} {meth : Method} {c : Code} (M : zMC RX11 cX11_digest 5 (some .long) g p m c s args meth) {a2 : Int32} {Q : State → Prop} : ∀ (n : Nat) (v3 : Int32) (σ : zmem) (o : zmem), l_X11_digest_116 fu a2 n v3 σ = some o → ∀ (ls : Array Slot) (H : Heap) (locs : List Loc), lv_has ls 5 [(0, .ref (zA g 103)), (2, .int a2), (3, .int v3)] → zIV g σ (zAA g) s.heap H locs → (∀ (ls : Array Slot) (H : Heap) (locs : List Loc), lv_has ls 5 [(0, .ref (zA g 103))] → zIV g o (zAA g) s.heap H locs → W p l e (zrm 9 217) s m args below meth c H locs 0 0 Q (F0 m 144 ls [])) → W p l e (zrm 9 217) s m args below meth c H locs 0 0 Q (F0 m 116 ls []) := by
  have hx := M.1.1
  have hb := M.1.2.1
  intro n
  induction n with
  | zero =>
    intro v3 σ o hr ls H locs hl I KF
    have hr : (none : Option (zmem)) = some o := hr
    cases hr
  | succ n ih =>
    intro v3 σ o hr ls H locs hl I KF
    rw [l_X11_digest_116] at hr
    refine lv_iload_n hx hb dX11_digest_116 rfl (lv_at hl 2 rfl) ?_
    refine lv_iconst (v := (3 : Int32)) hx hb dX11_digest_117 (by decide) ?_
    refine lv_iload_n hx hb dX11_digest_118 rfl (lv_at hl 1 rfl) ?_
    refine lv_imul hx hb dX11_digest_119 ?_
    refine lv_icmp_ge (tgt := 144) hx hb dX11_digest_120 (by decide) (fun c18 => ?_) (fun c18 => ?_)
    · replace hr := zif_t hr c18
      obtain rfl := Option.some.inj hr
      exact KF ls _ _ (lv_sub hl [0] rfl) I
    · replace hr := zif_f hr c18
      refine lv_aload_n hx hb dX11_digest_123 rfl (lv_at hl 0 rfl) ?_
      refine lv_aload_n hx hb dX11_digest_124 rfl (lv_at hl 0 rfl) ?_
      refine lv_iload_n hx hb dX11_digest_125 rfl (lv_at hl 2 rfl) ?_
      refine lv_iconst (v := (3 : Int32)) hx hb dX11_digest_126 (by decide) ?_
      refine lv_idiv hx hb dX11_digest_127 (by decide) ?_
      refine lv_iload_n hx hb dX11_digest_128 rfl (lv_at hl 2 rfl) ?_
      refine lv_iconst (v := (3 : Int32)) hx hb dX11_digest_129 (by decide) ?_
      refine lv_irem hx hb dX11_digest_130 (by decide) ?_
      obtain ⟨x16, e_x16, hr⟩ := zb_some hr
      refine zcallI M I (zrunV (as := [.int (v3 / (3 : Int32)), .int (v3 - v3 / (3 : Int32) * (3 : Int32))]) M I (c_X11_turnedNow l g fu e_x16) zc_103 zK11.1 (by decide) zlv_X11_191 ⟨Nat.le_of_ble_eq_true rfl, Nat.le_of_ble_eq_true rfl⟩ ⟨Nat.zero_le _, Nat.zero_le _⟩ rfl rfl (Nat.le_of_ble_eq_true rfl) hl.1 dX11_digest_131) (fun H locs I => ?_)
      refine lv_i2l (v := (x16.1.toInt64)) hx hb dX11_digest_134 rfl ?_
      obtain ⟨x17, e_x17, hr⟩ := zb_some hr
      refine zcallU M I (zrunV (as := [.long (x16.1.toInt64)]) M I (c_X11_mix l g fu e_x17) zc_103 zK11.1 (by decide) zlv_X11_249 ⟨Nat.le_of_ble_eq_true rfl, Nat.le_of_ble_eq_true rfl⟩ ⟨Nat.zero_le _, Nat.zero_le _⟩ rfl rfl (Nat.le_of_ble_eq_true rfl) hl.1 dX11_digest_135) (fun H locs I => ?_)
      refine lv_iinc (lv' := [(3, .int (v3 + 1)), (0, .ref (zA g 103)), (2, .int a2)]) (k := 2) (v := (v3 + 1)) hx hb dX11_digest_138 hl rfl (zi_1 _) (by decide) rfl (fun ls hl => ?_)
      refine lv_goto (tgt := 116) hx hb dX11_digest_141 (by decide) ?_
      exact ih _ _  _ hr ls _ _ (lv_sub hl [1, 2, 0] rfl) I KF
def l_X11_digest_153 (fu : Nat) (a3 : Int32) : Nat → Int32 → zmem → Option (zmem)
  | 0, _, _ => none
  | n + 1, v4, σ => (if ((5 : Int32) * a3) ≤ v4 then some σ else (m_X11_gapNow fu σ (v4 / (5 : Int32)) (v4 - v4 / (5 : Int32) * (5 : Int32))).bind fun x21 => (m_X11_mix fu x21.2 (x21.1.toInt64)).bind fun x22 => l_X11_digest_153 fu a3 n (v4 + 1) x22)
set_option maxHeartbeats 4000000 in
set_option maxRecDepth 100000 in
theorem k_X11_digest_153 {l : Launch} {g : zgeo} {fu : Nat} {p : Program} {e : Env} {s : State} {m : MethodId} {args : Array Value} {below : List Frame} {meth : Method} {c : Code} (M : zMC RX11 cX11_digest 5 (some .long) g p m c s args meth) {a3 : Int32} {Q : State → Prop} : ∀ (n : Nat) (v4 : Int32) (σ : zmem) (o : zmem), l_X11_digest_153 fu a3 n v4 σ = some o → ∀ (ls : Array Slot) (H : Heap) (locs : List Loc), lv_has ls 5 [(0, .ref (zA g 103)), (3, .int a3), (4, .int v4)] → zIV g σ (zAA g) s.heap H locs → (∀ (ls : Array Slot) (H : Heap) (locs : List Loc), lv_has ls 5 [(0, .ref (zA g 103))] → zIV g o (zAA g) s.heap H locs → W p l e (zrm 9 217) s m args below meth c H locs 0 0 Q (F0 m 184 ls [])) → W p l e (zrm 9 217) s m args below meth c H locs 0 0 Q (F0 m 153 ls []) := by
  have hx := M.1.1
  have hb := M.1.2.1
  intro n
  induction n with
  | zero =>
    intro v4 σ o hr ls H locs hl I KF
    have hr : (none : Option (zmem)) = some o := hr
    cases hr
  | succ n ih =>
    intro v4 σ o hr ls H locs hl I KF
    rw [l_X11_digest_153] at hr
    refine lv_iload hx hb dX11_digest_153 (lv_at hl 2 rfl) ?_
    refine lv_iconst (v := (5 : Int32)) hx hb dX11_digest_155 (by decide) ?_
    refine lv_iload_n hx hb dX11_digest_156 rfl (lv_at hl 1 rfl) ?_
    refine lv_imul hx hb dX11_digest_157 ?_
    refine lv_icmp_ge (tgt := 184) hx hb dX11_digest_158 (by decide) (fun c23 => ?_) (fun c23 => ?_)
    · replace hr := zif_t hr c23
      obtain rfl := Option.some.inj hr
      exact KF ls _ _ (lv_sub hl [0] rfl) I
    · replace hr := zif_f hr c23
      refine lv_aload_n hx hb dX11_digest_161 rfl (lv_at hl 0 rfl) ?_
      refine lv_aload_n hx hb dX11_digest_162 rfl (lv_at hl 0 rfl) ?_
      refine lv_iload hx hb dX11_digest_163 (lv_at hl 2 rfl) ?_
      refine lv_iconst (v := (5 : Int32)) hx hb dX11_digest_165 (by decide) ?_
      refine lv_idiv hx hb dX11_digest_166 (by decide) ?_
      refine lv_iload hx hb dX11_digest_167 (lv_at hl 2 rfl) ?_
      refine lv_iconst (v := (5 : Int32)) hx hb dX11_digest_169 (by decide) ?_
      refine lv_irem hx hb dX11_digest_170 (by decide) ?_
      obtain ⟨x21, e_x21, hr⟩ := zb_some hr
      refine zcallI M I (zrunV (as := [.int (v4 / (5 : Int32)), .int (v4 - v4 / (5 : Int32) * (5 : Int32))]) M I (c_X11_gapNow l g fu e_x21) zc_103 zK11.1 (by decide) zlv_X11_194 ⟨Nat.le_of_ble_eq_true rfl, Nat.le_of_ble_eq_true rfl⟩ ⟨Nat.zero_le _, Nat.zero_le _⟩ rfl rfl (Nat.le_of_ble_eq_true rfl) hl.1 dX11_digest_171) (fun H locs I => ?_)
      refine lv_i2l (v := (x21.1.toInt64)) hx hb dX11_digest_174 rfl ?_
      obtain ⟨x22, e_x22, hr⟩ := zb_some hr
      refine zcallU M I (zrunV (as := [.long (x21.1.toInt64)]) M I (c_X11_mix l g fu e_x22) zc_103 zK11.1 (by decide) zlv_X11_249 ⟨Nat.le_of_ble_eq_true rfl, Nat.le_of_ble_eq_true rfl⟩ ⟨Nat.zero_le _, Nat.zero_le _⟩ rfl rfl (Nat.le_of_ble_eq_true rfl) hl.1 dX11_digest_175) (fun H locs I => ?_)
      refine lv_iinc (lv' := [(4, .int (v4 + 1)), (0, .ref (zA g 103)), (3, .int a3)]) (k := 2) (v := (v4 + 1)) hx hb dX11_digest_178 hl rfl (zi_1 _) (by decide) rfl (fun ls hl => ?_)
      refine lv_goto (tgt := 153) hx hb dX11_digest_181 (by decide) ?_
      exact ih _ _  _ hr ls _ _ (lv_sub hl [1, 2, 0] rfl) I KF
def l_X11_digest_258 (fu : Nat) : Nat → Int32 → zmem → Option (zmem)
  | 0, _, _ => none
  | n + 1, v4, σ => (if (σ.1 103 5) ≤ v4 then some σ else (zrd σ 108 v4).bind fun x36 => (m_X11_mix fu σ (x36.toInt64)).bind fun x37 => l_X11_digest_258 fu n (v4 + 1) x37)
set_option maxHeartbeats 4000000 in
set_option maxRecDepth 100000 in
theorem k_X11_digest_258 {l : Launch} {g : zgeo} {fu : Nat} {p : Program} {e : Env} {s : State} {m : MethodId} {args : Array Value} {below : List Frame} {meth : Method} {c : Code} (M : zMC RX11 cX11_digest 5 (some .long) g p m c s args meth) {Q : State → Prop} : ∀ (n : Nat) (v4 : Int32) (σ : zmem) (o : zmem), l_X11_digest_258 fu n v4 σ = some o → ∀ (ls : Array Slot) (H : Heap) (locs : List Loc), lv_has ls 5 [(0, .ref (zA g 103)), (4, .int v4)] → zIV g σ (zAA g) s.heap H locs → (∀ (ls : Array Slot) (H : Heap) (locs : List Loc), lv_has ls 5 [(0, .ref (zA g 103))] → zIV g o (zAA g) s.heap H locs → W p l e (zrm 9 217) s m args below meth c H locs 0 0 Q (F0 m 285 ls [])) → W p l e (zrm 9 217) s m args below meth c H locs 0 0 Q (F0 m 258 ls []) := by
  have hx := M.1.1
  have hb := M.1.2.1
  intro n
  induction n with
  | zero =>
    intro v4 σ o hr ls H locs hl I KF
    have hr : (none : Option (zmem)) = some o := hr
    cases hr
  | succ n ih =>
    intro v4 σ o hr ls H locs hl I KF
    rw [l_X11_digest_258] at hr
    refine lv_iload hx hb dX11_digest_258 (lv_at hl 1 rfl) ?_
    refine lv_aload_n hx hb dX11_digest_260 rfl (lv_at hl 0 rfl) ?_
    refine zgetI M I zc_103 zfl_X11_165 dX11_digest_261 ?_
    refine lv_icmp_ge (tgt := 285) hx hb dX11_digest_264 (by decide) (fun c38 => ?_) (fun c38 => ?_)
    · replace hr := zif_t hr c38
      obtain rfl := Option.some.inj hr
      exact KF ls _ _ (lv_sub hl [0] rfl) I
    · replace hr := zif_f hr c38
      refine lv_aload_n hx hb dX11_digest_267 rfl (lv_at hl 0 rfl) ?_
      refine lv_aload_n hx hb dX11_digest_268 rfl (lv_at hl 0 rfl) ?_
      refine zgetR (j := 108) M I zc_103 zfl_X11_22 dX11_digest_269 rfl ?_
      refine lv_iload hx hb dX11_digest_272 (lv_at hl 1 rfl) ?_
      obtain ⟨x36, e_x36, hr⟩ := zb_some hr
      refine ziald M I zc_108 e_x36 dX11_digest_274 ?_
      refine lv_i2l (v := (x36.toInt64)) hx hb dX11_digest_275 rfl ?_
      obtain ⟨x37, e_x37, hr⟩ := zb_some hr
      refine zcallU M I (zrunV (as := [.long (x36.toInt64)]) M I (c_X11_mix l g fu e_x37) zc_103 zK11.1 (by decide) zlv_X11_249 ⟨Nat.le_of_ble_eq_true rfl, Nat.le_of_ble_eq_true rfl⟩ ⟨Nat.zero_le _, Nat.zero_le _⟩ rfl rfl (Nat.le_of_ble_eq_true rfl) hl.1 dX11_digest_276) (fun H locs I => ?_)
      refine lv_iinc (lv' := [(4, .int (v4 + 1)), (0, .ref (zA g 103))]) (k := 1) (v := (v4 + 1)) hx hb dX11_digest_279 hl rfl (zi_1 _) (by decide) rfl (fun ls hl => ?_)
      refine lv_goto (tgt := 258) hx hb dX11_digest_282 (by decide) ?_
      exact ih _ _  _ hr ls _ _ (lv_sub hl [1, 0] rfl) I KF
def m_X11_digest (fu : Nat) (σ : zmem) : Option (Int64 × zmem) := (l_X11_digest_14 fu fu (0 : Int32) (zsl (zst σ 103 7 (0 : Int32)) 103 29 (2609 : Int64))).bind fun x4 => (l_X11_digest_38 fu fu (0 : Int32) x4).bind fun x8 => (m_X11_mixRow fu x8 (0 : Int32)).bind fun x9 => (m_X11_mixRow fu x9 (1 : Int32)).bind fun x10 => (m_X11_layAll fu x10).bind fun x11 => (l_X11_digest_81 fu (x11.1 103 10) fu (0 : Int32) x11).bind fun x15 => (l_X11_digest_116 fu (x15.1 103 13) fu (0 : Int32) x15).bind fun x19 => (m_X11_laidCount fu x19 (5 : Int32)).bind fun x20 => (l_X11_digest_153 fu x20.1 fu (0 : Int32) x20.2).bind fun x24 => (m_X11_setThen fu x24 (0 : Int32) (2 : Int32)).bind fun x25 => (m_X11_mix fu x25.2 (x25.1.toInt64)).bind fun x26 => (m_X11_setThen fu x26 (3 : Int32) (0 : Int32)).bind fun x27 => (m_X11_mix fu x27.2 (x27.1.toInt64)).bind fun x28 => (m_X11_signs fu x28 (0 : Int32)).bind fun x29 => ((if x29 ≤ 0 then some x28 else (m_X11_changedThen fu x28 (0 : Int32) (0 : Int32) (0 : Int32)).bind fun x40 => (m_X11_mix fu x40.2 (x40.1.toInt64)).bind fun x41 => some x41) : Option (zmem)).bind fun x30 => (m_X11_bestNow fu x30).bind fun x31 => (m_X11_mix fu x31.2 (x31.1.toInt64)).bind fun x32 => (m_X11_share fu x32).bind fun x33 => (m_X11_mix fu x33.2 (m_J_bits x33.1)).bind fun x34 => (m_X11_mix fu x34 ((x34.1 103 5).toInt64)).bind fun x35 => (l_X11_digest_258 fu fu (0 : Int32) x35).bind fun x39 => some ((x39.2 103 29), x39)
set_option maxHeartbeats 4000000 in
set_option maxRecDepth 100000 in
theorem c_X11_digest (l : Launch) (g : zgeo) (fu : Nat) {σ : zmem} {r : Int64 × zmem} (hr : m_X11_digest fu σ = some r) : zCt (zQL g r.1 r.2) l g yX11_digest cX11_digest 5 (some .long) 9 217 [.ref (zA g 103)] σ := by
  refine zopen (by decide) (Nat.le_of_ble_eq_true rfl) ?_
  intro p e s m below meth c M ls hl I
  have M : zMC RX11 cX11_digest 5 (some .long) g p m c s ([.ref (zA g 103)] : List Value).toArray meth := M
  have hl : lv_has ls 5 [(0, .ref (zA g 103))] := hl
  generalize ([.ref (zA g 103)] : List Value).toArray = args at M ⊢
  have hx := M.1.1
  have hb := M.1.2.1
  unfold m_X11_digest at hr
  refine lv_aload_n hx hb dX11_digest_0 rfl (lv_at hl 0 rfl) ?_
  refine lv_iconst (v := (0 : Int32)) hx hb dX11_digest_1 (by decide) ?_
  refine zputI M I zc_103 zfw_X11_70 dX11_digest_2 (fun H locs I => ?_)
  refine lv_aload_n hx hb dX11_digest_5 rfl (lv_at hl 0 rfl) ?_
  refine lv_ldc2 (own := RX11) (v := 2609) hx hb M.1.2.2.2.1 (M.1.2.2.2.2 _ (zin (i := 1429) (by decide +kernel) rfl)) dX11_digest_6 ?_
  refine zputL M I zc_103 zfw_X11_245 dX11_digest_9 (fun H locs I => ?_)
  refine lv_iconst (v := (0 : Int32)) hx hb dX11_digest_12 (by decide) ?_
  refine lv_istore_n (lv' := [(1, .int (0 : Int32)), (0, .ref (zA g 103))]) hx hb dX11_digest_13 rfl hl (by decide) rfl (fun ls hl => ?_)
  obtain ⟨x4, e_x4, hr⟩ := zb_some hr
  refine k_X11_digest_14 M  fu _ _  _ e_x4 ls _ _ (lv_sub hl [1, 0] rfl) I (fun ls H locs hl I => ?_)
  refine lv_iconst (v := (0 : Int32)) hx hb dX11_digest_36 (by decide) ?_
  refine lv_istore_n (lv' := [(1, .int (0 : Int32)), (0, .ref (zA g 103))]) hx hb dX11_digest_37 rfl hl (by decide) rfl (fun ls hl => ?_)
  obtain ⟨x8, e_x8, hr⟩ := zb_some hr
  refine k_X11_digest_38 M  fu _ _  _ e_x8 ls _ _ (lv_sub hl [1, 0] rfl) I (fun ls H locs hl I => ?_)
  refine lv_aload_n hx hb dX11_digest_60 rfl (lv_at hl 0 rfl) ?_
  refine lv_iconst (v := (0 : Int32)) hx hb dX11_digest_61 (by decide) ?_
  obtain ⟨x9, e_x9, hr⟩ := zb_some hr
  refine zcallU M I (zrunV (as := [.int (0 : Int32)]) M I (c_X11_mixRow l g fu e_x9) zc_103 zK11.1 (by decide) zlv_X11_255 ⟨Nat.le_of_ble_eq_true rfl, Nat.le_of_ble_eq_true rfl⟩ ⟨Nat.zero_le _, Nat.zero_le _⟩ rfl rfl (Nat.le_of_ble_eq_true rfl) hl.1 dX11_digest_62) (fun H locs I => ?_)
  refine lv_aload_n hx hb dX11_digest_65 rfl (lv_at hl 0 rfl) ?_
  refine lv_iconst (v := (1 : Int32)) hx hb dX11_digest_66 (by decide) ?_
  obtain ⟨x10, e_x10, hr⟩ := zb_some hr
  refine zcallU M I (zrunV (as := [.int (1 : Int32)]) M I (c_X11_mixRow l g fu e_x10) zc_103 zK11.1 (by decide) zlv_X11_255 ⟨Nat.le_of_ble_eq_true rfl, Nat.le_of_ble_eq_true rfl⟩ ⟨Nat.zero_le _, Nat.zero_le _⟩ rfl rfl (Nat.le_of_ble_eq_true rfl) hl.1 dX11_digest_67) (fun H locs I => ?_)
  refine lv_aload_n hx hb dX11_digest_70 rfl (lv_at hl 0 rfl) ?_
  obtain ⟨x11, e_x11, hr⟩ := zb_some hr
  refine zcallU M I (zrunV (as := []) M I (c_X11_layAll l g fu e_x11) zc_103 zK11.1 (by decide) zlv_X11_143 ⟨Nat.le_of_ble_eq_true rfl, Nat.le_of_ble_eq_true rfl⟩ ⟨Nat.zero_le _, Nat.zero_le _⟩ rfl rfl (Nat.le_of_ble_eq_true rfl) hl.1 dX11_digest_71) (fun H locs I => ?_)
  refine lv_aload_n hx hb dX11_digest_74 rfl (lv_at hl 0 rfl) ?_
  refine zgetI M I zc_103 zfl_X11_97 dX11_digest_75 ?_
  refine lv_istore_n (lv' := [(1, .int (x11.1 103 10)), (0, .ref (zA g 103))]) hx hb dX11_digest_78 rfl hl (by decide) rfl (fun ls hl => ?_)
  refine lv_iconst (v := (0 : Int32)) hx hb dX11_digest_79 (by decide) ?_
  refine lv_istore_n (lv' := [(2, .int (0 : Int32)), (1, .int (x11.1 103 10)), (0, .ref (zA g 103))]) hx hb dX11_digest_80 rfl hl (by decide) rfl (fun ls hl => ?_)
  obtain ⟨x15, e_x15, hr⟩ := zb_some hr
  refine k_X11_digest_81 M  fu _ _  _ e_x15 ls _ _ (lv_sub hl [2, 1, 0] rfl) I (fun ls H locs hl I => ?_)
  refine lv_aload_n hx hb dX11_digest_109 rfl (lv_at hl 0 rfl) ?_
  refine zgetI M I zc_103 zfl_X11_100 dX11_digest_110 ?_
  refine lv_istore_n (lv' := [(2, .int (x15.1 103 13)), (0, .ref (zA g 103))]) hx hb dX11_digest_113 rfl hl (by decide) rfl (fun ls hl => ?_)
  refine lv_iconst (v := (0 : Int32)) hx hb dX11_digest_114 (by decide) ?_
  refine lv_istore_n (lv' := [(3, .int (0 : Int32)), (2, .int (x15.1 103 13)), (0, .ref (zA g 103))]) hx hb dX11_digest_115 rfl hl (by decide) rfl (fun ls hl => ?_)
  obtain ⟨x19, e_x19, hr⟩ := zb_some hr
  refine k_X11_digest_116 M  fu _ _  _ e_x19 ls _ _ (lv_sub hl [2, 1, 0] rfl) I (fun ls H locs hl I => ?_)
  refine lv_aload_n hx hb dX11_digest_144 rfl (lv_at hl 0 rfl) ?_
  refine lv_iconst (v := (5 : Int32)) hx hb dX11_digest_145 (by decide) ?_
  obtain ⟨x20, e_x20, hr⟩ := zb_some hr
  refine zcallI M I (zrunV (as := [.int (5 : Int32)]) M I (c_X11_laidCount l g fu e_x20) zc_103 zK11.1 (by decide) zlv_X11_222 ⟨Nat.le_of_ble_eq_true rfl, Nat.le_of_ble_eq_true rfl⟩ ⟨Nat.zero_le _, Nat.zero_le _⟩ rfl rfl (Nat.le_of_ble_eq_true rfl) hl.1 dX11_digest_146) (fun H locs I => ?_)
  refine lv_istore_n (lv' := [(3, .int x20.1), (0, .ref (zA g 103))]) hx hb dX11_digest_149 rfl hl (by decide) rfl (fun ls hl => ?_)
  refine lv_iconst (v := (0 : Int32)) hx hb dX11_digest_150 (by decide) ?_
  refine lv_istore (lv' := [(4, .int (0 : Int32)), (3, .int x20.1), (0, .ref (zA g 103))]) hx hb dX11_digest_151 hl (by decide) rfl (fun ls hl => ?_)
  obtain ⟨x24, e_x24, hr⟩ := zb_some hr
  refine k_X11_digest_153 M  fu _ _  _ e_x24 ls _ _ (lv_sub hl [2, 1, 0] rfl) I (fun ls H locs hl I => ?_)
  refine lv_aload_n hx hb dX11_digest_184 rfl (lv_at hl 0 rfl) ?_
  refine lv_aload_n hx hb dX11_digest_185 rfl (lv_at hl 0 rfl) ?_
  refine lv_iconst (v := (0 : Int32)) hx hb dX11_digest_186 (by decide) ?_
  refine lv_iconst (v := (2 : Int32)) hx hb dX11_digest_187 (by decide) ?_
  obtain ⟨x25, e_x25, hr⟩ := zb_some hr
  refine zcallI M I (zrunV (as := [.int (0 : Int32), .int (2 : Int32)]) M I (c_X11_setThen l g fu e_x25) zc_103 zK11.1 (by decide) zlv_X11_228 ⟨Nat.le_of_ble_eq_true rfl, Nat.le_of_ble_eq_true rfl⟩ ⟨Nat.zero_le _, Nat.zero_le _⟩ rfl rfl (Nat.le_of_ble_eq_true rfl) hl.1 dX11_digest_188) (fun H locs I => ?_)
  refine lv_i2l (v := (x25.1.toInt64)) hx hb dX11_digest_191 rfl ?_
  obtain ⟨x26, e_x26, hr⟩ := zb_some hr
  refine zcallU M I (zrunV (as := [.long (x25.1.toInt64)]) M I (c_X11_mix l g fu e_x26) zc_103 zK11.1 (by decide) zlv_X11_249 ⟨Nat.le_of_ble_eq_true rfl, Nat.le_of_ble_eq_true rfl⟩ ⟨Nat.zero_le _, Nat.zero_le _⟩ rfl rfl (Nat.le_of_ble_eq_true rfl) hl.1 dX11_digest_192) (fun H locs I => ?_)
  refine lv_aload_n hx hb dX11_digest_195 rfl (lv_at hl 0 rfl) ?_
  refine lv_aload_n hx hb dX11_digest_196 rfl (lv_at hl 0 rfl) ?_
  refine lv_iconst (v := (3 : Int32)) hx hb dX11_digest_197 (by decide) ?_
  refine lv_iconst (v := (0 : Int32)) hx hb dX11_digest_198 (by decide) ?_
  obtain ⟨x27, e_x27, hr⟩ := zb_some hr
  refine zcallI M I (zrunV (as := [.int (3 : Int32), .int (0 : Int32)]) M I (c_X11_setThen l g fu e_x27) zc_103 zK11.1 (by decide) zlv_X11_228 ⟨Nat.le_of_ble_eq_true rfl, Nat.le_of_ble_eq_true rfl⟩ ⟨Nat.zero_le _, Nat.zero_le _⟩ rfl rfl (Nat.le_of_ble_eq_true rfl) hl.1 dX11_digest_199) (fun H locs I => ?_)
  refine lv_i2l (v := (x27.1.toInt64)) hx hb dX11_digest_202 rfl ?_
  obtain ⟨x28, e_x28, hr⟩ := zb_some hr
  refine zcallU M I (zrunV (as := [.long (x27.1.toInt64)]) M I (c_X11_mix l g fu e_x28) zc_103 zK11.1 (by decide) zlv_X11_249 ⟨Nat.le_of_ble_eq_true rfl, Nat.le_of_ble_eq_true rfl⟩ ⟨Nat.zero_le _, Nat.zero_le _⟩ rfl rfl (Nat.le_of_ble_eq_true rfl) hl.1 dX11_digest_203) (fun H locs I => ?_)
  refine lv_aload_n hx hb dX11_digest_206 rfl (lv_at hl 0 rfl) ?_
  refine lv_iconst (v := (0 : Int32)) hx hb dX11_digest_207 (by decide) ?_
  obtain ⟨x29, e_x29, hr⟩ := zb_some hr
  refine zcallI M I (zrunV (as := [.int (0 : Int32)]) M I (c_X11_signs l g fu e_x29) zc_103 zK11.1 (by decide) zlv_X11_85 ⟨Nat.le_of_ble_eq_true rfl, Nat.le_of_ble_eq_true rfl⟩ ⟨Nat.zero_le _, Nat.zero_le _⟩ rfl rfl (Nat.le_of_ble_eq_true rfl) hl.1 dX11_digest_208) (fun H locs I => ?_)
  obtain ⟨x30, e_x30, hr⟩ := zb_some hr
  have K_x30 : ∀ (ls : Array Slot) (H : Heap) (locs : List Loc), lv_has ls 5 [(0, .ref (zA g 103))] → zIV g x30 (zAA g) s.heap H locs → W p l e (zrm 9 217) s m args below meth c H locs 0 0 (MQ below (zQL g r.1 r.2) args s 0 0 (zAA g)) (F0 m 226 ls []) := by
    intro ls H locs hl I
    refine lv_aload_n hx hb dX11_digest_226 rfl (lv_at hl 0 rfl) ?_
    refine lv_aload_n hx hb dX11_digest_227 rfl (lv_at hl 0 rfl) ?_
    obtain ⟨x31, e_x31, hr⟩ := zb_some hr
    refine zcallI M I (zrunV (as := []) M I (c_X11_bestNow l g fu e_x31) zc_103 zK11.1 (by decide) zlv_X11_234 ⟨Nat.le_of_ble_eq_true rfl, Nat.le_of_ble_eq_true rfl⟩ ⟨Nat.zero_le _, Nat.zero_le _⟩ rfl rfl (Nat.le_of_ble_eq_true rfl) hl.1 dX11_digest_228) (fun H locs I => ?_)
    refine lv_i2l (v := (x31.1.toInt64)) hx hb dX11_digest_231 rfl ?_
    obtain ⟨x32, e_x32, hr⟩ := zb_some hr
    refine zcallU M I (zrunV (as := [.long (x31.1.toInt64)]) M I (c_X11_mix l g fu e_x32) zc_103 zK11.1 (by decide) zlv_X11_249 ⟨Nat.le_of_ble_eq_true rfl, Nat.le_of_ble_eq_true rfl⟩ ⟨Nat.zero_le _, Nat.zero_le _⟩ rfl rfl (Nat.le_of_ble_eq_true rfl) hl.1 dX11_digest_232) (fun H locs I => ?_)
    refine lv_aload_n hx hb dX11_digest_235 rfl (lv_at hl 0 rfl) ?_
    refine lv_aload_n hx hb dX11_digest_236 rfl (lv_at hl 0 rfl) ?_
    obtain ⟨x33, e_x33, hr⟩ := zb_some hr
    refine zcallD M I (zrunV (as := []) M I (c_X11_share l g fu e_x33) zc_103 zK11.1 (by decide) zlv_X11_239 ⟨Nat.le_of_ble_eq_true rfl, Nat.le_of_ble_eq_true rfl⟩ ⟨Nat.zero_le _, Nat.zero_le _⟩ rfl rfl (Nat.le_of_ble_eq_true rfl) hl.1 dX11_digest_237) (fun H locs I => ?_)
    refine zcallL M I (zrunJ M I ⟨Nat.le_of_ble_eq_true rfl, Nat.le_of_ble_eq_true rfl⟩ ⟨Nat.zero_le _, Nat.zero_le _⟩ (Nat.le_of_ble_eq_true rfl) hl.1 dX11_digest_240) (fun H locs I => ?_)
    obtain ⟨x34, e_x34, hr⟩ := zb_some hr
    refine zcallU M I (zrunV (as := [.long (m_J_bits x33.1)]) M I (c_X11_mix l g fu e_x34) zc_103 zK11.1 (by decide) zlv_X11_249 ⟨Nat.le_of_ble_eq_true rfl, Nat.le_of_ble_eq_true rfl⟩ ⟨Nat.zero_le _, Nat.zero_le _⟩ rfl rfl (Nat.le_of_ble_eq_true rfl) hl.1 dX11_digest_243) (fun H locs I => ?_)
    refine lv_aload_n hx hb dX11_digest_246 rfl (lv_at hl 0 rfl) ?_
    refine lv_aload_n hx hb dX11_digest_247 rfl (lv_at hl 0 rfl) ?_
    refine zgetI M I zc_103 zfl_X11_165 dX11_digest_248 ?_
    refine lv_i2l (v := ((x34.1 103 5).toInt64)) hx hb dX11_digest_251 rfl ?_
    obtain ⟨x35, e_x35, hr⟩ := zb_some hr
    refine zcallU M I (zrunV (as := [.long ((x34.1 103 5).toInt64)]) M I (c_X11_mix l g fu e_x35) zc_103 zK11.1 (by decide) zlv_X11_249 ⟨Nat.le_of_ble_eq_true rfl, Nat.le_of_ble_eq_true rfl⟩ ⟨Nat.zero_le _, Nat.zero_le _⟩ rfl rfl (Nat.le_of_ble_eq_true rfl) hl.1 dX11_digest_252) (fun H locs I => ?_)
    refine lv_iconst (v := (0 : Int32)) hx hb dX11_digest_255 (by decide) ?_
    refine lv_istore (lv' := [(4, .int (0 : Int32)), (0, .ref (zA g 103))]) hx hb dX11_digest_256 hl (by decide) rfl (fun ls hl => ?_)
    obtain ⟨x39, e_x39, hr⟩ := zb_some hr
    refine k_X11_digest_258 M  fu _ _  _ e_x39 ls _ _ (lv_sub hl [1, 0] rfl) I (fun ls H locs hl I => ?_)
    refine lv_aload_n hx hb dX11_digest_285 rfl (lv_at hl 0 rfl) ?_
    refine zgetL M I zc_103 zfl_X11_245 dX11_digest_286 ?_
    obtain rfl := Option.some.inj hr
    exact zretL M I dX11_digest_289
  refine lv_if_le (tgt := 226) hx hb dX11_digest_211 (by decide) (fun c42 => ?_) (fun c42 => ?_)
  · replace e_x30 := zif_t e_x30 c42
    obtain rfl := Option.some.inj e_x30
    exact K_x30 ls _ _ hl I
  · replace e_x30 := zif_f e_x30 c42
    refine lv_aload_n hx hb dX11_digest_214 rfl (lv_at hl 0 rfl) ?_
    refine lv_aload_n hx hb dX11_digest_215 rfl (lv_at hl 0 rfl) ?_
    refine lv_iconst (v := (0 : Int32)) hx hb dX11_digest_216 (by decide) ?_
    refine lv_iconst (v := (0 : Int32)) hx hb dX11_digest_217 (by decide) ?_
    refine lv_iconst (v := (0 : Int32)) hx hb dX11_digest_218 (by decide) ?_
    obtain ⟨x40, e_x40, e_x30⟩ := zb_some e_x30
    refine zcallI M I (zrunV (as := [.int (0 : Int32), .int (0 : Int32), .int (0 : Int32)]) M I (c_X11_changedThen l g fu e_x40) zc_103 zK11.1 (by decide) zlv_X11_231 ⟨Nat.le_of_ble_eq_true rfl, Nat.le_of_ble_eq_true rfl⟩ ⟨Nat.zero_le _, Nat.zero_le _⟩ rfl rfl (Nat.le_of_ble_eq_true rfl) hl.1 dX11_digest_219) (fun H locs I => ?_)
    refine lv_i2l (v := (x40.1.toInt64)) hx hb dX11_digest_222 rfl ?_
    obtain ⟨x41, e_x41, e_x30⟩ := zb_some e_x30
    refine zcallU M I (zrunV (as := [.long (x40.1.toInt64)]) M I (c_X11_mix l g fu e_x41) zc_103 zK11.1 (by decide) zlv_X11_249 ⟨Nat.le_of_ble_eq_true rfl, Nat.le_of_ble_eq_true rfl⟩ ⟨Nat.zero_le _, Nat.zero_le _⟩ rfl rfl (Nat.le_of_ble_eq_true rfl) hl.1 dX11_digest_223) (fun H locs I => ?_)
    obtain rfl := Option.some.inj e_x30
    exact K_x30 ls _ _ hl I
