def m_X10_put (fu : Nat) (σ : zmem) (a1 : Int32) (a2 : Int32) (a3 : Int32) : Option (zRX) := (m_X10_isRow fu σ a1).bind fun x1 => (if x1 = 0 then some (.inl 0, σ) else (if a2 < 0 then some (.inl 0, σ) else (m_X7_rowOf fu σ 1 a1).bind fun x2 => (m_X6_size fu σ x2).bind fun x3 => (if a2 ≤ x3 then (m_X10_isSign fu σ a3).bind fun x4 => (if ¬ x4 = 0 then (m_X7_rowOf fu σ 1 a1).bind fun x5 => (m_X6_size fu σ x5).bind fun x6 => (if x6 < (24 : Int32) then (m_X10_saveState fu σ).bind fun x7 => (m_X7_rowOf fu x7 1 a1).bind fun x8 => (m_X6_insert fu x7 x8 a2 a3).bind fun x9 => (m_X7_rowOf fu x9 1 a1).bind fun x10 => (m_X6_size fu x9 x10).bind fun x11 => some (.inr x11, x9) else some (.inl 2, σ)) else some (.inl 1, σ)) else some (.inl 0, σ))))
set_option maxHeartbeats 4000000 in
set_option maxRecDepth 100000 in
theorem c_X10_put (l : Launch) (hl0 : l.stackTraces = false) (g : zgeo) (fu : Nat) {σ : zmem} {a1 : Int32} {a2 : Int32} {a3 : Int32} {r : zRX} (hr : m_X10_put fu σ a1 a2 a3 = some r) : zCx r l g yX10_put cX10_put 4 (some .int) 6 86 [.ref (zA g 0), .int a1, .int a2, .int a3] σ := by
  refine zopenX hl0 (by decide) (Nat.le_of_ble_eq_true rfl) ?_
  intro p e s m below meth c MX ls hl I
  have MX : zMX RX10 cX10_put 4 (some .int) g l p m c s ([.ref (zA g 0), .int a1, .int a2, .int a3] : List Value).toArray meth := MX
  have hl : lv_has ls 4 [(0, .ref (zA g 0)), (1, .int a1), (2, .int a2), (3, .int a3)] := hl
  generalize ([.ref (zA g 0), .int a1, .int a2, .int a3] : List Value).toArray = args at MX ⊢
  have M := MX.1
  have hx := M.1.1
  have hb := M.1.2.1
  unfold m_X10_put at hr
  refine lv_iload_n hx hb dX10_put_0 rfl (lv_at hl 1 rfl) ?_
  obtain ⟨x1, e_x1, hr⟩ := zb_some hr
  refine zcallI M I (zrunS (as := [.int a1]) M I (c_X10_isRow l g fu e_x1) zls_X10_66 ⟨Nat.le_of_ble_eq_true rfl, Nat.le_of_ble_eq_true rfl⟩ ⟨Nat.zero_le _, Nat.zero_le _⟩ rfl rfl (Nat.le_of_ble_eq_true rfl) hl.1 dX10_put_1) (fun H locs I => ?_)
  refine lv_if_eq (tgt := 26) hx hb dX10_put_4 (by decide) (fun c16 => ?_) (fun c16 => ?_)
  · replace hr := zif_t hr c16
    exact zthrow (k := 0) MX I (by decide) (Option.some.inj hr).symm (zin (i := 730) (by decide +kernel) rfl) (zin (i := 83) (by decide +kernel) rfl) (List.mem_of_getElem? (i := 0) rfl) dX10_put_26 dX10_put_29 dX10_put_30 dX10_put_32 dX10_put_35 hl.1 (by decide)
  · replace hr := zif_f hr c16
    refine lv_iload_n hx hb dX10_put_7 rfl (lv_at hl 2 rfl) ?_
    refine lv_if_lt (tgt := 26) hx hb dX10_put_8 (by decide) (fun c15 => ?_) (fun c15 => ?_)
    · replace hr := zif_t hr c15
      exact zthrow (k := 0) MX I (by decide) (Option.some.inj hr).symm (zin (i := 730) (by decide +kernel) rfl) (zin (i := 83) (by decide +kernel) rfl) (List.mem_of_getElem? (i := 0) rfl) dX10_put_26 dX10_put_29 dX10_put_30 dX10_put_32 dX10_put_35 hl.1 (by decide)
    · replace hr := zif_f hr c15
      refine lv_iload_n hx hb dX10_put_11 rfl (lv_at hl 2 rfl) ?_
      refine lv_aload_n hx hb dX10_put_12 rfl (lv_at hl 0 rfl) ?_
      refine zgetR (j := 1) M I zc_0 zfl_X10_10 dX10_put_13 rfl ?_
      refine lv_iload_n hx hb dX10_put_16 rfl (lv_at hl 1 rfl) ?_
      obtain ⟨x2, e_x2, hr⟩ := zb_some hr
      refine zcallR M I (zrunV (as := [.int a1]) M I (c_X7_rowOf l g fu zc_1 e_x2) zc_1 zK7.1 (by decide) zlv_X10_70 ⟨Nat.le_of_ble_eq_true rfl, Nat.le_of_ble_eq_true rfl⟩ ⟨Nat.zero_le _, Nat.zero_le _⟩ rfl rfl (Nat.le_of_ble_eq_true rfl) hl.1 dX10_put_17) (fun H locs I => ?_)
      obtain ⟨x3, e_x3, hr⟩ := zb_some hr
      refine zcallI M I (zrunV (as := []) M I (c_X6_size l g fu (zq_X7_rowOf zc_1 e_x2) e_x3) (zq_X7_rowOf zc_1 e_x2) zK6.1 (by decide) zlv_X10_74 ⟨Nat.le_of_ble_eq_true rfl, Nat.le_of_ble_eq_true rfl⟩ ⟨Nat.zero_le _, Nat.zero_le _⟩ rfl rfl (Nat.le_of_ble_eq_true rfl) hl.1 dX10_put_20) (fun H locs I => ?_)
      refine lv_icmp_le (tgt := 36) hx hb dX10_put_23 (by decide) (fun c14 => ?_) (fun c14 => ?_)
      · replace hr := zif_t hr c14
        refine lv_iload_n hx hb dX10_put_36 rfl (lv_at hl 3 rfl) ?_
        obtain ⟨x4, e_x4, hr⟩ := zb_some hr
        refine zcallI M I (zrunS (as := [.int a3]) M I (c_X10_isSign l g fu e_x4) zls_X10_87 ⟨Nat.le_of_ble_eq_true rfl, Nat.le_of_ble_eq_true rfl⟩ ⟨Nat.zero_le _, Nat.zero_le _⟩ rfl rfl (Nat.le_of_ble_eq_true rfl) hl.1 dX10_put_37) (fun H locs I => ?_)
        refine lv_if_ne (tgt := 53) hx hb dX10_put_40 (by decide) (fun c13 => ?_) (fun c13 => ?_)
        · replace hr := zif_t hr c13
          refine lv_aload_n hx hb dX10_put_53 rfl (lv_at hl 0 rfl) ?_
          refine zgetR (j := 1) M I zc_0 zfl_X10_10 dX10_put_54 rfl ?_
          refine lv_iload_n hx hb dX10_put_57 rfl (lv_at hl 1 rfl) ?_
          obtain ⟨x5, e_x5, hr⟩ := zb_some hr
          refine zcallR M I (zrunV (as := [.int a1]) M I (c_X7_rowOf l g fu zc_1 e_x5) zc_1 zK7.1 (by decide) zlv_X10_70 ⟨Nat.le_of_ble_eq_true rfl, Nat.le_of_ble_eq_true rfl⟩ ⟨Nat.zero_le _, Nat.zero_le _⟩ rfl rfl (Nat.le_of_ble_eq_true rfl) hl.1 dX10_put_58) (fun H locs I => ?_)
          obtain ⟨x6, e_x6, hr⟩ := zb_some hr
          refine zcallI M I (zrunV (as := []) M I (c_X6_size l g fu (zq_X7_rowOf zc_1 e_x5) e_x6) (zq_X7_rowOf zc_1 e_x5) zK6.1 (by decide) zlv_X10_74 ⟨Nat.le_of_ble_eq_true rfl, Nat.le_of_ble_eq_true rfl⟩ ⟨Nat.zero_le _, Nat.zero_le _⟩ rfl rfl (Nat.le_of_ble_eq_true rfl) hl.1 dX10_put_61) (fun H locs I => ?_)
          refine lv_bipush (v := (24 : Int32)) hx hb dX10_put_64 (by decide) ?_
          refine lv_icmp_lt (tgt := 79) hx hb dX10_put_66 (by decide) (fun c12 => ?_) (fun c12 => ?_)
          · replace hr := zif_t hr c12
            refine lv_aload_n hx hb dX10_put_79 rfl (lv_at hl 0 rfl) ?_
            obtain ⟨x7, e_x7, hr⟩ := zb_some hr
            refine zcallU M I (zrunV (as := []) M I (c_X10_saveState l g fu e_x7) zc_0 zK10.1 (by decide) zlv_X10_100 ⟨Nat.le_of_ble_eq_true rfl, Nat.le_of_ble_eq_true rfl⟩ ⟨Nat.zero_le _, Nat.zero_le _⟩ rfl rfl (Nat.le_of_ble_eq_true rfl) hl.1 dX10_put_80) (fun H locs I => ?_)
            refine lv_aload_n hx hb dX10_put_83 rfl (lv_at hl 0 rfl) ?_
            refine zgetR (j := 1) M I zc_0 zfl_X10_10 dX10_put_84 rfl ?_
            refine lv_iload_n hx hb dX10_put_87 rfl (lv_at hl 1 rfl) ?_
            obtain ⟨x8, e_x8, hr⟩ := zb_some hr
            refine zcallR M I (zrunV (as := [.int a1]) M I (c_X7_rowOf l g fu zc_1 e_x8) zc_1 zK7.1 (by decide) zlv_X10_70 ⟨Nat.le_of_ble_eq_true rfl, Nat.le_of_ble_eq_true rfl⟩ ⟨Nat.zero_le _, Nat.zero_le _⟩ rfl rfl (Nat.le_of_ble_eq_true rfl) hl.1 dX10_put_88) (fun H locs I => ?_)
            refine lv_iload_n hx hb dX10_put_91 rfl (lv_at hl 2 rfl) ?_
            refine lv_iload_n hx hb dX10_put_92 rfl (lv_at hl 3 rfl) ?_
            obtain ⟨x9, e_x9, hr⟩ := zb_some hr
            refine zcallU M I (zrunV (as := [.int a2, .int a3]) M I (c_X6_insert l g fu (zq_X7_rowOf zc_1 e_x8) e_x9) (zq_X7_rowOf zc_1 e_x8) zK6.1 (by decide) zlv_X10_103 ⟨Nat.le_of_ble_eq_true rfl, Nat.le_of_ble_eq_true rfl⟩ ⟨Nat.zero_le _, Nat.zero_le _⟩ rfl rfl (Nat.le_of_ble_eq_true rfl) hl.1 dX10_put_93) (fun H locs I => ?_)
            refine lv_aload_n hx hb dX10_put_96 rfl (lv_at hl 0 rfl) ?_
            refine zgetR (j := 1) M I zc_0 zfl_X10_10 dX10_put_97 rfl ?_
            refine lv_iload_n hx hb dX10_put_100 rfl (lv_at hl 1 rfl) ?_
            obtain ⟨x10, e_x10, hr⟩ := zb_some hr
            refine zcallR M I (zrunV (as := [.int a1]) M I (c_X7_rowOf l g fu zc_1 e_x10) zc_1 zK7.1 (by decide) zlv_X10_70 ⟨Nat.le_of_ble_eq_true rfl, Nat.le_of_ble_eq_true rfl⟩ ⟨Nat.zero_le _, Nat.zero_le _⟩ rfl rfl (Nat.le_of_ble_eq_true rfl) hl.1 dX10_put_101) (fun H locs I => ?_)
            obtain ⟨x11, e_x11, hr⟩ := zb_some hr
            refine zcallI M I (zrunV (as := []) M I (c_X6_size l g fu (zq_X7_rowOf zc_1 e_x10) e_x11) (zq_X7_rowOf zc_1 e_x10) zK6.1 (by decide) zlv_X10_74 ⟨Nat.le_of_ble_eq_true rfl, Nat.le_of_ble_eq_true rfl⟩ ⟨Nat.zero_le _, Nat.zero_le _⟩ rfl rfl (Nat.le_of_ble_eq_true rfl) hl.1 dX10_put_104) (fun H locs I => ?_)
            exact zretX MX I (Option.some.inj hr).symm dX10_put_107
          · replace hr := zif_f hr c12
            exact zthrow (k := 2) MX I (by decide) (Option.some.inj hr).symm (zin (i := 817) (by decide +kernel) rfl) (zin (i := 85) (by decide +kernel) rfl) (List.mem_of_getElem? (i := 2) rfl) dX10_put_69 dX10_put_72 dX10_put_73 dX10_put_75 dX10_put_78 hl.1 (by decide)
        · replace hr := zif_f hr (fun hq => hq c13)
          exact zthrow (k := 1) MX I (by decide) (Option.some.inj hr).symm (zin (i := 801) (by decide +kernel) rfl) (zin (i := 84) (by decide +kernel) rfl) (List.mem_of_getElem? (i := 1) rfl) dX10_put_43 dX10_put_46 dX10_put_47 dX10_put_49 dX10_put_52 hl.1 (by decide)
      · replace hr := zif_f hr c14
        exact zthrow (k := 0) MX I (by decide) (Option.some.inj hr).symm (zin (i := 730) (by decide +kernel) rfl) (zin (i := 83) (by decide +kernel) rfl) (List.mem_of_getElem? (i := 0) rfl) dX10_put_26 dX10_put_29 dX10_put_30 dX10_put_32 dX10_put_35 hl.1 (by decide)
def m_X10_take (fu : Nat) (σ : zmem) (a1 : Int32) (a2 : Int32) (a3 : Int32) : Option (zRX) := (m_X10_isPlace fu σ a1 a2).bind fun x1 => (if ¬ x1 = 0 then (if a3 < (1 : Int32) then some (.inl 1, σ) else (m_X7_rowOf fu σ 1 a1).bind fun x2 => (m_X6_size fu σ x2).bind fun x3 => (if a3 ≤ (x3 - a2) then (m_X10_saveState fu σ).bind fun x4 => (m_X7_rowOf fu x4 1 a1).bind fun x5 => (m_X6_remove fu x4 x5 a2 a3).bind fun x6 => (m_X7_rowOf fu x6 1 a1).bind fun x7 => (m_X6_size fu x6 x7).bind fun x8 => some (.inr x8, x6) else some (.inl 1, σ))) else some (.inl 0, σ))
set_option maxHeartbeats 4000000 in
set_option maxRecDepth 100000 in
theorem c_X10_take (l : Launch) (hl0 : l.stackTraces = false) (g : zgeo) (fu : Nat) {σ : zmem} {a1 : Int32} {a2 : Int32} {a3 : Int32} {r : zRX} (hr : m_X10_take fu σ a1 a2 a3 = some r) : zCx r l g yX10_take cX10_take 4 (some .int) 6 86 [.ref (zA g 0), .int a1, .int a2, .int a3] σ := by
  refine zopenX hl0 (by decide) (Nat.le_of_ble_eq_true rfl) ?_
  intro p e s m below meth c MX ls hl I
  have MX : zMX RX10 cX10_take 4 (some .int) g l p m c s ([.ref (zA g 0), .int a1, .int a2, .int a3] : List Value).toArray meth := MX
  have hl : lv_has ls 4 [(0, .ref (zA g 0)), (1, .int a1), (2, .int a2), (3, .int a3)] := hl
  generalize ([.ref (zA g 0), .int a1, .int a2, .int a3] : List Value).toArray = args at MX ⊢
  have M := MX.1
  have hx := M.1.1
  have hb := M.1.2.1
  unfold m_X10_take at hr
  refine lv_aload_n hx hb dX10_take_0 rfl (lv_at hl 0 rfl) ?_
  refine lv_iload_n hx hb dX10_take_1 rfl (lv_at hl 1 rfl) ?_
  refine lv_iload_n hx hb dX10_take_2 rfl (lv_at hl 2 rfl) ?_
  obtain ⟨x1, e_x1, hr⟩ := zb_some hr
  refine zcallI M I (zrunV (as := [.int a1, .int a2]) M I (c_X10_isPlace l g fu e_x1) zc_0 zK10.1 (by decide) zlv_X10_107 ⟨Nat.le_of_ble_eq_true rfl, Nat.le_of_ble_eq_true rfl⟩ ⟨Nat.zero_le _, Nat.zero_le _⟩ rfl rfl (Nat.le_of_ble_eq_true rfl) hl.1 dX10_take_3) (fun H locs I => ?_)
  refine lv_if_ne (tgt := 19) hx hb dX10_take_6 (by decide) (fun c11 => ?_) (fun c11 => ?_)
  · replace hr := zif_t hr c11
    refine lv_iload_n hx hb dX10_take_19 rfl (lv_at hl 3 rfl) ?_
    refine lv_iconst (v := (1 : Int32)) hx hb dX10_take_20 (by decide) ?_
    refine lv_icmp_lt (tgt := 41) hx hb dX10_take_21 (by decide) (fun c10 => ?_) (fun c10 => ?_)
    · replace hr := zif_t hr c10
      exact zthrow (k := 1) MX I (by decide) (Option.some.inj hr).symm (zin (i := 801) (by decide +kernel) rfl) (zin (i := 84) (by decide +kernel) rfl) (List.mem_of_getElem? (i := 3) rfl) dX10_take_41 dX10_take_44 dX10_take_45 dX10_take_47 dX10_take_50 hl.1 (by decide)
    · replace hr := zif_f hr c10
      refine lv_iload_n hx hb dX10_take_24 rfl (lv_at hl 3 rfl) ?_
      refine lv_aload_n hx hb dX10_take_25 rfl (lv_at hl 0 rfl) ?_
      refine zgetR (j := 1) M I zc_0 zfl_X10_10 dX10_take_26 rfl ?_
      refine lv_iload_n hx hb dX10_take_29 rfl (lv_at hl 1 rfl) ?_
      obtain ⟨x2, e_x2, hr⟩ := zb_some hr
      refine zcallR M I (zrunV (as := [.int a1]) M I (c_X7_rowOf l g fu zc_1 e_x2) zc_1 zK7.1 (by decide) zlv_X10_70 ⟨Nat.le_of_ble_eq_true rfl, Nat.le_of_ble_eq_true rfl⟩ ⟨Nat.zero_le _, Nat.zero_le _⟩ rfl rfl (Nat.le_of_ble_eq_true rfl) hl.1 dX10_take_30) (fun H locs I => ?_)
      obtain ⟨x3, e_x3, hr⟩ := zb_some hr
      refine zcallI M I (zrunV (as := []) M I (c_X6_size l g fu (zq_X7_rowOf zc_1 e_x2) e_x3) (zq_X7_rowOf zc_1 e_x2) zK6.1 (by decide) zlv_X10_74 ⟨Nat.le_of_ble_eq_true rfl, Nat.le_of_ble_eq_true rfl⟩ ⟨Nat.zero_le _, Nat.zero_le _⟩ rfl rfl (Nat.le_of_ble_eq_true rfl) hl.1 dX10_take_33) (fun H locs I => ?_)
      refine lv_iload_n hx hb dX10_take_36 rfl (lv_at hl 2 rfl) ?_
      refine lv_isub hx hb dX10_take_37 ?_
      refine lv_icmp_le (tgt := 51) hx hb dX10_take_38 (by decide) (fun c9 => ?_) (fun c9 => ?_)
      · replace hr := zif_t hr c9
        refine lv_aload_n hx hb dX10_take_51 rfl (lv_at hl 0 rfl) ?_
        obtain ⟨x4, e_x4, hr⟩ := zb_some hr
        refine zcallU M I (zrunV (as := []) M I (c_X10_saveState l g fu e_x4) zc_0 zK10.1 (by decide) zlv_X10_100 ⟨Nat.le_of_ble_eq_true rfl, Nat.le_of_ble_eq_true rfl⟩ ⟨Nat.zero_le _, Nat.zero_le _⟩ rfl rfl (Nat.le_of_ble_eq_true rfl) hl.1 dX10_take_52) (fun H locs I => ?_)
        refine lv_aload_n hx hb dX10_take_55 rfl (lv_at hl 0 rfl) ?_
        refine zgetR (j := 1) M I zc_0 zfl_X10_10 dX10_take_56 rfl ?_
        refine lv_iload_n hx hb dX10_take_59 rfl (lv_at hl 1 rfl) ?_
        obtain ⟨x5, e_x5, hr⟩ := zb_some hr
        refine zcallR M I (zrunV (as := [.int a1]) M I (c_X7_rowOf l g fu zc_1 e_x5) zc_1 zK7.1 (by decide) zlv_X10_70 ⟨Nat.le_of_ble_eq_true rfl, Nat.le_of_ble_eq_true rfl⟩ ⟨Nat.zero_le _, Nat.zero_le _⟩ rfl rfl (Nat.le_of_ble_eq_true rfl) hl.1 dX10_take_60) (fun H locs I => ?_)
        refine lv_iload_n hx hb dX10_take_63 rfl (lv_at hl 2 rfl) ?_
        refine lv_iload_n hx hb dX10_take_64 rfl (lv_at hl 3 rfl) ?_
        obtain ⟨x6, e_x6, hr⟩ := zb_some hr
        refine zcallU M I (zrunV (as := [.int a2, .int a3]) M I (c_X6_remove l g fu (zq_X7_rowOf zc_1 e_x5) e_x6) (zq_X7_rowOf zc_1 e_x5) zK6.1 (by decide) zlv_X10_113 ⟨Nat.le_of_ble_eq_true rfl, Nat.le_of_ble_eq_true rfl⟩ ⟨Nat.zero_le _, Nat.zero_le _⟩ rfl rfl (Nat.le_of_ble_eq_true rfl) hl.1 dX10_take_65) (fun H locs I => ?_)
        refine lv_aload_n hx hb dX10_take_68 rfl (lv_at hl 0 rfl) ?_
        refine zgetR (j := 1) M I zc_0 zfl_X10_10 dX10_take_69 rfl ?_
        refine lv_iload_n hx hb dX10_take_72 rfl (lv_at hl 1 rfl) ?_
        obtain ⟨x7, e_x7, hr⟩ := zb_some hr
        refine zcallR M I (zrunV (as := [.int a1]) M I (c_X7_rowOf l g fu zc_1 e_x7) zc_1 zK7.1 (by decide) zlv_X10_70 ⟨Nat.le_of_ble_eq_true rfl, Nat.le_of_ble_eq_true rfl⟩ ⟨Nat.zero_le _, Nat.zero_le _⟩ rfl rfl (Nat.le_of_ble_eq_true rfl) hl.1 dX10_take_73) (fun H locs I => ?_)
        obtain ⟨x8, e_x8, hr⟩ := zb_some hr
        refine zcallI M I (zrunV (as := []) M I (c_X6_size l g fu (zq_X7_rowOf zc_1 e_x7) e_x8) (zq_X7_rowOf zc_1 e_x7) zK6.1 (by decide) zlv_X10_74 ⟨Nat.le_of_ble_eq_true rfl, Nat.le_of_ble_eq_true rfl⟩ ⟨Nat.zero_le _, Nat.zero_le _⟩ rfl rfl (Nat.le_of_ble_eq_true rfl) hl.1 dX10_take_76) (fun H locs I => ?_)
        exact zretX MX I (Option.some.inj hr).symm dX10_take_79
      · replace hr := zif_f hr c9
        exact zthrow (k := 1) MX I (by decide) (Option.some.inj hr).symm (zin (i := 801) (by decide +kernel) rfl) (zin (i := 84) (by decide +kernel) rfl) (List.mem_of_getElem? (i := 3) rfl) dX10_take_41 dX10_take_44 dX10_take_45 dX10_take_47 dX10_take_50 hl.1 (by decide)
  · replace hr := zif_f hr (fun hq => hq c11)
    exact zthrow (k := 0) MX I (by decide) (Option.some.inj hr).symm (zin (i := 730) (by decide +kernel) rfl) (zin (i := 83) (by decide +kernel) rfl) (List.mem_of_getElem? (i := 0) rfl) dX10_take_9 dX10_take_12 dX10_take_13 dX10_take_15 dX10_take_18 hl.1 (by decide)
def m_X10_change (fu : Nat) (σ : zmem) (a1 : Int32) (a2 : Int32) (a3 : Int32) : Option (zRX) := (m_X10_isPlace fu σ a1 a2).bind fun x1 => (if ¬ x1 = 0 then (m_X10_isSign fu σ a3).bind fun x2 => (if ¬ x2 = 0 then (m_X10_saveState fu σ).bind fun x3 => (m_X7_rowOf fu x3 1 a1).bind fun x4 => (m_X6_signAt fu x3 x4 a2).bind fun x5 => (m_X7_rowOf fu x3 1 a1).bind fun x6 => (m_X6_write fu x3 x6 a2 a3).bind fun x7 => some (.inr x5, x7) else some (.inl 1, σ)) else some (.inl 0, σ))
set_option maxHeartbeats 4000000 in
set_option maxRecDepth 100000 in
theorem c_X10_change (l : Launch) (hl0 : l.stackTraces = false) (g : zgeo) (fu : Nat) {σ : zmem} {a1 : Int32} {a2 : Int32} {a3 : Int32} {r : zRX} (hr : m_X10_change fu σ a1 a2 a3 = some r) : zCx r l g yX10_change cX10_change 5 (some .int) 6 86 [.ref (zA g 0), .int a1, .int a2, .int a3] σ := by
  refine zopenX hl0 (by decide) (Nat.le_of_ble_eq_true rfl) ?_
  intro p e s m below meth c MX ls hl I
  have MX : zMX RX10 cX10_change 5 (some .int) g l p m c s ([.ref (zA g 0), .int a1, .int a2, .int a3] : List Value).toArray meth := MX
  have hl : lv_has ls 5 [(0, .ref (zA g 0)), (1, .int a1), (2, .int a2), (3, .int a3)] := hl
  generalize ([.ref (zA g 0), .int a1, .int a2, .int a3] : List Value).toArray = args at MX ⊢
  have M := MX.1
  have hx := M.1.1
  have hb := M.1.2.1
  unfold m_X10_change at hr
  refine lv_aload_n hx hb dX10_change_0 rfl (lv_at hl 0 rfl) ?_
  refine lv_iload_n hx hb dX10_change_1 rfl (lv_at hl 1 rfl) ?_
  refine lv_iload_n hx hb dX10_change_2 rfl (lv_at hl 2 rfl) ?_
  obtain ⟨x1, e_x1, hr⟩ := zb_some hr
  refine zcallI M I (zrunV (as := [.int a1, .int a2]) M I (c_X10_isPlace l g fu e_x1) zc_0 zK10.1 (by decide) zlv_X10_107 ⟨Nat.le_of_ble_eq_true rfl, Nat.le_of_ble_eq_true rfl⟩ ⟨Nat.zero_le _, Nat.zero_le _⟩ rfl rfl (Nat.le_of_ble_eq_true rfl) hl.1 dX10_change_3) (fun H locs I => ?_)
  refine lv_if_ne (tgt := 19) hx hb dX10_change_6 (by decide) (fun c9 => ?_) (fun c9 => ?_)
  · replace hr := zif_t hr c9
    refine lv_iload_n hx hb dX10_change_19 rfl (lv_at hl 3 rfl) ?_
    obtain ⟨x2, e_x2, hr⟩ := zb_some hr
    refine zcallI M I (zrunS (as := [.int a3]) M I (c_X10_isSign l g fu e_x2) zls_X10_87 ⟨Nat.le_of_ble_eq_true rfl, Nat.le_of_ble_eq_true rfl⟩ ⟨Nat.zero_le _, Nat.zero_le _⟩ rfl rfl (Nat.le_of_ble_eq_true rfl) hl.1 dX10_change_20) (fun H locs I => ?_)
    refine lv_if_ne (tgt := 36) hx hb dX10_change_23 (by decide) (fun c8 => ?_) (fun c8 => ?_)
    · replace hr := zif_t hr c8
      refine lv_aload_n hx hb dX10_change_36 rfl (lv_at hl 0 rfl) ?_
      obtain ⟨x3, e_x3, hr⟩ := zb_some hr
      refine zcallU M I (zrunV (as := []) M I (c_X10_saveState l g fu e_x3) zc_0 zK10.1 (by decide) zlv_X10_100 ⟨Nat.le_of_ble_eq_true rfl, Nat.le_of_ble_eq_true rfl⟩ ⟨Nat.zero_le _, Nat.zero_le _⟩ rfl rfl (Nat.le_of_ble_eq_true rfl) hl.1 dX10_change_37) (fun H locs I => ?_)
      refine lv_aload_n hx hb dX10_change_40 rfl (lv_at hl 0 rfl) ?_
      refine zgetR (j := 1) M I zc_0 zfl_X10_10 dX10_change_41 rfl ?_
      refine lv_iload_n hx hb dX10_change_44 rfl (lv_at hl 1 rfl) ?_
      obtain ⟨x4, e_x4, hr⟩ := zb_some hr
      refine zcallR M I (zrunV (as := [.int a1]) M I (c_X7_rowOf l g fu zc_1 e_x4) zc_1 zK7.1 (by decide) zlv_X10_70 ⟨Nat.le_of_ble_eq_true rfl, Nat.le_of_ble_eq_true rfl⟩ ⟨Nat.zero_le _, Nat.zero_le _⟩ rfl rfl (Nat.le_of_ble_eq_true rfl) hl.1 dX10_change_45) (fun H locs I => ?_)
      refine lv_iload_n hx hb dX10_change_48 rfl (lv_at hl 2 rfl) ?_
      obtain ⟨x5, e_x5, hr⟩ := zb_some hr
      refine zcallI M I (zrunV (as := [.int a2]) M I (c_X6_signAt l g fu (zq_X7_rowOf zc_1 e_x4) e_x5) (zq_X7_rowOf zc_1 e_x4) zK6.1 (by decide) zlv_X10_116 ⟨Nat.le_of_ble_eq_true rfl, Nat.le_of_ble_eq_true rfl⟩ ⟨Nat.zero_le _, Nat.zero_le _⟩ rfl rfl (Nat.le_of_ble_eq_true rfl) hl.1 dX10_change_49) (fun H locs I => ?_)
      refine lv_istore (lv' := [(4, .int x5), (0, .ref (zA g 0)), (1, .int a1), (2, .int a2), (3, .int a3)]) hx hb dX10_change_52 hl (by decide) rfl (fun ls hl => ?_)
      refine lv_aload_n hx hb dX10_change_54 rfl (lv_at hl 1 rfl) ?_
      refine zgetR (j := 1) M I zc_0 zfl_X10_10 dX10_change_55 rfl ?_
      refine lv_iload_n hx hb dX10_change_58 rfl (lv_at hl 2 rfl) ?_
      obtain ⟨x6, e_x6, hr⟩ := zb_some hr
      refine zcallR M I (zrunV (as := [.int a1]) M I (c_X7_rowOf l g fu zc_1 e_x6) zc_1 zK7.1 (by decide) zlv_X10_70 ⟨Nat.le_of_ble_eq_true rfl, Nat.le_of_ble_eq_true rfl⟩ ⟨Nat.zero_le _, Nat.zero_le _⟩ rfl rfl (Nat.le_of_ble_eq_true rfl) hl.1 dX10_change_59) (fun H locs I => ?_)
      refine lv_iload_n hx hb dX10_change_62 rfl (lv_at hl 3 rfl) ?_
      refine lv_iload_n hx hb dX10_change_63 rfl (lv_at hl 4 rfl) ?_
      obtain ⟨x7, e_x7, hr⟩ := zb_some hr
      refine zcallU M I (zrunV (as := [.int a2, .int a3]) M I (c_X6_write l g fu (zq_X7_rowOf zc_1 e_x6) e_x7) (zq_X7_rowOf zc_1 e_x6) zK6.1 (by decide) zlv_X10_120 ⟨Nat.le_of_ble_eq_true rfl, Nat.le_of_ble_eq_true rfl⟩ ⟨Nat.zero_le _, Nat.zero_le _⟩ rfl rfl (Nat.le_of_ble_eq_true rfl) hl.1 dX10_change_64) (fun H locs I => ?_)
      refine lv_iload hx hb dX10_change_67 (lv_at hl 0 rfl) ?_
      exact zretX MX I (Option.some.inj hr).symm dX10_change_69
    · replace hr := zif_f hr (fun hq => hq c8)
      exact zthrow (k := 1) MX I (by decide) (Option.some.inj hr).symm (zin (i := 801) (by decide +kernel) rfl) (zin (i := 84) (by decide +kernel) rfl) (List.mem_of_getElem? (i := 1) rfl) dX10_change_26 dX10_change_29 dX10_change_30 dX10_change_32 dX10_change_35 hl.1 (by decide)
  · replace hr := zif_f hr (fun hq => hq c9)
    exact zthrow (k := 0) MX I (by decide) (Option.some.inj hr).symm (zin (i := 730) (by decide +kernel) rfl) (zin (i := 83) (by decide +kernel) rfl) (List.mem_of_getElem? (i := 0) rfl) dX10_change_9 dX10_change_12 dX10_change_13 dX10_change_15 dX10_change_18 hl.1 (by decide)
def m_X10_turn (fu : Nat) (σ : zmem) (a1 : Int32) (a2 : Int32) (a3 : Int32) : Option (zRX) := (m_X10_isPlace fu σ a1 a2).bind fun x1 => (if x1 = 0 then some (.inl 0, σ) else (m_X10_isPlace fu σ a1 a3).bind fun x2 => (if ¬ x2 = 0 then (if a2 ≤ a3 then (m_X10_saveState fu σ).bind fun x3 => (m_X7_rowOf fu x3 1 a1).bind fun x4 => (m_X6_reverse fu x3 x4 a2 a3).bind fun x5 => some (.inr x5.1, x5.2) else some (.inl 1, σ)) else some (.inl 0, σ)))
set_option maxHeartbeats 4000000 in
set_option maxRecDepth 100000 in
theorem c_X10_turn (l : Launch) (hl0 : l.stackTraces = false) (g : zgeo) (fu : Nat) {σ : zmem} {a1 : Int32} {a2 : Int32} {a3 : Int32} {r : zRX} (hr : m_X10_turn fu σ a1 a2 a3 = some r) : zCx r l g yX10_turn cX10_turn 4 (some .int) 6 86 [.ref (zA g 0), .int a1, .int a2, .int a3] σ := by
  refine zopenX hl0 (by decide) (Nat.le_of_ble_eq_true rfl) ?_
  intro p e s m below meth c MX ls hl I
  have MX : zMX RX10 cX10_turn 4 (some .int) g l p m c s ([.ref (zA g 0), .int a1, .int a2, .int a3] : List Value).toArray meth := MX
  have hl : lv_has ls 4 [(0, .ref (zA g 0)), (1, .int a1), (2, .int a2), (3, .int a3)] := hl
  generalize ([.ref (zA g 0), .int a1, .int a2, .int a3] : List Value).toArray = args at MX ⊢
  have M := MX.1
  have hx := M.1.1
  have hb := M.1.2.1
  unfold m_X10_turn at hr
  refine lv_aload_n hx hb dX10_turn_0 rfl (lv_at hl 0 rfl) ?_
  refine lv_iload_n hx hb dX10_turn_1 rfl (lv_at hl 1 rfl) ?_
  refine lv_iload_n hx hb dX10_turn_2 rfl (lv_at hl 2 rfl) ?_
  obtain ⟨x1, e_x1, hr⟩ := zb_some hr
  refine zcallI M I (zrunV (as := [.int a1, .int a2]) M I (c_X10_isPlace l g fu e_x1) zc_0 zK10.1 (by decide) zlv_X10_107 ⟨Nat.le_of_ble_eq_true rfl, Nat.le_of_ble_eq_true rfl⟩ ⟨Nat.zero_le _, Nat.zero_le _⟩ rfl rfl (Nat.le_of_ble_eq_true rfl) hl.1 dX10_turn_3) (fun H locs I => ?_)
  refine lv_if_eq (tgt := 18) hx hb dX10_turn_6 (by decide) (fun c8 => ?_) (fun c8 => ?_)
  · replace hr := zif_t hr c8
    exact zthrow (k := 0) MX I (by decide) (Option.some.inj hr).symm (zin (i := 730) (by decide +kernel) rfl) (zin (i := 83) (by decide +kernel) rfl) (List.mem_of_getElem? (i := 0) rfl) dX10_turn_18 dX10_turn_21 dX10_turn_22 dX10_turn_24 dX10_turn_27 hl.1 (by decide)
  · replace hr := zif_f hr c8
    refine lv_aload_n hx hb dX10_turn_9 rfl (lv_at hl 0 rfl) ?_
    refine lv_iload_n hx hb dX10_turn_10 rfl (lv_at hl 1 rfl) ?_
    refine lv_iload_n hx hb dX10_turn_11 rfl (lv_at hl 3 rfl) ?_
    obtain ⟨x2, e_x2, hr⟩ := zb_some hr
    refine zcallI M I (zrunV (as := [.int a1, .int a3]) M I (c_X10_isPlace l g fu e_x2) zc_0 zK10.1 (by decide) zlv_X10_107 ⟨Nat.le_of_ble_eq_true rfl, Nat.le_of_ble_eq_true rfl⟩ ⟨Nat.zero_le _, Nat.zero_le _⟩ rfl rfl (Nat.le_of_ble_eq_true rfl) hl.1 dX10_turn_12) (fun H locs I => ?_)
    refine lv_if_ne (tgt := 28) hx hb dX10_turn_15 (by decide) (fun c7 => ?_) (fun c7 => ?_)
    · replace hr := zif_t hr c7
      refine lv_iload_n hx hb dX10_turn_28 rfl (lv_at hl 3 rfl) ?_
      refine lv_iload_n hx hb dX10_turn_29 rfl (lv_at hl 2 rfl) ?_
      refine lv_icmp_ge (tgt := 43) hx hb dX10_turn_30 (by decide) (fun c6 => ?_) (fun c6 => ?_)
      · replace hr := zif_t hr c6
        refine lv_aload_n hx hb dX10_turn_43 rfl (lv_at hl 0 rfl) ?_
        obtain ⟨x3, e_x3, hr⟩ := zb_some hr
        refine zcallU M I (zrunV (as := []) M I (c_X10_saveState l g fu e_x3) zc_0 zK10.1 (by decide) zlv_X10_100 ⟨Nat.le_of_ble_eq_true rfl, Nat.le_of_ble_eq_true rfl⟩ ⟨Nat.zero_le _, Nat.zero_le _⟩ rfl rfl (Nat.le_of_ble_eq_true rfl) hl.1 dX10_turn_44) (fun H locs I => ?_)
        refine lv_aload_n hx hb dX10_turn_47 rfl (lv_at hl 0 rfl) ?_
        refine zgetR (j := 1) M I zc_0 zfl_X10_10 dX10_turn_48 rfl ?_
        refine lv_iload_n hx hb dX10_turn_51 rfl (lv_at hl 1 rfl) ?_
        obtain ⟨x4, e_x4, hr⟩ := zb_some hr
        refine zcallR M I (zrunV (as := [.int a1]) M I (c_X7_rowOf l g fu zc_1 e_x4) zc_1 zK7.1 (by decide) zlv_X10_70 ⟨Nat.le_of_ble_eq_true rfl, Nat.le_of_ble_eq_true rfl⟩ ⟨Nat.zero_le _, Nat.zero_le _⟩ rfl rfl (Nat.le_of_ble_eq_true rfl) hl.1 dX10_turn_52) (fun H locs I => ?_)
        refine lv_iload_n hx hb dX10_turn_55 rfl (lv_at hl 2 rfl) ?_
        refine lv_iload_n hx hb dX10_turn_56 rfl (lv_at hl 3 rfl) ?_
        obtain ⟨x5, e_x5, hr⟩ := zb_some hr
        refine zcallI M I (zrunV (as := [.int a2, .int a3]) M I (c_X6_reverse l g fu (zq_X7_rowOf zc_1 e_x4) e_x5) (zq_X7_rowOf zc_1 e_x4) zK6.1 (by decide) zlv_X10_125 ⟨Nat.le_of_ble_eq_true rfl, Nat.le_of_ble_eq_true rfl⟩ ⟨Nat.zero_le _, Nat.zero_le _⟩ rfl rfl (Nat.le_of_ble_eq_true rfl) hl.1 dX10_turn_57) (fun H locs I => ?_)
        exact zretX MX I (Option.some.inj hr).symm dX10_turn_60
      · replace hr := zif_f hr c6
        exact zthrow (k := 1) MX I (by decide) (Option.some.inj hr).symm (zin (i := 801) (by decide +kernel) rfl) (zin (i := 84) (by decide +kernel) rfl) (List.mem_of_getElem? (i := 4) rfl) dX10_turn_33 dX10_turn_36 dX10_turn_37 dX10_turn_39 dX10_turn_42 hl.1 (by decide)
    · replace hr := zif_f hr (fun hq => hq c7)
      exact zthrow (k := 0) MX I (by decide) (Option.some.inj hr).symm (zin (i := 730) (by decide +kernel) rfl) (zin (i := 83) (by decide +kernel) rfl) (List.mem_of_getElem? (i := 0) rfl) dX10_turn_18 dX10_turn_21 dX10_turn_22 dX10_turn_24 dX10_turn_27 hl.1 (by decide)
def l_X10_copy_91 (fu : Nat) (a1 : Int32) (a3 : Int32) (a4 : Int32) : Nat → Int32 → zmem → Option (zmem)
  | 0, _, _ => none
  | n + 1, v5, σ => (if a3 < v5 then some σ else (m_X7_rowOf fu σ 1 a4).bind fun x7 => (m_X7_rowOf fu σ 1 a1).bind fun x8 => (m_X6_signAt fu σ x8 v5).bind fun x9 => (m_X6_extend fu σ x7 x9).bind fun x10 => l_X10_copy_91 fu a1 a3 a4 n (v5 + 1) x10)
set_option maxHeartbeats 4000000 in
set_option maxRecDepth 100000 in
theorem k_X10_copy_91 {l : Launch} {g : zgeo} {fu : Nat} {p : Program} {e : Env} {s : State} {m : MethodId} {args : Array Value} {below : List Frame} {meth : Method} {c : Code} (M : zMC RX10 cX10_copy 6 (some .int) g p m c s args meth) {a1 : Int32} {a3 : Int32} {a4 : Int32} {Q : State → Prop} : ∀ (n : Nat) (v5 : Int32) (σ : zmem) (o : zmem), l_X10_copy_91 fu a1 a3 a4 n v5 σ = some o → ∀ (ls : Array Slot) (H : Heap) (locs : List Loc), lv_has ls 6 [(0, .ref (zA g 0)), (1, .int a1), (3, .int a3), (4, .int a4), (5, .int v5)] → zIV g σ (zAA g) s.heap H locs → (∀ (ls : Array Slot) (H : Heap) (locs : List Loc), lv_has ls 6 [(0, .ref (zA g 0)), (4, .int a4)] → zIV g o (zAA g) s.heap H locs → W p l e (zrx 6 86) s m args below meth c H locs 0 0 Q (F0 m 128 ls [])) → W p l e (zrx 6 86) s m args below meth c H locs 0 0 Q (F0 m 91 ls []) := by
  have hx := M.1.1
  have hb := M.1.2.1
  intro n
  induction n with
  | zero =>
    intro v5 σ o hr ls H locs hl I KF
    have hr : (none : Option (zmem)) = some o := hr
    cases hr
  | succ n ih =>
    intro v5 σ o hr ls H locs hl I KF
    rw [l_X10_copy_91] at hr
    refine lv_iload hx hb dX10_copy_91 (lv_at hl 4 rfl) ?_
    refine lv_iload_n hx hb dX10_copy_93 rfl (lv_at hl 2 rfl) ?_
    refine lv_icmp_gt (tgt := 128) hx hb dX10_copy_94 (by decide) (fun c11 => ?_) (fun c11 => ?_)
    · replace hr := zif_t hr c11
      obtain rfl := Option.some.inj hr
      exact KF ls _ _ (lv_sub hl [0, 3] rfl) I
    · replace hr := zif_f hr c11
      refine lv_aload_n hx hb dX10_copy_97 rfl (lv_at hl 0 rfl) ?_
      refine zgetR (j := 1) M I zc_0 zfl_X10_10 dX10_copy_98 rfl ?_
      refine lv_iload hx hb dX10_copy_101 (lv_at hl 3 rfl) ?_
      obtain ⟨x7, e_x7, hr⟩ := zb_some hr
      refine zcallR M I (zrunV (as := [.int a4]) M I (c_X7_rowOf l g fu zc_1 e_x7) zc_1 zK7.1 (by decide) zlv_X10_70 ⟨Nat.le_of_ble_eq_true rfl, Nat.le_of_ble_eq_true rfl⟩ ⟨Nat.zero_le _, Nat.zero_le _⟩ rfl rfl (Nat.le_of_ble_eq_true rfl) hl.1 dX10_copy_103) (fun H locs I => ?_)
      refine lv_aload_n hx hb dX10_copy_106 rfl (lv_at hl 0 rfl) ?_
      refine zgetR (j := 1) M I zc_0 zfl_X10_10 dX10_copy_107 rfl ?_
      refine lv_iload_n hx hb dX10_copy_110 rfl (lv_at hl 1 rfl) ?_
      obtain ⟨x8, e_x8, hr⟩ := zb_some hr
      refine zcallR M I (zrunV (as := [.int a1]) M I (c_X7_rowOf l g fu zc_1 e_x8) zc_1 zK7.1 (by decide) zlv_X10_70 ⟨Nat.le_of_ble_eq_true rfl, Nat.le_of_ble_eq_true rfl⟩ ⟨Nat.zero_le _, Nat.zero_le _⟩ rfl rfl (Nat.le_of_ble_eq_true rfl) hl.1 dX10_copy_111) (fun H locs I => ?_)
      refine lv_iload hx hb dX10_copy_114 (lv_at hl 4 rfl) ?_
      obtain ⟨x9, e_x9, hr⟩ := zb_some hr
      refine zcallI M I (zrunV (as := [.int v5]) M I (c_X6_signAt l g fu (zq_X7_rowOf zc_1 e_x8) e_x9) (zq_X7_rowOf zc_1 e_x8) zK6.1 (by decide) zlv_X10_116 ⟨Nat.le_of_ble_eq_true rfl, Nat.le_of_ble_eq_true rfl⟩ ⟨Nat.zero_le _, Nat.zero_le _⟩ rfl rfl (Nat.le_of_ble_eq_true rfl) hl.1 dX10_copy_116) (fun H locs I => ?_)
      obtain ⟨x10, e_x10, hr⟩ := zb_some hr
      refine zcallU M I (zrunV (as := [.int x9]) M I (c_X6_extend l g fu (zq_X7_rowOf zc_1 e_x7) e_x10) (zq_X7_rowOf zc_1 e_x7) zK6.1 (by decide) zlv_X10_131 ⟨Nat.le_of_ble_eq_true rfl, Nat.le_of_ble_eq_true rfl⟩ ⟨Nat.zero_le _, Nat.zero_le _⟩ rfl rfl (Nat.le_of_ble_eq_true rfl) hl.1 dX10_copy_119) (fun H locs I => ?_)
      refine lv_iinc (lv' := [(5, .int (v5 + 1)), (0, .ref (zA g 0)), (1, .int a1), (3, .int a3), (4, .int a4)]) (k := 4) (v := (v5 + 1)) hx hb dX10_copy_122 hl rfl (zi_1 _) (by decide) rfl (fun ls hl => ?_)
      refine lv_goto (tgt := 91) hx hb dX10_copy_125 (by decide) ?_
      exact ih _ _  _ hr ls _ _ (lv_sub hl [1, 2, 3, 4, 0] rfl) I KF
def m_X10_copy (fu : Nat) (σ : zmem) (a1 : Int32) (a2 : Int32) (a3 : Int32) (a4 : Int32) : Option (zRX) := (m_X10_isRow fu σ a4).bind fun x1 => (if x1 = 0 then some (.inl 0, σ) else (m_X10_isPlace fu σ a1 a2).bind fun x2 => (if x2 = 0 then some (.inl 0, σ) else (m_X10_isPlace fu σ a1 a3).bind fun x3 => (if ¬ x3 = 0 then (if a2 ≤ a3 then (m_X7_rowOf fu σ 1 a4).bind fun x4 => (m_X6_size fu σ x4).bind fun x5 => (if (((x5 + a3) - a2) + (1 : Int32)) ≤ (24 : Int32) then (m_X10_saveState fu σ).bind fun x6 => (l_X10_copy_91 fu a1 a3 a4 fu a2 x6).bind fun x12 => (m_X7_rowOf fu x12 1 a4).bind fun x13 => (m_X6_size fu x12 x13).bind fun x14 => some (.inr x14, x12) else some (.inl 2, σ)) else some (.inl 1, σ)) else some (.inl 0, σ))))
set_option maxHeartbeats 4000000 in
set_option maxRecDepth 100000 in
theorem c_X10_copy (l : Launch) (hl0 : l.stackTraces = false) (g : zgeo) (fu : Nat) {σ : zmem} {a1 : Int32} {a2 : Int32} {a3 : Int32} {a4 : Int32} {r : zRX} (hr : m_X10_copy fu σ a1 a2 a3 a4 = some r) : zCx r l g yX10_copy cX10_copy 6 (some .int) 6 86 [.ref (zA g 0), .int a1, .int a2, .int a3, .int a4] σ := by
  refine zopenX hl0 (by decide) (Nat.le_of_ble_eq_true rfl) ?_
  intro p e s m below meth c MX ls hl I
  have MX : zMX RX10 cX10_copy 6 (some .int) g l p m c s ([.ref (zA g 0), .int a1, .int a2, .int a3, .int a4] : List Value).toArray meth := MX
  have hl : lv_has ls 6 [(0, .ref (zA g 0)), (1, .int a1), (2, .int a2), (3, .int a3), (4, .int a4)] := hl
  generalize ([.ref (zA g 0), .int a1, .int a2, .int a3, .int a4] : List Value).toArray = args at MX ⊢
  have M := MX.1
  have hx := M.1.1
  have hb := M.1.2.1
  unfold m_X10_copy at hr
  refine lv_iload hx hb dX10_copy_0 (lv_at hl 4 rfl) ?_
  obtain ⟨x1, e_x1, hr⟩ := zb_some hr
  refine zcallI M I (zrunS (as := [.int a4]) M I (c_X10_isRow l g fu e_x1) zls_X10_66 ⟨Nat.le_of_ble_eq_true rfl, Nat.le_of_ble_eq_true rfl⟩ ⟨Nat.zero_le _, Nat.zero_le _⟩ rfl rfl (Nat.le_of_ble_eq_true rfl) hl.1 dX10_copy_2) (fun H locs I => ?_)
  refine lv_if_eq (tgt := 26) hx hb dX10_copy_5 (by decide) (fun c19 => ?_) (fun c19 => ?_)
  · replace hr := zif_t hr c19
    exact zthrow (k := 0) MX I (by decide) (Option.some.inj hr).symm (zin (i := 730) (by decide +kernel) rfl) (zin (i := 83) (by decide +kernel) rfl) (List.mem_of_getElem? (i := 0) rfl) dX10_copy_26 dX10_copy_29 dX10_copy_30 dX10_copy_32 dX10_copy_35 hl.1 (by decide)
  · replace hr := zif_f hr c19
    refine lv_aload_n hx hb dX10_copy_8 rfl (lv_at hl 0 rfl) ?_
    refine lv_iload_n hx hb dX10_copy_9 rfl (lv_at hl 1 rfl) ?_
    refine lv_iload_n hx hb dX10_copy_10 rfl (lv_at hl 2 rfl) ?_
    obtain ⟨x2, e_x2, hr⟩ := zb_some hr
    refine zcallI M I (zrunV (as := [.int a1, .int a2]) M I (c_X10_isPlace l g fu e_x2) zc_0 zK10.1 (by decide) zlv_X10_107 ⟨Nat.le_of_ble_eq_true rfl, Nat.le_of_ble_eq_true rfl⟩ ⟨Nat.zero_le _, Nat.zero_le _⟩ rfl rfl (Nat.le_of_ble_eq_true rfl) hl.1 dX10_copy_11) (fun H locs I => ?_)
    refine lv_if_eq (tgt := 26) hx hb dX10_copy_14 (by decide) (fun c18 => ?_) (fun c18 => ?_)
    · replace hr := zif_t hr c18
      exact zthrow (k := 0) MX I (by decide) (Option.some.inj hr).symm (zin (i := 730) (by decide +kernel) rfl) (zin (i := 83) (by decide +kernel) rfl) (List.mem_of_getElem? (i := 0) rfl) dX10_copy_26 dX10_copy_29 dX10_copy_30 dX10_copy_32 dX10_copy_35 hl.1 (by decide)
    · replace hr := zif_f hr c18
      refine lv_aload_n hx hb dX10_copy_17 rfl (lv_at hl 0 rfl) ?_
      refine lv_iload_n hx hb dX10_copy_18 rfl (lv_at hl 1 rfl) ?_
      refine lv_iload_n hx hb dX10_copy_19 rfl (lv_at hl 3 rfl) ?_
      obtain ⟨x3, e_x3, hr⟩ := zb_some hr
      refine zcallI M I (zrunV (as := [.int a1, .int a3]) M I (c_X10_isPlace l g fu e_x3) zc_0 zK10.1 (by decide) zlv_X10_107 ⟨Nat.le_of_ble_eq_true rfl, Nat.le_of_ble_eq_true rfl⟩ ⟨Nat.zero_le _, Nat.zero_le _⟩ rfl rfl (Nat.le_of_ble_eq_true rfl) hl.1 dX10_copy_20) (fun H locs I => ?_)
      refine lv_if_ne (tgt := 36) hx hb dX10_copy_23 (by decide) (fun c17 => ?_) (fun c17 => ?_)
      · replace hr := zif_t hr c17
        refine lv_iload_n hx hb dX10_copy_36 rfl (lv_at hl 3 rfl) ?_
        refine lv_iload_n hx hb dX10_copy_37 rfl (lv_at hl 2 rfl) ?_
        refine lv_icmp_ge (tgt := 51) hx hb dX10_copy_38 (by decide) (fun c16 => ?_) (fun c16 => ?_)
        · replace hr := zif_t hr c16
          refine lv_aload_n hx hb dX10_copy_51 rfl (lv_at hl 0 rfl) ?_
          refine zgetR (j := 1) M I zc_0 zfl_X10_10 dX10_copy_52 rfl ?_
          refine lv_iload hx hb dX10_copy_55 (lv_at hl 4 rfl) ?_
          obtain ⟨x4, e_x4, hr⟩ := zb_some hr
          refine zcallR M I (zrunV (as := [.int a4]) M I (c_X7_rowOf l g fu zc_1 e_x4) zc_1 zK7.1 (by decide) zlv_X10_70 ⟨Nat.le_of_ble_eq_true rfl, Nat.le_of_ble_eq_true rfl⟩ ⟨Nat.zero_le _, Nat.zero_le _⟩ rfl rfl (Nat.le_of_ble_eq_true rfl) hl.1 dX10_copy_57) (fun H locs I => ?_)
          obtain ⟨x5, e_x5, hr⟩ := zb_some hr
          refine zcallI M I (zrunV (as := []) M I (c_X6_size l g fu (zq_X7_rowOf zc_1 e_x4) e_x5) (zq_X7_rowOf zc_1 e_x4) zK6.1 (by decide) zlv_X10_74 ⟨Nat.le_of_ble_eq_true rfl, Nat.le_of_ble_eq_true rfl⟩ ⟨Nat.zero_le _, Nat.zero_le _⟩ rfl rfl (Nat.le_of_ble_eq_true rfl) hl.1 dX10_copy_60) (fun H locs I => ?_)
          refine lv_iload_n hx hb dX10_copy_63 rfl (lv_at hl 3 rfl) ?_
          refine lv_iadd hx hb dX10_copy_64 ?_
          refine lv_iload_n hx hb dX10_copy_65 rfl (lv_at hl 2 rfl) ?_
          refine lv_isub hx hb dX10_copy_66 ?_
          refine lv_iconst (v := (1 : Int32)) hx hb dX10_copy_67 (by decide) ?_
          refine lv_iadd hx hb dX10_copy_68 ?_
          refine lv_bipush (v := (24 : Int32)) hx hb dX10_copy_69 (by decide) ?_
          refine lv_icmp_le (tgt := 84) hx hb dX10_copy_71 (by decide) (fun c15 => ?_) (fun c15 => ?_)
          · replace hr := zif_t hr c15
            refine lv_aload_n hx hb dX10_copy_84 rfl (lv_at hl 0 rfl) ?_
            obtain ⟨x6, e_x6, hr⟩ := zb_some hr
            refine zcallU M I (zrunV (as := []) M I (c_X10_saveState l g fu e_x6) zc_0 zK10.1 (by decide) zlv_X10_100 ⟨Nat.le_of_ble_eq_true rfl, Nat.le_of_ble_eq_true rfl⟩ ⟨Nat.zero_le _, Nat.zero_le _⟩ rfl rfl (Nat.le_of_ble_eq_true rfl) hl.1 dX10_copy_85) (fun H locs I => ?_)
            refine lv_iload_n hx hb dX10_copy_88 rfl (lv_at hl 2 rfl) ?_
            refine lv_istore (lv' := [(5, .int a2), (0, .ref (zA g 0)), (1, .int a1), (2, .int a2), (3, .int a3), (4, .int a4)]) hx hb dX10_copy_89 hl (by decide) rfl (fun ls hl => ?_)
            obtain ⟨x12, e_x12, hr⟩ := zb_some hr
            refine k_X10_copy_91 M  fu _ _  _ e_x12 ls _ _ (lv_sub hl [1, 2, 4, 5, 0] rfl) I (fun ls H locs hl I => ?_)
            refine lv_aload_n hx hb dX10_copy_128 rfl (lv_at hl 0 rfl) ?_
            refine zgetR (j := 1) M I zc_0 zfl_X10_10 dX10_copy_129 rfl ?_
            refine lv_iload hx hb dX10_copy_132 (lv_at hl 1 rfl) ?_
            obtain ⟨x13, e_x13, hr⟩ := zb_some hr
            refine zcallR M I (zrunV (as := [.int a4]) M I (c_X7_rowOf l g fu zc_1 e_x13) zc_1 zK7.1 (by decide) zlv_X10_70 ⟨Nat.le_of_ble_eq_true rfl, Nat.le_of_ble_eq_true rfl⟩ ⟨Nat.zero_le _, Nat.zero_le _⟩ rfl rfl (Nat.le_of_ble_eq_true rfl) hl.1 dX10_copy_134) (fun H locs I => ?_)
            obtain ⟨x14, e_x14, hr⟩ := zb_some hr
            refine zcallI M I (zrunV (as := []) M I (c_X6_size l g fu (zq_X7_rowOf zc_1 e_x13) e_x14) (zq_X7_rowOf zc_1 e_x13) zK6.1 (by decide) zlv_X10_74 ⟨Nat.le_of_ble_eq_true rfl, Nat.le_of_ble_eq_true rfl⟩ ⟨Nat.zero_le _, Nat.zero_le _⟩ rfl rfl (Nat.le_of_ble_eq_true rfl) hl.1 dX10_copy_137) (fun H locs I => ?_)
            exact zretX MX I (Option.some.inj hr).symm dX10_copy_140
          · replace hr := zif_f hr c15
            exact zthrow (k := 2) MX I (by decide) (Option.some.inj hr).symm (zin (i := 817) (by decide +kernel) rfl) (zin (i := 85) (by decide +kernel) rfl) (List.mem_of_getElem? (i := 5) rfl) dX10_copy_74 dX10_copy_77 dX10_copy_78 dX10_copy_80 dX10_copy_83 hl.1 (by decide)
        · replace hr := zif_f hr c16
          exact zthrow (k := 1) MX I (by decide) (Option.some.inj hr).symm (zin (i := 801) (by decide +kernel) rfl) (zin (i := 84) (by decide +kernel) rfl) (List.mem_of_getElem? (i := 4) rfl) dX10_copy_41 dX10_copy_44 dX10_copy_45 dX10_copy_47 dX10_copy_50 hl.1 (by decide)
      · replace hr := zif_f hr (fun hq => hq c17)
        exact zthrow (k := 0) MX I (by decide) (Option.some.inj hr).symm (zin (i := 730) (by decide +kernel) rfl) (zin (i := 83) (by decide +kernel) rfl) (List.mem_of_getElem? (i := 0) rfl) dX10_copy_26 dX10_copy_29 dX10_copy_30 dX10_copy_32 dX10_copy_35 hl.1 (by decide)
def m_X10_set (fu : Nat) (σ : zmem) (a1 : Int32) (a2 : Int32) : Option (zRX) := (m_X10_isSetting fu σ a1).bind fun x1 => (if ¬ x1 = 0 then (m_X10_isValueOf fu σ a1 a2).bind fun x2 => (if ¬ x2 = 0 then (m_X10_saveState fu σ).bind fun x3 => (m_X1_at fu x3 6 a1).bind fun x4 => (m_X1_store fu x3 6 a1 a2).bind fun x5 => some (.inr x4, x5) else some (.inl 1, σ)) else some (.inl 0, σ))
set_option maxHeartbeats 4000000 in
set_option maxRecDepth 100000 in
theorem c_X10_set (l : Launch) (hl0 : l.stackTraces = false) (g : zgeo) (fu : Nat) {σ : zmem} {a1 : Int32} {a2 : Int32} {r : zRX} (hr : m_X10_set fu σ a1 a2 = some r) : zCx r l g yX10_set cX10_set 4 (some .int) 6 86 [.ref (zA g 0), .int a1, .int a2] σ := by
  refine zopenX hl0 (by decide) (Nat.le_of_ble_eq_true rfl) ?_
  intro p e s m below meth c MX ls hl I
  have MX : zMX RX10 cX10_set 4 (some .int) g l p m c s ([.ref (zA g 0), .int a1, .int a2] : List Value).toArray meth := MX
  have hl : lv_has ls 4 [(0, .ref (zA g 0)), (1, .int a1), (2, .int a2)] := hl
  generalize ([.ref (zA g 0), .int a1, .int a2] : List Value).toArray = args at MX ⊢
  have M := MX.1
  have hx := M.1.1
  have hb := M.1.2.1
  unfold m_X10_set at hr
  refine lv_iload_n hx hb dX10_set_0 rfl (lv_at hl 1 rfl) ?_
  obtain ⟨x1, e_x1, hr⟩ := zb_some hr
  refine zcallI M I (zrunS (as := [.int a1]) M I (c_X10_isSetting l g fu e_x1) zls_X10_151 ⟨Nat.le_of_ble_eq_true rfl, Nat.le_of_ble_eq_true rfl⟩ ⟨Nat.zero_le _, Nat.zero_le _⟩ rfl rfl (Nat.le_of_ble_eq_true rfl) hl.1 dX10_set_1) (fun H locs I => ?_)
  refine lv_if_ne (tgt := 17) hx hb dX10_set_4 (by decide) (fun c7 => ?_) (fun c7 => ?_)
  · replace hr := zif_t hr c7
    refine lv_iload_n hx hb dX10_set_17 rfl (lv_at hl 1 rfl) ?_
    refine lv_iload_n hx hb dX10_set_18 rfl (lv_at hl 2 rfl) ?_
    obtain ⟨x2, e_x2, hr⟩ := zb_some hr
    refine zcallI M I (zrunS (as := [.int a1, .int a2]) M I (c_X10_isValueOf l g fu e_x2) zls_X10_156 ⟨Nat.le_of_ble_eq_true rfl, Nat.le_of_ble_eq_true rfl⟩ ⟨Nat.zero_le _, Nat.zero_le _⟩ rfl rfl (Nat.le_of_ble_eq_true rfl) hl.1 dX10_set_19) (fun H locs I => ?_)
    refine lv_if_ne (tgt := 35) hx hb dX10_set_22 (by decide) (fun c6 => ?_) (fun c6 => ?_)
    · replace hr := zif_t hr c6
      refine lv_aload_n hx hb dX10_set_35 rfl (lv_at hl 0 rfl) ?_
      obtain ⟨x3, e_x3, hr⟩ := zb_some hr
      refine zcallU M I (zrunV (as := []) M I (c_X10_saveState l g fu e_x3) zc_0 zK10.1 (by decide) zlv_X10_100 ⟨Nat.le_of_ble_eq_true rfl, Nat.le_of_ble_eq_true rfl⟩ ⟨Nat.zero_le _, Nat.zero_le _⟩ rfl rfl (Nat.le_of_ble_eq_true rfl) hl.1 dX10_set_36) (fun H locs I => ?_)
      refine lv_aload_n hx hb dX10_set_39 rfl (lv_at hl 0 rfl) ?_
      refine zgetR (j := 1) M I zc_0 zfl_X10_10 dX10_set_40 rfl ?_
      refine zgetR (j := 6) M I zc_1 zfl_X10_161 dX10_set_43 rfl ?_
      refine lv_iload_n hx hb dX10_set_46 rfl (lv_at hl 1 rfl) ?_
      obtain ⟨x4, e_x4, hr⟩ := zb_some hr
      refine zcallI M I (zrunV (as := [.int a1]) M I (c_X1_at l g fu zc_6 e_x4) zc_6 zK1.1 (by decide) zlv_X10_165 ⟨Nat.le_of_ble_eq_true rfl, Nat.le_of_ble_eq_true rfl⟩ ⟨Nat.zero_le _, Nat.zero_le _⟩ rfl rfl (Nat.le_of_ble_eq_true rfl) hl.1 dX10_set_47) (fun H locs I => ?_)
      refine lv_istore_n (lv' := [(3, .int x4), (0, .ref (zA g 0)), (1, .int a1), (2, .int a2)]) hx hb dX10_set_50 rfl hl (by decide) rfl (fun ls hl => ?_)
      refine lv_aload_n hx hb dX10_set_51 rfl (lv_at hl 1 rfl) ?_
      refine zgetR (j := 1) M I zc_0 zfl_X10_10 dX10_set_52 rfl ?_
      refine zgetR (j := 6) M I zc_1 zfl_X10_161 dX10_set_55 rfl ?_
      refine lv_iload_n hx hb dX10_set_58 rfl (lv_at hl 2 rfl) ?_
      refine lv_iload_n hx hb dX10_set_59 rfl (lv_at hl 3 rfl) ?_
      obtain ⟨x5, e_x5, hr⟩ := zb_some hr
      refine zcallU M I (zrunV (as := [.int a1, .int a2]) M I (c_X1_store l g fu zc_6 e_x5) zc_6 zK1.1 (by decide) zlv_X10_170 ⟨Nat.le_of_ble_eq_true rfl, Nat.le_of_ble_eq_true rfl⟩ ⟨Nat.zero_le _, Nat.zero_le _⟩ rfl rfl (Nat.le_of_ble_eq_true rfl) hl.1 dX10_set_60) (fun H locs I => ?_)
      refine lv_iload_n hx hb dX10_set_63 rfl (lv_at hl 0 rfl) ?_
      exact zretX MX I (Option.some.inj hr).symm dX10_set_64
    · replace hr := zif_f hr (fun hq => hq c6)
      exact zthrow (k := 1) MX I (by decide) (Option.some.inj hr).symm (zin (i := 801) (by decide +kernel) rfl) (zin (i := 84) (by decide +kernel) rfl) (List.mem_of_getElem? (i := 7) rfl) dX10_set_25 dX10_set_28 dX10_set_29 dX10_set_31 dX10_set_34 hl.1 (by decide)
  · replace hr := zif_f hr (fun hq => hq c7)
    exact zthrow (k := 0) MX I (by decide) (Option.some.inj hr).symm (zin (i := 730) (by decide +kernel) rfl) (zin (i := 83) (by decide +kernel) rfl) (List.mem_of_getElem? (i := 6) rfl) dX10_set_7 dX10_set_10 dX10_set_11 dX10_set_13 dX10_set_16 hl.1 (by decide)
def m_X10_append (fu : Nat) (σ : zmem) (a1 : Int32) : Option (zRX) := (if a1 < (33 : Int32) then some (.inl 1, σ) else (if a1 ≤ (126 : Int32) then (m_X8_size fu σ 32).bind fun x1 => (if x1 < (60 : Int32) then (m_X8_add fu σ 32 a1).bind fun x2 => (m_X8_size fu x2 32).bind fun x3 => some (.inr x3, x2) else some (.inl 2, σ)) else some (.inl 1, σ)))
set_option maxHeartbeats 4000000 in
set_option maxRecDepth 100000 in
theorem c_X10_append (l : Launch) (hl0 : l.stackTraces = false) (g : zgeo) (fu : Nat) {σ : zmem} {a1 : Int32} {r : zRX} (hr : m_X10_append fu σ a1 = some r) : zCx r l g yX10_append cX10_append 2 (some .int) 6 82 [.ref (zA g 0), .int a1] σ := by
  refine zopenX hl0 (by decide) (Nat.le_of_ble_eq_true rfl) ?_
  intro p e s m below meth c MX ls hl I
  have MX : zMX RX10 cX10_append 2 (some .int) g l p m c s ([.ref (zA g 0), .int a1] : List Value).toArray meth := MX
  have hl : lv_has ls 2 [(0, .ref (zA g 0)), (1, .int a1)] := hl
  generalize ([.ref (zA g 0), .int a1] : List Value).toArray = args at MX ⊢
  have M := MX.1
  have hx := M.1.1
  have hb := M.1.2.1
  unfold m_X10_append at hr
  refine lv_iload_n hx hb dX10_append_0 rfl (lv_at hl 1 rfl) ?_
  refine lv_bipush (v := (33 : Int32)) hx hb dX10_append_1 (by decide) ?_
  refine lv_icmp_lt (tgt := 12) hx hb dX10_append_3 (by decide) (fun c6 => ?_) (fun c6 => ?_)
  · replace hr := zif_t hr c6
    exact zthrow (k := 1) MX I (by decide) (Option.some.inj hr).symm (zin (i := 801) (by decide +kernel) rfl) (zin (i := 84) (by decide +kernel) rfl) (List.mem_of_getElem? (i := 8) rfl) dX10_append_12 dX10_append_15 dX10_append_16 dX10_append_18 dX10_append_21 hl.1 (by decide)
  · replace hr := zif_f hr c6
    refine lv_iload_n hx hb dX10_append_6 rfl (lv_at hl 1 rfl) ?_
    refine lv_bipush (v := (126 : Int32)) hx hb dX10_append_7 (by decide) ?_
    refine lv_icmp_le (tgt := 22) hx hb dX10_append_9 (by decide) (fun c5 => ?_) (fun c5 => ?_)
    · replace hr := zif_t hr c5
      refine lv_aload_n hx hb dX10_append_22 rfl (lv_at hl 0 rfl) ?_
      refine zgetR (j := 32) M I zc_0 zfl_X10_42 dX10_append_23 rfl ?_
      obtain ⟨x1, e_x1, hr⟩ := zb_some hr
      refine zcallI M I (zrunV (as := []) M I (c_X8_size l g fu zc_32 e_x1) zc_32 zK8.1 (by decide) zlv_X10_175 ⟨Nat.le_of_ble_eq_true rfl, Nat.le_of_ble_eq_true rfl⟩ ⟨Nat.zero_le _, Nat.zero_le _⟩ rfl rfl (Nat.le_of_ble_eq_true rfl) hl.1 dX10_append_26) (fun H locs I => ?_)
      refine lv_bipush (v := (60 : Int32)) hx hb dX10_append_29 (by decide) ?_
      refine lv_icmp_lt (tgt := 44) hx hb dX10_append_31 (by decide) (fun c4 => ?_) (fun c4 => ?_)
      · replace hr := zif_t hr c4
        refine lv_aload_n hx hb dX10_append_44 rfl (lv_at hl 0 rfl) ?_
        refine zgetR (j := 32) M I zc_0 zfl_X10_42 dX10_append_45 rfl ?_
        refine lv_iload_n hx hb dX10_append_48 rfl (lv_at hl 1 rfl) ?_
        obtain ⟨x2, e_x2, hr⟩ := zb_some hr
        refine zcallU M I (zrunV (as := [.int a1]) M I (c_X8_add l g fu zc_32 e_x2) zc_32 zK8.1 (by decide) zlv_X10_178 ⟨Nat.le_of_ble_eq_true rfl, Nat.le_of_ble_eq_true rfl⟩ ⟨Nat.zero_le _, Nat.zero_le _⟩ rfl rfl (Nat.le_of_ble_eq_true rfl) hl.1 dX10_append_49) (fun H locs I => ?_)
        refine lv_aload_n hx hb dX10_append_52 rfl (lv_at hl 0 rfl) ?_
        refine zgetR (j := 32) M I zc_0 zfl_X10_42 dX10_append_53 rfl ?_
        obtain ⟨x3, e_x3, hr⟩ := zb_some hr
        refine zcallI M I (zrunV (as := []) M I (c_X8_size l g fu zc_32 e_x3) zc_32 zK8.1 (by decide) zlv_X10_175 ⟨Nat.le_of_ble_eq_true rfl, Nat.le_of_ble_eq_true rfl⟩ ⟨Nat.zero_le _, Nat.zero_le _⟩ rfl rfl (Nat.le_of_ble_eq_true rfl) hl.1 dX10_append_56) (fun H locs I => ?_)
        exact zretX MX I (Option.some.inj hr).symm dX10_append_59
      · replace hr := zif_f hr c4
        exact zthrow (k := 2) MX I (by decide) (Option.some.inj hr).symm (zin (i := 817) (by decide +kernel) rfl) (zin (i := 85) (by decide +kernel) rfl) (List.mem_of_getElem? (i := 9) rfl) dX10_append_34 dX10_append_37 dX10_append_38 dX10_append_40 dX10_append_43 hl.1 (by decide)
    · replace hr := zif_f hr c5
      exact zthrow (k := 1) MX I (by decide) (Option.some.inj hr).symm (zin (i := 801) (by decide +kernel) rfl) (zin (i := 84) (by decide +kernel) rfl) (List.mem_of_getElem? (i := 8) rfl) dX10_append_12 dX10_append_15 dX10_append_16 dX10_append_18 dX10_append_21 hl.1 (by decide)
def m_X10_read (fu : Nat) (σ : zmem) : Option (zRX) := (m_X8_isPairOfRows fu σ 32).bind fun x1 => (if ¬ x1 = 0 then (m_X10_saveState fu σ).bind fun x2 => (m_X8_writeRows fu x2 32 1).bind fun x3 => (m_X8_clear fu x3 32).bind fun x4 => (m_X10_refresh fu x4).bind fun x5 => some (.inr (x5.1 36 2), x5) else some (.inl 1, σ))
set_option maxHeartbeats 4000000 in
set_option maxRecDepth 100000 in
theorem c_X10_read (l : Launch) (hl0 : l.stackTraces = false) (g : zgeo) (fu : Nat) {σ : zmem} {r : zRX} (hr : m_X10_read fu σ = some r) : zCx r l g yX10_read cX10_read 1 (some .int) 6 153 [.ref (zA g 0)] σ := by
  refine zopenX hl0 (by decide) (Nat.le_of_ble_eq_true rfl) ?_
  intro p e s m below meth c MX ls hl I
  have MX : zMX RX10 cX10_read 1 (some .int) g l p m c s ([.ref (zA g 0)] : List Value).toArray meth := MX
  have hl : lv_has ls 1 [(0, .ref (zA g 0))] := hl
  generalize ([.ref (zA g 0)] : List Value).toArray = args at MX ⊢
  have M := MX.1
  have hx := M.1.1
  have hb := M.1.2.1
  unfold m_X10_read at hr
  refine lv_aload_n hx hb dX10_read_0 rfl (lv_at hl 0 rfl) ?_
  refine zgetR (j := 32) M I zc_0 zfl_X10_42 dX10_read_1 rfl ?_
  obtain ⟨x1, e_x1, hr⟩ := zb_some hr
  refine zcallI M I (zrunV (as := []) M I (c_X8_isPairOfRows l g fu zc_32 e_x1) zc_32 zK8.1 (by decide) zlv_X10_187 ⟨Nat.le_of_ble_eq_true rfl, Nat.le_of_ble_eq_true rfl⟩ ⟨Nat.zero_le _, Nat.zero_le _⟩ rfl rfl (Nat.le_of_ble_eq_true rfl) hl.1 dX10_read_4) (fun H locs I => ?_)
  refine lv_if_ne (tgt := 20) hx hb dX10_read_7 (by decide) (fun c6 => ?_) (fun c6 => ?_)
  · replace hr := zif_t hr c6
    refine lv_aload_n hx hb dX10_read_20 rfl (lv_at hl 0 rfl) ?_
    obtain ⟨x2, e_x2, hr⟩ := zb_some hr
    refine zcallU M I (zrunV (as := []) M I (c_X10_saveState l g fu e_x2) zc_0 zK10.1 (by decide) zlv_X10_100 ⟨Nat.le_of_ble_eq_true rfl, Nat.le_of_ble_eq_true rfl⟩ ⟨Nat.zero_le _, Nat.zero_le _⟩ rfl rfl (Nat.le_of_ble_eq_true rfl) hl.1 dX10_read_21) (fun H locs I => ?_)
    refine lv_aload_n hx hb dX10_read_24 rfl (lv_at hl 0 rfl) ?_
    refine zgetR (j := 32) M I zc_0 zfl_X10_42 dX10_read_25 rfl ?_
    refine lv_aload_n hx hb dX10_read_28 rfl (lv_at hl 0 rfl) ?_
    refine zgetR (j := 1) M I zc_0 zfl_X10_10 dX10_read_29 rfl ?_
    obtain ⟨x3, e_x3, hr⟩ := zb_some hr
    refine zcallU M I (zrunV (as := [.ref (zA g 1)]) M I (c_X8_writeRows l g fu zc_32 zc_1 e_x3) zc_32 zK8.1 (by decide) zlv_X10_193 ⟨Nat.le_of_ble_eq_true rfl, Nat.le_of_ble_eq_true rfl⟩ ⟨Nat.zero_le _, Nat.zero_le _⟩ rfl rfl (Nat.le_of_ble_eq_true rfl) hl.1 dX10_read_32) (fun H locs I => ?_)
    refine lv_aload_n hx hb dX10_read_35 rfl (lv_at hl 0 rfl) ?_
    refine zgetR (j := 32) M I zc_0 zfl_X10_42 dX10_read_36 rfl ?_
    obtain ⟨x4, e_x4, hr⟩ := zb_some hr
    refine zcallU M I (zrunV (as := []) M I (c_X8_clear l g fu zc_32 e_x4) zc_32 zK8.1 (by decide) zlv_X10_181 ⟨Nat.le_of_ble_eq_true rfl, Nat.le_of_ble_eq_true rfl⟩ ⟨Nat.zero_le _, Nat.zero_le _⟩ rfl rfl (Nat.le_of_ble_eq_true rfl) hl.1 dX10_read_39) (fun H locs I => ?_)
    refine lv_aload_n hx hb dX10_read_42 rfl (lv_at hl 0 rfl) ?_
    obtain ⟨x5, e_x5, hr⟩ := zb_some hr
    refine zcallU M I (zrunV (as := []) M I (c_X10_refresh l g fu e_x5) zc_0 zK10.1 (by decide) zlv_X10_138 ⟨Nat.le_of_ble_eq_true rfl, Nat.le_of_ble_eq_true rfl⟩ ⟨Nat.zero_le _, Nat.zero_le _⟩ rfl rfl (Nat.le_of_ble_eq_true rfl) hl.1 dX10_read_43) (fun H locs I => ?_)
    refine lv_aload_n hx hb dX10_read_46 rfl (lv_at hl 0 rfl) ?_
    refine zgetR (j := 35) M I zc_0 zfl_X10_49 dX10_read_47 rfl ?_
    refine zgetR (j := 36) M I zc_35 zfl_X10_141 dX10_read_50 rfl ?_
    refine zgetI M I zc_36 zfl_X10_145 dX10_read_53 ?_
    exact zretX MX I (Option.some.inj hr).symm dX10_read_56
  · replace hr := zif_f hr (fun hq => hq c6)
    exact zthrow (k := 1) MX I (by decide) (Option.some.inj hr).symm (zin (i := 801) (by decide +kernel) rfl) (zin (i := 84) (by decide +kernel) rfl) (List.mem_of_getElem? (i := 10) rfl) dX10_read_10 dX10_read_13 dX10_read_14 dX10_read_16 dX10_read_19 hl.1 (by decide)
def m_X10_keep (fu : Nat) (σ : zmem) (a1 : Int32) : Option (zRX) := (m_X10_isSnapshot fu σ a1).bind fun x1 => (if ¬ x1 = 0 then (m_X10_snapshotOf fu σ a1).bind fun x2 => (m_X7_takeRows fu σ x2 1).bind fun x3 => ((if ¬ (x3.1 0 4) = 0 then some (1 : Int32) else (if ¬ a1 = 0 then some (0 : Int32) else some (1 : Int32))) : Option (Int32)).bind fun x4 => (zbo x4).bind fun b5 => ((if ¬ ((zst x3 0 4 x4).1 0 5) = 0 then some (1 : Int32) else (if ¬ a1 = (1 : Int32) then some (0 : Int32) else some (1 : Int32))) : Option (Int32)).bind fun x6 => (zbo x6).bind fun b7 => (m_X7_signs fu (zst (zst x3 0 4 x4) 0 5 x6) 1).bind fun x8 => some (.inr x8, (zst (zst x3 0 4 x4) 0 5 x6)) else some (.inl 0, σ))
set_option maxHeartbeats 4000000 in
set_option maxRecDepth 100000 in
theorem c_X10_keep (l : Launch) (hl0 : l.stackTraces = false) (g : zgeo) (fu : Nat) {σ : zmem} {a1 : Int32} {r : zRX} (hr : m_X10_keep fu σ a1 = some r) : zCx r l g yX10_keep cX10_keep 2 (some .int) 6 82 [.ref (zA g 0), .int a1] σ := by
  refine zopenX hl0 (by decide) (Nat.le_of_ble_eq_true rfl) ?_
  intro p e s m below meth c MX ls hl I
  have MX : zMX RX10 cX10_keep 2 (some .int) g l p m c s ([.ref (zA g 0), .int a1] : List Value).toArray meth := MX
  have hl : lv_has ls 2 [(0, .ref (zA g 0)), (1, .int a1)] := hl
  generalize ([.ref (zA g 0), .int a1] : List Value).toArray = args at MX ⊢
  have M := MX.1
  have hx := M.1.1
  have hb := M.1.2.1
  unfold m_X10_keep at hr
  refine lv_iload_n hx hb dX10_keep_0 rfl (lv_at hl 1 rfl) ?_
  obtain ⟨x1, e_x1, hr⟩ := zb_some hr
  refine zcallI M I (zrunS (as := [.int a1]) M I (c_X10_isSnapshot l g fu e_x1) zls_X10_197 ⟨Nat.le_of_ble_eq_true rfl, Nat.le_of_ble_eq_true rfl⟩ ⟨Nat.zero_le _, Nat.zero_le _⟩ rfl rfl (Nat.le_of_ble_eq_true rfl) hl.1 dX10_keep_1) (fun H locs I => ?_)
  refine lv_if_ne (tgt := 17) hx hb dX10_keep_4 (by decide) (fun c13 => ?_) (fun c13 => ?_)
  · replace hr := zif_t hr c13
    refine lv_aload_n hx hb dX10_keep_17 rfl (lv_at hl 0 rfl) ?_
    refine lv_iload_n hx hb dX10_keep_18 rfl (lv_at hl 1 rfl) ?_
    obtain ⟨x2, e_x2, hr⟩ := zb_some hr
    refine zcallR M I (zrunV (as := [.int a1]) M I (c_X10_snapshotOf l g fu e_x2) zc_0 zK10.1 (by decide) zlv_X10_202 ⟨Nat.le_of_ble_eq_true rfl, Nat.le_of_ble_eq_true rfl⟩ ⟨Nat.zero_le _, Nat.zero_le _⟩ rfl rfl (Nat.le_of_ble_eq_true rfl) hl.1 dX10_keep_19) (fun H locs I => ?_)
    refine lv_aload_n hx hb dX10_keep_22 rfl (lv_at hl 0 rfl) ?_
    refine zgetR (j := 1) M I zc_0 zfl_X10_10 dX10_keep_23 rfl ?_
    obtain ⟨x3, e_x3, hr⟩ := zb_some hr
    refine zcallU M I (zrunV (as := [.ref (zA g 1)]) M I (c_X7_takeRows l g fu (zq_X10_snapshotOf e_x2) zc_1 e_x3) (zq_X10_snapshotOf e_x2) zK7.1 (by decide) zlv_X10_206 ⟨Nat.le_of_ble_eq_true rfl, Nat.le_of_ble_eq_true rfl⟩ ⟨Nat.zero_le _, Nat.zero_le _⟩ rfl rfl (Nat.le_of_ble_eq_true rfl) hl.1 dX10_keep_26) (fun H locs I => ?_)
    refine lv_aload_n hx hb dX10_keep_29 rfl (lv_at hl 0 rfl) ?_
    refine lv_aload_n hx hb dX10_keep_30 rfl (lv_at hl 0 rfl) ?_
    refine zgetI M I zc_0 zfl_X10_25 dX10_keep_31 ?_
    obtain ⟨x4, e_x4, hr⟩ := zb_some hr
    have K_x4 : ∀ (ls : Array Slot) (H : Heap) (locs : List Loc), lv_has ls 2 [(0, .ref (zA g 0)), (1, .int a1)] → zIV g x3 (zAA g) s.heap H locs → W p l e (zrx 6 82) s m args below meth c H locs 0 0 (vx_MQ below (zQX g r) (zXX g r) args s 1 6 (zAA g)) (F0 m 46 ls [.int x4, .ref (zA g 0)]) := by
      intro ls H locs hl I
      obtain ⟨b5, e_b5, hr⟩ := zb_some hr
      refine zputZ M I (zbo_some e_b5).1 zc_0 zfw_X10_25 dX10_keep_46 (fun H locs I => ?_)
      refine lv_aload_n hx hb dX10_keep_49 rfl (lv_at hl 0 rfl) ?_
      refine lv_aload_n hx hb dX10_keep_50 rfl (lv_at hl 0 rfl) ?_
      refine zgetI M I zc_0 zfl_X10_29 dX10_keep_51 ?_
      obtain ⟨x6, e_x6, hr⟩ := zb_some hr
      have K_x6 : ∀ (ls : Array Slot) (H : Heap) (locs : List Loc), lv_has ls 2 [(0, .ref (zA g 0))] → zIV g (zst x3 0 4 x4) (zAA g) s.heap H locs → W p l e (zrx 6 82) s m args below meth c H locs 0 0 (vx_MQ below (zQX g r) (zXX g r) args s 1 6 (zAA g)) (F0 m 67 ls [.int x6, .ref (zA g 0)]) := by
        intro ls H locs hl I
        obtain ⟨b7, e_b7, hr⟩ := zb_some hr
        refine zputZ M I (zbo_some e_b7).1 zc_0 zfw_X10_29 dX10_keep_67 (fun H locs I => ?_)
        refine lv_aload_n hx hb dX10_keep_70 rfl (lv_at hl 0 rfl) ?_
        refine zgetR (j := 1) M I zc_0 zfl_X10_10 dX10_keep_71 rfl ?_
        obtain ⟨x8, e_x8, hr⟩ := zb_some hr
        refine zcallI M I (zrunV (as := []) M I (c_X7_signs l g fu zc_1 e_x8) zc_1 zK7.1 (by decide) zlv_X10_209 ⟨Nat.le_of_ble_eq_true rfl, Nat.le_of_ble_eq_true rfl⟩ ⟨Nat.zero_le _, Nat.zero_le _⟩ rfl rfl (Nat.le_of_ble_eq_true rfl) hl.1 dX10_keep_74) (fun H locs I => ?_)
        exact zretX MX I (Option.some.inj hr).symm dX10_keep_77
      refine lv_if_ne (tgt := 62) hx hb dX10_keep_54 (by decide) (fun c10 => ?_) (fun c10 => ?_)
      · replace e_x6 := zif_t e_x6 c10
        refine lv_iconst (v := (1 : Int32)) hx hb dX10_keep_62 (by decide) ?_
        refine lv_goto (tgt := 67) hx hb dX10_keep_63 (by decide) ?_
        obtain rfl := Option.some.inj e_x6
        exact K_x6 ls _ _ (lv_sub hl [0] rfl) I
      · replace e_x6 := zif_f e_x6 (fun hq => hq c10)
        refine lv_iload_n hx hb dX10_keep_57 rfl (lv_at hl 1 rfl) ?_
        refine lv_iconst (v := (1 : Int32)) hx hb dX10_keep_58 (by decide) ?_
        refine lv_icmp_ne (tgt := 66) hx hb dX10_keep_59 (by decide) (fun c9 => ?_) (fun c9 => ?_)
        · replace e_x6 := zif_t e_x6 c9
          refine lv_iconst (v := (0 : Int32)) hx hb dX10_keep_66 (by decide) ?_
          obtain rfl := Option.some.inj e_x6
          exact K_x6 ls _ _ (lv_sub hl [0] rfl) I
        · replace e_x6 := zif_f e_x6 (fun hq => hq c9)
          refine lv_iconst (v := (1 : Int32)) hx hb dX10_keep_62 (by decide) ?_
          refine lv_goto (tgt := 67) hx hb dX10_keep_63 (by decide) ?_
          obtain rfl := Option.some.inj e_x6
          exact K_x6 ls _ _ (lv_sub hl [0] rfl) I
    refine lv_if_ne (tgt := 41) hx hb dX10_keep_34 (by decide) (fun c12 => ?_) (fun c12 => ?_)
    · replace e_x4 := zif_t e_x4 c12
      refine lv_iconst (v := (1 : Int32)) hx hb dX10_keep_41 (by decide) ?_
      refine lv_goto (tgt := 46) hx hb dX10_keep_42 (by decide) ?_
      obtain rfl := Option.some.inj e_x4
      exact K_x4 ls _ _ hl I
    · replace e_x4 := zif_f e_x4 (fun hq => hq c12)
      refine lv_iload_n hx hb dX10_keep_37 rfl (lv_at hl 1 rfl) ?_
      refine lv_if_ne (tgt := 45) hx hb dX10_keep_38 (by decide) (fun c11 => ?_) (fun c11 => ?_)
      · replace e_x4 := zif_t e_x4 c11
        refine lv_iconst (v := (0 : Int32)) hx hb dX10_keep_45 (by decide) ?_
        obtain rfl := Option.some.inj e_x4
        exact K_x4 ls _ _ hl I
      · replace e_x4 := zif_f e_x4 (fun hq => hq c11)
        refine lv_iconst (v := (1 : Int32)) hx hb dX10_keep_41 (by decide) ?_
        refine lv_goto (tgt := 46) hx hb dX10_keep_42 (by decide) ?_
        obtain rfl := Option.some.inj e_x4
        exact K_x4 ls _ _ hl I
  · replace hr := zif_f hr (fun hq => hq c13)
    exact zthrow (k := 0) MX I (by decide) (Option.some.inj hr).symm (zin (i := 730) (by decide +kernel) rfl) (zin (i := 83) (by decide +kernel) rfl) (List.mem_of_getElem? (i := 11) rfl) dX10_keep_7 dX10_keep_10 dX10_keep_11 dX10_keep_13 dX10_keep_16 hl.1 (by decide)
def m_X10_restore (fu : Nat) (σ : zmem) (a1 : Int32) : Option (zRX) := (m_X10_isSnapshot fu σ a1).bind fun x1 => (if ¬ x1 = 0 then (if ¬ a1 = 0 then (if ¬ (σ.1 0 5) = 0 then (m_X10_saveState fu σ).bind fun x2 => (m_X10_snapshotOf fu x2 a1).bind fun x3 => (m_X7_takeRows fu x2 1 x3).bind fun x4 => (m_X7_signs fu x4 1).bind fun x5 => some (.inr x5, x4) else some (.inl 2, σ)) else (if (σ.1 0 4) = 0 then some (.inl 2, σ) else (m_X10_saveState fu σ).bind fun x7 => (m_X10_snapshotOf fu x7 a1).bind fun x8 => (m_X7_takeRows fu x7 1 x8).bind fun x9 => (m_X7_signs fu x9 1).bind fun x10 => some (.inr x10, x9))) else some (.inl 0, σ))
set_option maxHeartbeats 4000000 in
set_option maxRecDepth 100000 in
theorem c_X10_restore (l : Launch) (hl0 : l.stackTraces = false) (g : zgeo) (fu : Nat) {σ : zmem} {a1 : Int32} {r : zRX} (hr : m_X10_restore fu σ a1 = some r) : zCx r l g yX10_restore cX10_restore 2 (some .int) 6 86 [.ref (zA g 0), .int a1] σ := by
  refine zopenX hl0 (by decide) (Nat.le_of_ble_eq_true rfl) ?_
  intro p e s m below meth c MX ls hl I
  have MX : zMX RX10 cX10_restore 2 (some .int) g l p m c s ([.ref (zA g 0), .int a1] : List Value).toArray meth := MX
  have hl : lv_has ls 2 [(0, .ref (zA g 0)), (1, .int a1)] := hl
  generalize ([.ref (zA g 0), .int a1] : List Value).toArray = args at MX ⊢
  have M := MX.1
  have hx := M.1.1
  have hb := M.1.2.1
  unfold m_X10_restore at hr
  refine lv_iload_n hx hb dX10_restore_0 rfl (lv_at hl 1 rfl) ?_
  obtain ⟨x1, e_x1, hr⟩ := zb_some hr
  refine zcallI M I (zrunS (as := [.int a1]) M I (c_X10_isSnapshot l g fu e_x1) zls_X10_197 ⟨Nat.le_of_ble_eq_true rfl, Nat.le_of_ble_eq_true rfl⟩ ⟨Nat.zero_le _, Nat.zero_le _⟩ rfl rfl (Nat.le_of_ble_eq_true rfl) hl.1 dX10_restore_1) (fun H locs I => ?_)
  refine lv_if_ne (tgt := 17) hx hb dX10_restore_4 (by decide) (fun c13 => ?_) (fun c13 => ?_)
  · replace hr := zif_t hr c13
    refine lv_iload_n hx hb dX10_restore_17 rfl (lv_at hl 1 rfl) ?_
    refine lv_if_ne (tgt := 31) hx hb dX10_restore_18 (by decide) (fun c12 => ?_) (fun c12 => ?_)
    · replace hr := zif_t hr c12
      refine lv_aload_n hx hb dX10_restore_31 rfl (lv_at hl 0 rfl) ?_
      refine zgetI M I zc_0 zfl_X10_29 dX10_restore_32 ?_
      refine lv_if_ne (tgt := 48) hx hb dX10_restore_35 (by decide) (fun c6 => ?_) (fun c6 => ?_)
      · replace hr := zif_t hr c6
        refine lv_aload_n hx hb dX10_restore_48 rfl (lv_at hl 0 rfl) ?_
        obtain ⟨x2, e_x2, hr⟩ := zb_some hr
        refine zcallU M I (zrunV (as := []) M I (c_X10_saveState l g fu e_x2) zc_0 zK10.1 (by decide) zlv_X10_100 ⟨Nat.le_of_ble_eq_true rfl, Nat.le_of_ble_eq_true rfl⟩ ⟨Nat.zero_le _, Nat.zero_le _⟩ rfl rfl (Nat.le_of_ble_eq_true rfl) hl.1 dX10_restore_49) (fun H locs I => ?_)
        refine lv_aload_n hx hb dX10_restore_52 rfl (lv_at hl 0 rfl) ?_
        refine zgetR (j := 1) M I zc_0 zfl_X10_10 dX10_restore_53 rfl ?_
        refine lv_aload_n hx hb dX10_restore_56 rfl (lv_at hl 0 rfl) ?_
        refine lv_iload_n hx hb dX10_restore_57 rfl (lv_at hl 1 rfl) ?_
        obtain ⟨x3, e_x3, hr⟩ := zb_some hr
        refine zcallR M I (zrunV (as := [.int a1]) M I (c_X10_snapshotOf l g fu e_x3) zc_0 zK10.1 (by decide) zlv_X10_202 ⟨Nat.le_of_ble_eq_true rfl, Nat.le_of_ble_eq_true rfl⟩ ⟨Nat.zero_le _, Nat.zero_le _⟩ rfl rfl (Nat.le_of_ble_eq_true rfl) hl.1 dX10_restore_58) (fun H locs I => ?_)
        obtain ⟨x4, e_x4, hr⟩ := zb_some hr
        refine zcallU M I (zrunV (as := [.ref (zA g x3)]) M I (c_X7_takeRows l g fu zc_1 (zq_X10_snapshotOf e_x3) e_x4) zc_1 zK7.1 (by decide) zlv_X10_206 ⟨Nat.le_of_ble_eq_true rfl, Nat.le_of_ble_eq_true rfl⟩ ⟨Nat.zero_le _, Nat.zero_le _⟩ rfl rfl (Nat.le_of_ble_eq_true rfl) hl.1 dX10_restore_61) (fun H locs I => ?_)
        refine lv_aload_n hx hb dX10_restore_64 rfl (lv_at hl 0 rfl) ?_
        refine zgetR (j := 1) M I zc_0 zfl_X10_10 dX10_restore_65 rfl ?_
        obtain ⟨x5, e_x5, hr⟩ := zb_some hr
        refine zcallI M I (zrunV (as := []) M I (c_X7_signs l g fu zc_1 e_x5) zc_1 zK7.1 (by decide) zlv_X10_209 ⟨Nat.le_of_ble_eq_true rfl, Nat.le_of_ble_eq_true rfl⟩ ⟨Nat.zero_le _, Nat.zero_le _⟩ rfl rfl (Nat.le_of_ble_eq_true rfl) hl.1 dX10_restore_68) (fun H locs I => ?_)
        exact zretX MX I (Option.some.inj hr).symm dX10_restore_71
      · replace hr := zif_f hr (fun hq => hq c6)
        exact zthrow (k := 2) MX I (by decide) (Option.some.inj hr).symm (zin (i := 817) (by decide +kernel) rfl) (zin (i := 85) (by decide +kernel) rfl) (List.mem_of_getElem? (i := 12) rfl) dX10_restore_38 dX10_restore_41 dX10_restore_42 dX10_restore_44 dX10_restore_47 hl.1 (by decide)
    · replace hr := zif_f hr (fun hq => hq c12)
      refine lv_aload_n hx hb dX10_restore_21 rfl (lv_at hl 0 rfl) ?_
      refine zgetI M I zc_0 zfl_X10_25 dX10_restore_22 ?_
      refine lv_if_eq (tgt := 38) hx hb dX10_restore_25 (by decide) (fun c11 => ?_) (fun c11 => ?_)
      · replace hr := zif_t hr c11
        exact zthrow (k := 2) MX I (by decide) (Option.some.inj hr).symm (zin (i := 817) (by decide +kernel) rfl) (zin (i := 85) (by decide +kernel) rfl) (List.mem_of_getElem? (i := 12) rfl) dX10_restore_38 dX10_restore_41 dX10_restore_42 dX10_restore_44 dX10_restore_47 hl.1 (by decide)
      · replace hr := zif_f hr c11
        refine lv_goto (tgt := 48) hx hb dX10_restore_28 (by decide) ?_
        refine lv_aload_n hx hb dX10_restore_48 rfl (lv_at hl 0 rfl) ?_
        obtain ⟨x7, e_x7, hr⟩ := zb_some hr
        refine zcallU M I (zrunV (as := []) M I (c_X10_saveState l g fu e_x7) zc_0 zK10.1 (by decide) zlv_X10_100 ⟨Nat.le_of_ble_eq_true rfl, Nat.le_of_ble_eq_true rfl⟩ ⟨Nat.zero_le _, Nat.zero_le _⟩ rfl rfl (Nat.le_of_ble_eq_true rfl) hl.1 dX10_restore_49) (fun H locs I => ?_)
        refine lv_aload_n hx hb dX10_restore_52 rfl (lv_at hl 0 rfl) ?_
        refine zgetR (j := 1) M I zc_0 zfl_X10_10 dX10_restore_53 rfl ?_
        refine lv_aload_n hx hb dX10_restore_56 rfl (lv_at hl 0 rfl) ?_
        refine lv_iload_n hx hb dX10_restore_57 rfl (lv_at hl 1 rfl) ?_
        obtain ⟨x8, e_x8, hr⟩ := zb_some hr
        refine zcallR M I (zrunV (as := [.int a1]) M I (c_X10_snapshotOf l g fu e_x8) zc_0 zK10.1 (by decide) zlv_X10_202 ⟨Nat.le_of_ble_eq_true rfl, Nat.le_of_ble_eq_true rfl⟩ ⟨Nat.zero_le _, Nat.zero_le _⟩ rfl rfl (Nat.le_of_ble_eq_true rfl) hl.1 dX10_restore_58) (fun H locs I => ?_)
        obtain ⟨x9, e_x9, hr⟩ := zb_some hr
        refine zcallU M I (zrunV (as := [.ref (zA g x8)]) M I (c_X7_takeRows l g fu zc_1 (zq_X10_snapshotOf e_x8) e_x9) zc_1 zK7.1 (by decide) zlv_X10_206 ⟨Nat.le_of_ble_eq_true rfl, Nat.le_of_ble_eq_true rfl⟩ ⟨Nat.zero_le _, Nat.zero_le _⟩ rfl rfl (Nat.le_of_ble_eq_true rfl) hl.1 dX10_restore_61) (fun H locs I => ?_)
        refine lv_aload_n hx hb dX10_restore_64 rfl (lv_at hl 0 rfl) ?_
        refine zgetR (j := 1) M I zc_0 zfl_X10_10 dX10_restore_65 rfl ?_
        obtain ⟨x10, e_x10, hr⟩ := zb_some hr
        refine zcallI M I (zrunV (as := []) M I (c_X7_signs l g fu zc_1 e_x10) zc_1 zK7.1 (by decide) zlv_X10_209 ⟨Nat.le_of_ble_eq_true rfl, Nat.le_of_ble_eq_true rfl⟩ ⟨Nat.zero_le _, Nat.zero_le _⟩ rfl rfl (Nat.le_of_ble_eq_true rfl) hl.1 dX10_restore_68) (fun H locs I => ?_)
        exact zretX MX I (Option.some.inj hr).symm dX10_restore_71
  · replace hr := zif_f hr (fun hq => hq c13)
    exact zthrow (k := 0) MX I (by decide) (Option.some.inj hr).symm (zin (i := 730) (by decide +kernel) rfl) (zin (i := 83) (by decide +kernel) rfl) (List.mem_of_getElem? (i := 11) rfl) dX10_restore_7 dX10_restore_10 dX10_restore_11 dX10_restore_13 dX10_restore_16 hl.1 (by decide)
def m_X10_undo (fu : Nat) (σ : zmem) : Option (zRX) := (m_X4_size fu σ 29).bind fun x1 => (if ¬ x1 = 0 then (m_X4_giveBack fu σ 29 1).bind fun x2 => (m_X4_size fu (zst x2 0 11 (1 : Int32)) 29).bind fun x3 => some (.inr x3, (zst x2 0 11 (1 : Int32))) else some (.inl 2, σ))
set_option maxHeartbeats 4000000 in
set_option maxRecDepth 100000 in
theorem c_X10_undo (l : Launch) (hl0 : l.stackTraces = false) (g : zgeo) (fu : Nat) {σ : zmem} {r : zRX} (hr : m_X10_undo fu σ = some r) : zCx r l g yX10_undo cX10_undo 1 (some .int) 6 82 [.ref (zA g 0)] σ := by
  refine zopenX hl0 (by decide) (Nat.le_of_ble_eq_true rfl) ?_
  intro p e s m below meth c MX ls hl I
  have MX : zMX RX10 cX10_undo 1 (some .int) g l p m c s ([.ref (zA g 0)] : List Value).toArray meth := MX
  have hl : lv_has ls 1 [(0, .ref (zA g 0))] := hl
  generalize ([.ref (zA g 0)] : List Value).toArray = args at MX ⊢
  have M := MX.1
  have hx := M.1.1
  have hb := M.1.2.1
  unfold m_X10_undo at hr
  refine lv_aload_n hx hb dX10_undo_0 rfl (lv_at hl 0 rfl) ?_
  refine zgetR (j := 29) M I zc_0 zfl_X10_35 dX10_undo_1 rfl ?_
  obtain ⟨x1, e_x1, hr⟩ := zb_some hr
  refine zcallI M I (zrunV (as := []) M I (c_X4_size l g fu zc_29 e_x1) zc_29 zK4.1 (by decide) zlv_X10_214 ⟨Nat.le_of_ble_eq_true rfl, Nat.le_of_ble_eq_true rfl⟩ ⟨Nat.zero_le _, Nat.zero_le _⟩ rfl rfl (Nat.le_of_ble_eq_true rfl) hl.1 dX10_undo_4) (fun H locs I => ?_)
  refine lv_if_ne (tgt := 20) hx hb dX10_undo_7 (by decide) (fun c4 => ?_) (fun c4 => ?_)
  · replace hr := zif_t hr c4
    refine lv_aload_n hx hb dX10_undo_20 rfl (lv_at hl 0 rfl) ?_
    refine zgetR (j := 29) M I zc_0 zfl_X10_35 dX10_undo_21 rfl ?_
    refine lv_aload_n hx hb dX10_undo_24 rfl (lv_at hl 0 rfl) ?_
    refine zgetR (j := 1) M I zc_0 zfl_X10_10 dX10_undo_25 rfl ?_
    obtain ⟨x2, e_x2, hr⟩ := zb_some hr
    refine zcallU M I (zrunV (as := [.ref (zA g 1)]) M I (c_X4_giveBack l g fu zc_29 zc_1 e_x2) zc_29 zK4.1 (by decide) zlv_X10_217 ⟨Nat.le_of_ble_eq_true rfl, Nat.le_of_ble_eq_true rfl⟩ ⟨Nat.zero_le _, Nat.zero_le _⟩ rfl rfl (Nat.le_of_ble_eq_true rfl) hl.1 dX10_undo_28) (fun H locs I => ?_)
    refine lv_aload_n hx hb dX10_undo_31 rfl (lv_at hl 0 rfl) ?_
    refine lv_iconst (v := (1 : Int32)) hx hb dX10_undo_32 (by decide) ?_
    refine zputZ M I (by decide) zc_0 zfw_X10_63 dX10_undo_33 (fun H locs I => ?_)
    refine lv_aload_n hx hb dX10_undo_36 rfl (lv_at hl 0 rfl) ?_
    refine zgetR (j := 29) M I zc_0 zfl_X10_35 dX10_undo_37 rfl ?_
    obtain ⟨x3, e_x3, hr⟩ := zb_some hr
    refine zcallI M I (zrunV (as := []) M I (c_X4_size l g fu zc_29 e_x3) zc_29 zK4.1 (by decide) zlv_X10_214 ⟨Nat.le_of_ble_eq_true rfl, Nat.le_of_ble_eq_true rfl⟩ ⟨Nat.zero_le _, Nat.zero_le _⟩ rfl rfl (Nat.le_of_ble_eq_true rfl) hl.1 dX10_undo_40) (fun H locs I => ?_)
    exact zretX MX I (Option.some.inj hr).symm dX10_undo_43
  · replace hr := zif_f hr (fun hq => hq c4)
    exact zthrow (k := 2) MX I (by decide) (Option.some.inj hr).symm (zin (i := 817) (by decide +kernel) rfl) (zin (i := 85) (by decide +kernel) rfl) (List.mem_of_getElem? (i := 13) rfl) dX10_undo_10 dX10_undo_13 dX10_undo_14 dX10_undo_16 dX10_undo_19 hl.1 (by decide)
def m_X10_sign (fu : Nat) (σ : zmem) (a1 : Int32) (a2 : Int32) : Option (zRX) := (m_X10_isPlace fu σ a1 a2).bind fun x1 => (if ¬ x1 = 0 then (m_X7_rowOf fu σ 1 a1).bind fun x2 => (m_X6_signAt fu σ x2 a2).bind fun x3 => some (.inr x3, σ) else some (.inl 0, σ))
set_option maxHeartbeats 4000000 in
set_option maxRecDepth 100000 in
theorem c_X10_sign (l : Launch) (hl0 : l.stackTraces = false) (g : zgeo) (fu : Nat) {σ : zmem} {a1 : Int32} {a2 : Int32} {r : zRX} (hr : m_X10_sign fu σ a1 a2 = some r) : zCx r l g yX10_sign cX10_sign 3 (some .int) 6 82 [.ref (zA g 0), .int a1, .int a2] σ := by
  refine zopenX hl0 (by decide) (Nat.le_of_ble_eq_true rfl) ?_
  intro p e s m below meth c MX ls hl I
  have MX : zMX RX10 cX10_sign 3 (some .int) g l p m c s ([.ref (zA g 0), .int a1, .int a2] : List Value).toArray meth := MX
  have hl : lv_has ls 3 [(0, .ref (zA g 0)), (1, .int a1), (2, .int a2)] := hl
  generalize ([.ref (zA g 0), .int a1, .int a2] : List Value).toArray = args at MX ⊢
  have M := MX.1
  have hx := M.1.1
  have hb := M.1.2.1
  unfold m_X10_sign at hr
  refine lv_aload_n hx hb dX10_sign_0 rfl (lv_at hl 0 rfl) ?_
  refine lv_iload_n hx hb dX10_sign_1 rfl (lv_at hl 1 rfl) ?_
  refine lv_iload_n hx hb dX10_sign_2 rfl (lv_at hl 2 rfl) ?_
  obtain ⟨x1, e_x1, hr⟩ := zb_some hr
  refine zcallI M I (zrunV (as := [.int a1, .int a2]) M I (c_X10_isPlace l g fu e_x1) zc_0 zK10.1 (by decide) zlv_X10_107 ⟨Nat.le_of_ble_eq_true rfl, Nat.le_of_ble_eq_true rfl⟩ ⟨Nat.zero_le _, Nat.zero_le _⟩ rfl rfl (Nat.le_of_ble_eq_true rfl) hl.1 dX10_sign_3) (fun H locs I => ?_)
  refine lv_if_ne (tgt := 19) hx hb dX10_sign_6 (by decide) (fun c4 => ?_) (fun c4 => ?_)
  · replace hr := zif_t hr c4
    refine lv_aload_n hx hb dX10_sign_19 rfl (lv_at hl 0 rfl) ?_
    refine zgetR (j := 1) M I zc_0 zfl_X10_10 dX10_sign_20 rfl ?_
    refine lv_iload_n hx hb dX10_sign_23 rfl (lv_at hl 1 rfl) ?_
    obtain ⟨x2, e_x2, hr⟩ := zb_some hr
    refine zcallR M I (zrunV (as := [.int a1]) M I (c_X7_rowOf l g fu zc_1 e_x2) zc_1 zK7.1 (by decide) zlv_X10_70 ⟨Nat.le_of_ble_eq_true rfl, Nat.le_of_ble_eq_true rfl⟩ ⟨Nat.zero_le _, Nat.zero_le _⟩ rfl rfl (Nat.le_of_ble_eq_true rfl) hl.1 dX10_sign_24) (fun H locs I => ?_)
    refine lv_iload_n hx hb dX10_sign_27 rfl (lv_at hl 2 rfl) ?_
    obtain ⟨x3, e_x3, hr⟩ := zb_some hr
    refine zcallI M I (zrunV (as := [.int a2]) M I (c_X6_signAt l g fu (zq_X7_rowOf zc_1 e_x2) e_x3) (zq_X7_rowOf zc_1 e_x2) zK6.1 (by decide) zlv_X10_116 ⟨Nat.le_of_ble_eq_true rfl, Nat.le_of_ble_eq_true rfl⟩ ⟨Nat.zero_le _, Nat.zero_le _⟩ rfl rfl (Nat.le_of_ble_eq_true rfl) hl.1 dX10_sign_28) (fun H locs I => ?_)
    exact zretX MX I (Option.some.inj hr).symm dX10_sign_31
  · replace hr := zif_f hr (fun hq => hq c4)
    exact zthrow (k := 0) MX I (by decide) (Option.some.inj hr).symm (zin (i := 730) (by decide +kernel) rfl) (zin (i := 83) (by decide +kernel) rfl) (List.mem_of_getElem? (i := 0) rfl) dX10_sign_9 dX10_sign_12 dX10_sign_13 dX10_sign_15 dX10_sign_18 hl.1 (by decide)
def m_X10_anchor (fu : Nat) (σ : zmem) (a1 : Int32) (a2 : Int32) : Option (zRX) := (m_X10_refresh fu σ).bind fun x1 => (if a1 < 0 then some (.inl 0, x1) else (if a1 < (x1.1 36 2) then (if a2 < 0 then some (.inl 1, x1) else (if a2 < (4 : Int32) then (m_X5_anchorProperty fu x1 35 a1 a2).bind fun x2 => some (.inr x2, x1) else some (.inl 1, x1))) else some (.inl 0, x1)))
set_option maxHeartbeats 4000000 in
set_option maxRecDepth 100000 in
theorem c_X10_anchor (l : Launch) (hl0 : l.stackTraces = false) (g : zgeo) (fu : Nat) {σ : zmem} {a1 : Int32} {a2 : Int32} {r : zRX} (hr : m_X10_anchor fu σ a1 a2 = some r) : zCx r l g yX10_anchor cX10_anchor 3 (some .int) 6 153 [.ref (zA g 0), .int a1, .int a2] σ := by
  refine zopenX hl0 (by decide) (Nat.le_of_ble_eq_true rfl) ?_
  intro p e s m below meth c MX ls hl I
  have MX : zMX RX10 cX10_anchor 3 (some .int) g l p m c s ([.ref (zA g 0), .int a1, .int a2] : List Value).toArray meth := MX
  have hl : lv_has ls 3 [(0, .ref (zA g 0)), (1, .int a1), (2, .int a2)] := hl
  generalize ([.ref (zA g 0), .int a1, .int a2] : List Value).toArray = args at MX ⊢
  have M := MX.1
  have hx := M.1.1
  have hb := M.1.2.1
  unfold m_X10_anchor at hr
  refine lv_aload_n hx hb dX10_anchor_0 rfl (lv_at hl 0 rfl) ?_
  obtain ⟨x1, e_x1, hr⟩ := zb_some hr
  refine zcallU M I (zrunV (as := []) M I (c_X10_refresh l g fu e_x1) zc_0 zK10.1 (by decide) zlv_X10_138 ⟨Nat.le_of_ble_eq_true rfl, Nat.le_of_ble_eq_true rfl⟩ ⟨Nat.zero_le _, Nat.zero_le _⟩ rfl rfl (Nat.le_of_ble_eq_true rfl) hl.1 dX10_anchor_1) (fun H locs I => ?_)
  refine lv_iload_n hx hb dX10_anchor_4 rfl (lv_at hl 1 rfl) ?_
  refine lv_if_lt (tgt := 22) hx hb dX10_anchor_5 (by decide) (fun c6 => ?_) (fun c6 => ?_)
  · replace hr := zif_t hr c6
    exact zthrow (k := 0) MX I (by decide) (Option.some.inj hr).symm (zin (i := 730) (by decide +kernel) rfl) (zin (i := 83) (by decide +kernel) rfl) (List.mem_of_getElem? (i := 14) rfl) dX10_anchor_22 dX10_anchor_25 dX10_anchor_26 dX10_anchor_28 dX10_anchor_31 hl.1 (by decide)
  · replace hr := zif_f hr c6
    refine lv_iload_n hx hb dX10_anchor_8 rfl (lv_at hl 1 rfl) ?_
    refine lv_aload_n hx hb dX10_anchor_9 rfl (lv_at hl 0 rfl) ?_
    refine zgetR (j := 35) M I zc_0 zfl_X10_49 dX10_anchor_10 rfl ?_
    refine zgetR (j := 36) M I zc_35 zfl_X10_141 dX10_anchor_13 rfl ?_
    refine zgetI M I zc_36 zfl_X10_145 dX10_anchor_16 ?_
    refine lv_icmp_lt (tgt := 32) hx hb dX10_anchor_19 (by decide) (fun c5 => ?_) (fun c5 => ?_)
    · replace hr := zif_t hr c5
      refine lv_iload_n hx hb dX10_anchor_32 rfl (lv_at hl 2 rfl) ?_
      refine lv_if_lt (tgt := 41) hx hb dX10_anchor_33 (by decide) (fun c4 => ?_) (fun c4 => ?_)
      · replace hr := zif_t hr c4
        exact zthrow (k := 1) MX I (by decide) (Option.some.inj hr).symm (zin (i := 801) (by decide +kernel) rfl) (zin (i := 84) (by decide +kernel) rfl) (List.mem_of_getElem? (i := 15) rfl) dX10_anchor_41 dX10_anchor_44 dX10_anchor_45 dX10_anchor_47 dX10_anchor_50 hl.1 (by decide)
      · replace hr := zif_f hr c4
        refine lv_iload_n hx hb dX10_anchor_36 rfl (lv_at hl 2 rfl) ?_
        refine lv_iconst (v := (4 : Int32)) hx hb dX10_anchor_37 (by decide) ?_
        refine lv_icmp_lt (tgt := 51) hx hb dX10_anchor_38 (by decide) (fun c3 => ?_) (fun c3 => ?_)
        · replace hr := zif_t hr c3
          refine lv_aload_n hx hb dX10_anchor_51 rfl (lv_at hl 0 rfl) ?_
          refine zgetR (j := 35) M I zc_0 zfl_X10_49 dX10_anchor_52 rfl ?_
          refine lv_iload_n hx hb dX10_anchor_55 rfl (lv_at hl 1 rfl) ?_
          refine lv_iload_n hx hb dX10_anchor_56 rfl (lv_at hl 2 rfl) ?_
          obtain ⟨x2, e_x2, hr⟩ := zb_some hr
          refine zcallI M I (zrunV (as := [.int a1, .int a2]) M I (c_X5_anchorProperty l g fu zc_35 e_x2) zc_35 zK5.1 (by decide) zlv_X10_224 ⟨Nat.le_of_ble_eq_true rfl, Nat.le_of_ble_eq_true rfl⟩ ⟨Nat.zero_le _, Nat.zero_le _⟩ rfl rfl (Nat.le_of_ble_eq_true rfl) hl.1 dX10_anchor_57) (fun H locs I => ?_)
          exact zretX MX I (Option.some.inj hr).symm dX10_anchor_60
        · replace hr := zif_f hr c3
          exact zthrow (k := 1) MX I (by decide) (Option.some.inj hr).symm (zin (i := 801) (by decide +kernel) rfl) (zin (i := 84) (by decide +kernel) rfl) (List.mem_of_getElem? (i := 15) rfl) dX10_anchor_41 dX10_anchor_44 dX10_anchor_45 dX10_anchor_47 dX10_anchor_50 hl.1 (by decide)
    · replace hr := zif_f hr c5
      exact zthrow (k := 0) MX I (by decide) (Option.some.inj hr).symm (zin (i := 730) (by decide +kernel) rfl) (zin (i := 83) (by decide +kernel) rfl) (List.mem_of_getElem? (i := 14) rfl) dX10_anchor_22 dX10_anchor_25 dX10_anchor_26 dX10_anchor_28 dX10_anchor_31 hl.1 (by decide)
def m_X10_turned (fu : Nat) (σ : zmem) (a1 : Int32) (a2 : Int32) : Option (zRX) := (m_X10_refresh fu σ).bind fun x1 => (if a1 < 0 then some (.inl 0, x1) else (if a1 < (x1.1 92 2) then (if a2 < 0 then some (.inl 1, x1) else (if a2 < (3 : Int32) then (m_X9_property fu x1 91 a1 a2).bind fun x2 => some (.inr x2, x1) else some (.inl 1, x1))) else some (.inl 0, x1)))
set_option maxHeartbeats 4000000 in
set_option maxRecDepth 100000 in
theorem c_X10_turned (l : Launch) (hl0 : l.stackTraces = false) (g : zgeo) (fu : Nat) {σ : zmem} {a1 : Int32} {a2 : Int32} {r : zRX} (hr : m_X10_turned fu σ a1 a2 = some r) : zCx r l g yX10_turned cX10_turned 3 (some .int) 6 153 [.ref (zA g 0), .int a1, .int a2] σ := by
  refine zopenX hl0 (by decide) (Nat.le_of_ble_eq_true rfl) ?_
  intro p e s m below meth c MX ls hl I
  have MX : zMX RX10 cX10_turned 3 (some .int) g l p m c s ([.ref (zA g 0), .int a1, .int a2] : List Value).toArray meth := MX
  have hl : lv_has ls 3 [(0, .ref (zA g 0)), (1, .int a1), (2, .int a2)] := hl
  generalize ([.ref (zA g 0), .int a1, .int a2] : List Value).toArray = args at MX ⊢
  have M := MX.1
  have hx := M.1.1
  have hb := M.1.2.1
  unfold m_X10_turned at hr
  refine lv_aload_n hx hb dX10_turned_0 rfl (lv_at hl 0 rfl) ?_
  obtain ⟨x1, e_x1, hr⟩ := zb_some hr
  refine zcallU M I (zrunV (as := []) M I (c_X10_refresh l g fu e_x1) zc_0 zK10.1 (by decide) zlv_X10_138 ⟨Nat.le_of_ble_eq_true rfl, Nat.le_of_ble_eq_true rfl⟩ ⟨Nat.zero_le _, Nat.zero_le _⟩ rfl rfl (Nat.le_of_ble_eq_true rfl) hl.1 dX10_turned_1) (fun H locs I => ?_)
  refine lv_iload_n hx hb dX10_turned_4 rfl (lv_at hl 1 rfl) ?_
  refine lv_if_lt (tgt := 22) hx hb dX10_turned_5 (by decide) (fun c6 => ?_) (fun c6 => ?_)
  · replace hr := zif_t hr c6
    exact zthrow (k := 0) MX I (by decide) (Option.some.inj hr).symm (zin (i := 730) (by decide +kernel) rfl) (zin (i := 83) (by decide +kernel) rfl) (List.mem_of_getElem? (i := 16) rfl) dX10_turned_22 dX10_turned_25 dX10_turned_26 dX10_turned_28 dX10_turned_31 hl.1 (by decide)
  · replace hr := zif_f hr c6
    refine lv_iload_n hx hb dX10_turned_8 rfl (lv_at hl 1 rfl) ?_
    refine lv_aload_n hx hb dX10_turned_9 rfl (lv_at hl 0 rfl) ?_
    refine zgetR (j := 91) M I zc_0 zfl_X10_59 dX10_turned_10 rfl ?_
    refine zgetR (j := 92) M I zc_91 zfl_X10_227 dX10_turned_13 rfl ?_
    refine zgetI M I zc_92 zfl_X10_145 dX10_turned_16 ?_
    refine lv_icmp_lt (tgt := 32) hx hb dX10_turned_19 (by decide) (fun c5 => ?_) (fun c5 => ?_)
    · replace hr := zif_t hr c5
      refine lv_iload_n hx hb dX10_turned_32 rfl (lv_at hl 2 rfl) ?_
      refine lv_if_lt (tgt := 41) hx hb dX10_turned_33 (by decide) (fun c4 => ?_) (fun c4 => ?_)
      · replace hr := zif_t hr c4
        exact zthrow (k := 1) MX I (by decide) (Option.some.inj hr).symm (zin (i := 801) (by decide +kernel) rfl) (zin (i := 84) (by decide +kernel) rfl) (List.mem_of_getElem? (i := 15) rfl) dX10_turned_41 dX10_turned_44 dX10_turned_45 dX10_turned_47 dX10_turned_50 hl.1 (by decide)
      · replace hr := zif_f hr c4
        refine lv_iload_n hx hb dX10_turned_36 rfl (lv_at hl 2 rfl) ?_
        refine lv_iconst (v := (3 : Int32)) hx hb dX10_turned_37 (by decide) ?_
        refine lv_icmp_lt (tgt := 51) hx hb dX10_turned_38 (by decide) (fun c3 => ?_) (fun c3 => ?_)
        · replace hr := zif_t hr c3
          refine lv_aload_n hx hb dX10_turned_51 rfl (lv_at hl 0 rfl) ?_
          refine zgetR (j := 91) M I zc_0 zfl_X10_59 dX10_turned_52 rfl ?_
          refine lv_iload_n hx hb dX10_turned_55 rfl (lv_at hl 1 rfl) ?_
          refine lv_iload_n hx hb dX10_turned_56 rfl (lv_at hl 2 rfl) ?_
          obtain ⟨x2, e_x2, hr⟩ := zb_some hr
          refine zcallI M I (zrunV (as := [.int a1, .int a2]) M I (c_X9_property l g fu zc_91 e_x2) zc_91 zK9.1 (by decide) zlv_X10_230 ⟨Nat.le_of_ble_eq_true rfl, Nat.le_of_ble_eq_true rfl⟩ ⟨Nat.zero_le _, Nat.zero_le _⟩ rfl rfl (Nat.le_of_ble_eq_true rfl) hl.1 dX10_turned_57) (fun H locs I => ?_)
          exact zretX MX I (Option.some.inj hr).symm dX10_turned_60
        · replace hr := zif_f hr c3
          exact zthrow (k := 1) MX I (by decide) (Option.some.inj hr).symm (zin (i := 801) (by decide +kernel) rfl) (zin (i := 84) (by decide +kernel) rfl) (List.mem_of_getElem? (i := 15) rfl) dX10_turned_41 dX10_turned_44 dX10_turned_45 dX10_turned_47 dX10_turned_50 hl.1 (by decide)
    · replace hr := zif_f hr c5
      exact zthrow (k := 0) MX I (by decide) (Option.some.inj hr).symm (zin (i := 730) (by decide +kernel) rfl) (zin (i := 83) (by decide +kernel) rfl) (List.mem_of_getElem? (i := 16) rfl) dX10_turned_22 dX10_turned_25 dX10_turned_26 dX10_turned_28 dX10_turned_31 hl.1 (by decide)
def m_X10_gap (fu : Nat) (σ : zmem) (a1 : Int32) (a2 : Int32) : Option (zRX) := (if 0 ≤ a1 then (if a2 < 0 then some (.inl 1, σ) else (if a2 < (5 : Int32) then (m_X10_refresh fu σ).bind fun x1 => (m_X5_gapProperty fu x1 35 a1 a2).bind fun x2 => some (.inr x2, x1) else some (.inl 1, σ))) else some (.inl 1, σ))
set_option maxHeartbeats 4000000 in
set_option maxRecDepth 100000 in
theorem c_X10_gap (l : Launch) (hl0 : l.stackTraces = false) (g : zgeo) (fu : Nat) {σ : zmem} {a1 : Int32} {a2 : Int32} {r : zRX} (hr : m_X10_gap fu σ a1 a2 = some r) : zCx r l g yX10_gap cX10_gap 3 (some .int) 6 153 [.ref (zA g 0), .int a1, .int a2] σ := by
  refine zopenX hl0 (by decide) (Nat.le_of_ble_eq_true rfl) ?_
  intro p e s m below meth c MX ls hl I
  have MX : zMX RX10 cX10_gap 3 (some .int) g l p m c s ([.ref (zA g 0), .int a1, .int a2] : List Value).toArray meth := MX
  have hl : lv_has ls 3 [(0, .ref (zA g 0)), (1, .int a1), (2, .int a2)] := hl
  generalize ([.ref (zA g 0), .int a1, .int a2] : List Value).toArray = args at MX ⊢
  have M := MX.1
  have hx := M.1.1
  have hb := M.1.2.1
  unfold m_X10_gap at hr
  refine lv_iload_n hx hb dX10_gap_0 rfl (lv_at hl 1 rfl) ?_
  refine lv_if_ge (tgt := 14) hx hb dX10_gap_1 (by decide) (fun c5 => ?_) (fun c5 => ?_)
  · replace hr := zif_t hr c5
    refine lv_iload_n hx hb dX10_gap_14 rfl (lv_at hl 2 rfl) ?_
    refine lv_if_lt (tgt := 23) hx hb dX10_gap_15 (by decide) (fun c4 => ?_) (fun c4 => ?_)
    · replace hr := zif_t hr c4
      exact zthrow (k := 1) MX I (by decide) (Option.some.inj hr).symm (zin (i := 801) (by decide +kernel) rfl) (zin (i := 84) (by decide +kernel) rfl) (List.mem_of_getElem? (i := 15) rfl) dX10_gap_23 dX10_gap_26 dX10_gap_27 dX10_gap_29 dX10_gap_32 hl.1 (by decide)
    · replace hr := zif_f hr c4
      refine lv_iload_n hx hb dX10_gap_18 rfl (lv_at hl 2 rfl) ?_
      refine lv_iconst (v := (5 : Int32)) hx hb dX10_gap_19 (by decide) ?_
      refine lv_icmp_lt (tgt := 33) hx hb dX10_gap_20 (by decide) (fun c3 => ?_) (fun c3 => ?_)
      · replace hr := zif_t hr c3
        refine lv_aload_n hx hb dX10_gap_33 rfl (lv_at hl 0 rfl) ?_
        obtain ⟨x1, e_x1, hr⟩ := zb_some hr
        refine zcallU M I (zrunV (as := []) M I (c_X10_refresh l g fu e_x1) zc_0 zK10.1 (by decide) zlv_X10_138 ⟨Nat.le_of_ble_eq_true rfl, Nat.le_of_ble_eq_true rfl⟩ ⟨Nat.zero_le _, Nat.zero_le _⟩ rfl rfl (Nat.le_of_ble_eq_true rfl) hl.1 dX10_gap_34) (fun H locs I => ?_)
        refine lv_aload_n hx hb dX10_gap_37 rfl (lv_at hl 0 rfl) ?_
        refine zgetR (j := 35) M I zc_0 zfl_X10_49 dX10_gap_38 rfl ?_
        refine lv_iload_n hx hb dX10_gap_41 rfl (lv_at hl 1 rfl) ?_
        refine lv_iload_n hx hb dX10_gap_42 rfl (lv_at hl 2 rfl) ?_
        obtain ⟨x2, e_x2, hr⟩ := zb_some hr
        refine zcallI M I (zrunV (as := [.int a1, .int a2]) M I (c_X5_gapProperty l g fu zc_35 e_x2) zc_35 zK5.1 (by decide) zlv_X10_235 ⟨Nat.le_of_ble_eq_true rfl, Nat.le_of_ble_eq_true rfl⟩ ⟨Nat.zero_le _, Nat.zero_le _⟩ rfl rfl (Nat.le_of_ble_eq_true rfl) hl.1 dX10_gap_43) (fun H locs I => ?_)
        exact zretX MX I (Option.some.inj hr).symm dX10_gap_46
      · replace hr := zif_f hr c3
        exact zthrow (k := 1) MX I (by decide) (Option.some.inj hr).symm (zin (i := 801) (by decide +kernel) rfl) (zin (i := 84) (by decide +kernel) rfl) (List.mem_of_getElem? (i := 15) rfl) dX10_gap_23 dX10_gap_26 dX10_gap_27 dX10_gap_29 dX10_gap_32 hl.1 (by decide)
  · replace hr := zif_f hr c5
    exact zthrow (k := 1) MX I (by decide) (Option.some.inj hr).symm (zin (i := 801) (by decide +kernel) rfl) (zin (i := 84) (by decide +kernel) rfl) (List.mem_of_getElem? (i := 17) rfl) dX10_gap_4 dX10_gap_7 dX10_gap_8 dX10_gap_10 dX10_gap_13 hl.1 (by decide)
def m_X10_partner (fu : Nat) (σ : zmem) (a1 : Int32) (a2 : Int32) : Option (zRX) := (m_X10_isPlace fu σ a1 a2).bind fun x1 => (if ¬ x1 = 0 then (m_X10_refresh fu σ).bind fun x2 => (m_X5_partnersOf fu x2 35 a1).bind fun x3 => (m_X1_at fu x2 x3 a2).bind fun x4 => some (.inr x4, x2) else some (.inl 0, σ))
set_option maxHeartbeats 4000000 in
set_option maxRecDepth 100000 in
theorem c_X10_partner (l : Launch) (hl0 : l.stackTraces = false) (g : zgeo) (fu : Nat) {σ : zmem} {a1 : Int32} {a2 : Int32} {r : zRX} (hr : m_X10_partner fu σ a1 a2 = some r) : zCx r l g yX10_partner cX10_partner 3 (some .int) 6 153 [.ref (zA g 0), .int a1, .int a2] σ := by
  refine zopenX hl0 (by decide) (Nat.le_of_ble_eq_true rfl) ?_
  intro p e s m below meth c MX ls hl I
  have MX : zMX RX10 cX10_partner 3 (some .int) g l p m c s ([.ref (zA g 0), .int a1, .int a2] : List Value).toArray meth := MX
  have hl : lv_has ls 3 [(0, .ref (zA g 0)), (1, .int a1), (2, .int a2)] := hl
  generalize ([.ref (zA g 0), .int a1, .int a2] : List Value).toArray = args at MX ⊢
  have M := MX.1
  have hx := M.1.1
  have hb := M.1.2.1
  unfold m_X10_partner at hr
  refine lv_aload_n hx hb dX10_partner_0 rfl (lv_at hl 0 rfl) ?_
  refine lv_iload_n hx hb dX10_partner_1 rfl (lv_at hl 1 rfl) ?_
  refine lv_iload_n hx hb dX10_partner_2 rfl (lv_at hl 2 rfl) ?_
  obtain ⟨x1, e_x1, hr⟩ := zb_some hr
  refine zcallI M I (zrunV (as := [.int a1, .int a2]) M I (c_X10_isPlace l g fu e_x1) zc_0 zK10.1 (by decide) zlv_X10_107 ⟨Nat.le_of_ble_eq_true rfl, Nat.le_of_ble_eq_true rfl⟩ ⟨Nat.zero_le _, Nat.zero_le _⟩ rfl rfl (Nat.le_of_ble_eq_true rfl) hl.1 dX10_partner_3) (fun H locs I => ?_)
  refine lv_if_ne (tgt := 19) hx hb dX10_partner_6 (by decide) (fun c5 => ?_) (fun c5 => ?_)
  · replace hr := zif_t hr c5
    refine lv_aload_n hx hb dX10_partner_19 rfl (lv_at hl 0 rfl) ?_
    obtain ⟨x2, e_x2, hr⟩ := zb_some hr
    refine zcallU M I (zrunV (as := []) M I (c_X10_refresh l g fu e_x2) zc_0 zK10.1 (by decide) zlv_X10_138 ⟨Nat.le_of_ble_eq_true rfl, Nat.le_of_ble_eq_true rfl⟩ ⟨Nat.zero_le _, Nat.zero_le _⟩ rfl rfl (Nat.le_of_ble_eq_true rfl) hl.1 dX10_partner_20) (fun H locs I => ?_)
    refine lv_aload_n hx hb dX10_partner_23 rfl (lv_at hl 0 rfl) ?_
    refine zgetR (j := 35) M I zc_0 zfl_X10_49 dX10_partner_24 rfl ?_
    refine lv_iload_n hx hb dX10_partner_27 rfl (lv_at hl 1 rfl) ?_
    obtain ⟨x3, e_x3, hr⟩ := zb_some hr
    refine zcallR M I (zrunV (as := [.int a1]) M I (c_X5_partnersOf l g fu zc_35 e_x3) zc_35 zK5.1 (by decide) zlv_X10_238 ⟨Nat.le_of_ble_eq_true rfl, Nat.le_of_ble_eq_true rfl⟩ ⟨Nat.zero_le _, Nat.zero_le _⟩ rfl rfl (Nat.le_of_ble_eq_true rfl) hl.1 dX10_partner_28) (fun H locs I => ?_)
    refine lv_iload_n hx hb dX10_partner_31 rfl (lv_at hl 2 rfl) ?_
    obtain ⟨x4, e_x4, hr⟩ := zb_some hr
    refine zcallI M I (zrunV (as := [.int a2]) M I (c_X1_at l g fu (zq_X5_partnersOf zc_35 e_x3) e_x4) (zq_X5_partnersOf zc_35 e_x3) zK1.1 (by decide) zlv_X10_165 ⟨Nat.le_of_ble_eq_true rfl, Nat.le_of_ble_eq_true rfl⟩ ⟨Nat.zero_le _, Nat.zero_le _⟩ rfl rfl (Nat.le_of_ble_eq_true rfl) hl.1 dX10_partner_32) (fun H locs I => ?_)
    exact zretX MX I (Option.some.inj hr).symm dX10_partner_35
  · replace hr := zif_f hr (fun hq => hq c5)
    exact zthrow (k := 0) MX I (by decide) (Option.some.inj hr).symm (zin (i := 730) (by decide +kernel) rfl) (zin (i := 83) (by decide +kernel) rfl) (List.mem_of_getElem? (i := 0) rfl) dX10_partner_9 dX10_partner_12 dX10_partner_13 dX10_partner_15 dX10_partner_18 hl.1 (by decide)
def m_X10_doubled (fu : Nat) (σ : zmem) (a1 : Int32) (a2 : Int32) : Option (zRX) := (m_X10_isRow fu σ a1).bind fun x1 => (if ¬ x1 = 0 then (if a2 < 0 then some (.inl 1, σ) else (if a2 < (3 : Int32) then (m_X7_rowOf fu σ 1 a1).bind fun x2 => (m_X6_stretchProperty fu σ x2 a2).bind fun x3 => some (.inr x3, σ) else some (.inl 1, σ))) else some (.inl 0, σ))
set_option maxHeartbeats 4000000 in
set_option maxRecDepth 100000 in
theorem c_X10_doubled (l : Launch) (hl0 : l.stackTraces = false) (g : zgeo) (fu : Nat) {σ : zmem} {a1 : Int32} {a2 : Int32} {r : zRX} (hr : m_X10_doubled fu σ a1 a2 = some r) : zCx r l g yX10_doubled cX10_doubled 3 (some .int) 6 94 [.ref (zA g 0), .int a1, .int a2] σ := by
  refine zopenX hl0 (by decide) (Nat.le_of_ble_eq_true rfl) ?_
  intro p e s m below meth c MX ls hl I
  have MX : zMX RX10 cX10_doubled 3 (some .int) g l p m c s ([.ref (zA g 0), .int a1, .int a2] : List Value).toArray meth := MX
  have hl : lv_has ls 3 [(0, .ref (zA g 0)), (1, .int a1), (2, .int a2)] := hl
  generalize ([.ref (zA g 0), .int a1, .int a2] : List Value).toArray = args at MX ⊢
  have M := MX.1
  have hx := M.1.1
  have hb := M.1.2.1
  unfold m_X10_doubled at hr
  refine lv_iload_n hx hb dX10_doubled_0 rfl (lv_at hl 1 rfl) ?_
  obtain ⟨x1, e_x1, hr⟩ := zb_some hr
  refine zcallI M I (zrunS (as := [.int a1]) M I (c_X10_isRow l g fu e_x1) zls_X10_66 ⟨Nat.le_of_ble_eq_true rfl, Nat.le_of_ble_eq_true rfl⟩ ⟨Nat.zero_le _, Nat.zero_le _⟩ rfl rfl (Nat.le_of_ble_eq_true rfl) hl.1 dX10_doubled_1) (fun H locs I => ?_)
  refine lv_if_ne (tgt := 17) hx hb dX10_doubled_4 (by decide) (fun c6 => ?_) (fun c6 => ?_)
  · replace hr := zif_t hr c6
    refine lv_iload_n hx hb dX10_doubled_17 rfl (lv_at hl 2 rfl) ?_
    refine lv_if_lt (tgt := 26) hx hb dX10_doubled_18 (by decide) (fun c5 => ?_) (fun c5 => ?_)
    · replace hr := zif_t hr c5
      exact zthrow (k := 1) MX I (by decide) (Option.some.inj hr).symm (zin (i := 801) (by decide +kernel) rfl) (zin (i := 84) (by decide +kernel) rfl) (List.mem_of_getElem? (i := 15) rfl) dX10_doubled_26 dX10_doubled_29 dX10_doubled_30 dX10_doubled_32 dX10_doubled_35 hl.1 (by decide)
    · replace hr := zif_f hr c5
      refine lv_iload_n hx hb dX10_doubled_21 rfl (lv_at hl 2 rfl) ?_
      refine lv_iconst (v := (3 : Int32)) hx hb dX10_doubled_22 (by decide) ?_
      refine lv_icmp_lt (tgt := 36) hx hb dX10_doubled_23 (by decide) (fun c4 => ?_) (fun c4 => ?_)
      · replace hr := zif_t hr c4
        refine lv_aload_n hx hb dX10_doubled_36 rfl (lv_at hl 0 rfl) ?_
        refine zgetR (j := 1) M I zc_0 zfl_X10_10 dX10_doubled_37 rfl ?_
        refine lv_iload_n hx hb dX10_doubled_40 rfl (lv_at hl 1 rfl) ?_
        obtain ⟨x2, e_x2, hr⟩ := zb_some hr
        refine zcallR M I (zrunV (as := [.int a1]) M I (c_X7_rowOf l g fu zc_1 e_x2) zc_1 zK7.1 (by decide) zlv_X10_70 ⟨Nat.le_of_ble_eq_true rfl, Nat.le_of_ble_eq_true rfl⟩ ⟨Nat.zero_le _, Nat.zero_le _⟩ rfl rfl (Nat.le_of_ble_eq_true rfl) hl.1 dX10_doubled_41) (fun H locs I => ?_)
        refine lv_iload_n hx hb dX10_doubled_44 rfl (lv_at hl 2 rfl) ?_
        obtain ⟨x3, e_x3, hr⟩ := zb_some hr
        refine zcallI M I (zrunV (as := [.int a2]) M I (c_X6_stretchProperty l g fu (zq_X7_rowOf zc_1 e_x2) e_x3) (zq_X7_rowOf zc_1 e_x2) zK6.1 (by decide) zlv_X10_244 ⟨Nat.le_of_ble_eq_true rfl, Nat.le_of_ble_eq_true rfl⟩ ⟨Nat.zero_le _, Nat.zero_le _⟩ rfl rfl (Nat.le_of_ble_eq_true rfl) hl.1 dX10_doubled_45) (fun H locs I => ?_)
        exact zretX MX I (Option.some.inj hr).symm dX10_doubled_48
      · replace hr := zif_f hr c4
        exact zthrow (k := 1) MX I (by decide) (Option.some.inj hr).symm (zin (i := 801) (by decide +kernel) rfl) (zin (i := 84) (by decide +kernel) rfl) (List.mem_of_getElem? (i := 15) rfl) dX10_doubled_26 dX10_doubled_29 dX10_doubled_30 dX10_doubled_32 dX10_doubled_35 hl.1 (by decide)
  · replace hr := zif_f hr (fun hq => hq c6)
    exact zthrow (k := 0) MX I (by decide) (Option.some.inj hr).symm (zin (i := 730) (by decide +kernel) rfl) (zin (i := 83) (by decide +kernel) rfl) (List.mem_of_getElem? (i := 18) rfl) dX10_doubled_7 dX10_doubled_10 dX10_doubled_11 dX10_doubled_13 dX10_doubled_16 hl.1 (by decide)
def m_X10_count (fu : Nat) (σ : zmem) (a1 : Int32) : Option (zRX) := (if a1 < 0 then some (.inl 1, σ) else (if a1 < (15 : Int32) then (m_X10_refresh fu σ).bind fun x1 => (m_X10_numberOf fu x1 a1).bind fun x2 => some (.inr x2.1, x2.2) else some (.inl 1, σ)))
set_option maxHeartbeats 4000000 in
set_option maxRecDepth 100000 in
theorem c_X10_count (l : Launch) (hl0 : l.stackTraces = false) (g : zgeo) (fu : Nat) {σ : zmem} {a1 : Int32} {r : zRX} (hr : m_X10_count fu σ a1 = some r) : zCx r l g yX10_count cX10_count 2 (some .int) 6 153 [.ref (zA g 0), .int a1] σ := by
  refine zopenX hl0 (by decide) (Nat.le_of_ble_eq_true rfl) ?_
  intro p e s m below meth c MX ls hl I
  have MX : zMX RX10 cX10_count 2 (some .int) g l p m c s ([.ref (zA g 0), .int a1] : List Value).toArray meth := MX
  have hl : lv_has ls 2 [(0, .ref (zA g 0)), (1, .int a1)] := hl
  generalize ([.ref (zA g 0), .int a1] : List Value).toArray = args at MX ⊢
  have M := MX.1
  have hx := M.1.1
  have hb := M.1.2.1
  unfold m_X10_count at hr
  refine lv_iload_n hx hb dX10_count_0 rfl (lv_at hl 1 rfl) ?_
  refine lv_if_lt (tgt := 10) hx hb dX10_count_1 (by decide) (fun c4 => ?_) (fun c4 => ?_)
  · replace hr := zif_t hr c4
    exact zthrow (k := 1) MX I (by decide) (Option.some.inj hr).symm (zin (i := 801) (by decide +kernel) rfl) (zin (i := 84) (by decide +kernel) rfl) (List.mem_of_getElem? (i := 19) rfl) dX10_count_10 dX10_count_13 dX10_count_14 dX10_count_16 dX10_count_19 hl.1 (by decide)
  · replace hr := zif_f hr c4
    refine lv_iload_n hx hb dX10_count_4 rfl (lv_at hl 1 rfl) ?_
    refine lv_bipush (v := (15 : Int32)) hx hb dX10_count_5 (by decide) ?_
    refine lv_icmp_lt (tgt := 20) hx hb dX10_count_7 (by decide) (fun c3 => ?_) (fun c3 => ?_)
    · replace hr := zif_t hr c3
      refine lv_aload_n hx hb dX10_count_20 rfl (lv_at hl 0 rfl) ?_
      obtain ⟨x1, e_x1, hr⟩ := zb_some hr
      refine zcallU M I (zrunV (as := []) M I (c_X10_refresh l g fu e_x1) zc_0 zK10.1 (by decide) zlv_X10_138 ⟨Nat.le_of_ble_eq_true rfl, Nat.le_of_ble_eq_true rfl⟩ ⟨Nat.zero_le _, Nat.zero_le _⟩ rfl rfl (Nat.le_of_ble_eq_true rfl) hl.1 dX10_count_21) (fun H locs I => ?_)
      refine lv_aload_n hx hb dX10_count_24 rfl (lv_at hl 0 rfl) ?_
      refine lv_iload_n hx hb dX10_count_25 rfl (lv_at hl 1 rfl) ?_
      obtain ⟨x2, e_x2, hr⟩ := zb_some hr
      refine zcallI M I (zrunV (as := [.int a1]) M I (c_X10_numberOf l g fu e_x2) zc_0 zK10.1 (by decide) zlv_X10_249 ⟨Nat.le_of_ble_eq_true rfl, Nat.le_of_ble_eq_true rfl⟩ ⟨Nat.zero_le _, Nat.zero_le _⟩ rfl rfl (Nat.le_of_ble_eq_true rfl) hl.1 dX10_count_26) (fun H locs I => ?_)
      exact zretX MX I (Option.some.inj hr).symm dX10_count_29
    · replace hr := zif_f hr c3
      exact zthrow (k := 1) MX I (by decide) (Option.some.inj hr).symm (zin (i := 801) (by decide +kernel) rfl) (zin (i := 84) (by decide +kernel) rfl) (List.mem_of_getElem? (i := 19) rfl) dX10_count_10 dX10_count_13 dX10_count_14 dX10_count_16 dX10_count_19 hl.1 (by decide)
def m_X10_setting (fu : Nat) (σ : zmem) (a1 : Int32) : Option (zRX) := (m_X10_isSetting fu σ a1).bind fun x1 => (if ¬ x1 = 0 then (m_X1_at fu σ 6 a1).bind fun x2 => some (.inr x2, σ) else some (.inl 0, σ))
set_option maxHeartbeats 4000000 in
set_option maxRecDepth 100000 in
theorem c_X10_setting (l : Launch) (hl0 : l.stackTraces = false) (g : zgeo) (fu : Nat) {σ : zmem} {a1 : Int32} {r : zRX} (hr : m_X10_setting fu σ a1 = some r) : zCx r l g yX10_setting cX10_setting 2 (some .int) 6 82 [.ref (zA g 0), .int a1] σ := by
  refine zopenX hl0 (by decide) (Nat.le_of_ble_eq_true rfl) ?_
  intro p e s m below meth c MX ls hl I
  have MX : zMX RX10 cX10_setting 2 (some .int) g l p m c s ([.ref (zA g 0), .int a1] : List Value).toArray meth := MX
  have hl : lv_has ls 2 [(0, .ref (zA g 0)), (1, .int a1)] := hl
  generalize ([.ref (zA g 0), .int a1] : List Value).toArray = args at MX ⊢
  have M := MX.1
  have hx := M.1.1
  have hb := M.1.2.1
  unfold m_X10_setting at hr
  refine lv_iload_n hx hb dX10_setting_0 rfl (lv_at hl 1 rfl) ?_
  obtain ⟨x1, e_x1, hr⟩ := zb_some hr
  refine zcallI M I (zrunS (as := [.int a1]) M I (c_X10_isSetting l g fu e_x1) zls_X10_151 ⟨Nat.le_of_ble_eq_true rfl, Nat.le_of_ble_eq_true rfl⟩ ⟨Nat.zero_le _, Nat.zero_le _⟩ rfl rfl (Nat.le_of_ble_eq_true rfl) hl.1 dX10_setting_1) (fun H locs I => ?_)
  refine lv_if_ne (tgt := 17) hx hb dX10_setting_4 (by decide) (fun c3 => ?_) (fun c3 => ?_)
  · replace hr := zif_t hr c3
    refine lv_aload_n hx hb dX10_setting_17 rfl (lv_at hl 0 rfl) ?_
    refine zgetR (j := 1) M I zc_0 zfl_X10_10 dX10_setting_18 rfl ?_
    refine zgetR (j := 6) M I zc_1 zfl_X10_161 dX10_setting_21 rfl ?_
    refine lv_iload_n hx hb dX10_setting_24 rfl (lv_at hl 1 rfl) ?_
    obtain ⟨x2, e_x2, hr⟩ := zb_some hr
    refine zcallI M I (zrunV (as := [.int a1]) M I (c_X1_at l g fu zc_6 e_x2) zc_6 zK1.1 (by decide) zlv_X10_165 ⟨Nat.le_of_ble_eq_true rfl, Nat.le_of_ble_eq_true rfl⟩ ⟨Nat.zero_le _, Nat.zero_le _⟩ rfl rfl (Nat.le_of_ble_eq_true rfl) hl.1 dX10_setting_25) (fun H locs I => ?_)
    exact zretX MX I (Option.some.inj hr).symm dX10_setting_28
  · replace hr := zif_f hr (fun hq => hq c3)
    exact zthrow (k := 0) MX I (by decide) (Option.some.inj hr).symm (zin (i := 730) (by decide +kernel) rfl) (zin (i := 83) (by decide +kernel) rfl) (List.mem_of_getElem? (i := 6) rfl) dX10_setting_7 dX10_setting_10 dX10_setting_11 dX10_setting_13 dX10_setting_16 hl.1 (by decide)
def m_X10_ifSet (fu : Nat) (σ : zmem) (a1 : Int32) (a2 : Int32) : Option (zRX) := (m_X10_isSetting fu σ a1).bind fun x1 => (if ¬ x1 = 0 then (m_X10_isValueOf fu σ a1 a2).bind fun x2 => (if ¬ x2 = 0 then (m_X10_costWithSetting fu σ a1 a2).bind fun x3 => some (.inr x3.1, x3.2) else some (.inl 1, σ)) else some (.inl 0, σ))
set_option maxHeartbeats 4000000 in
set_option maxRecDepth 100000 in
theorem c_X10_ifSet (l : Launch) (hl0 : l.stackTraces = false) (g : zgeo) (fu : Nat) {σ : zmem} {a1 : Int32} {a2 : Int32} {r : zRX} (hr : m_X10_ifSet fu σ a1 a2 = some r) : zCx r l g yX10_ifSet cX10_ifSet 3 (some .int) 6 155 [.ref (zA g 0), .int a1, .int a2] σ := by
  refine zopenX hl0 (by decide) (Nat.le_of_ble_eq_true rfl) ?_
  intro p e s m below meth c MX ls hl I
  have MX : zMX RX10 cX10_ifSet 3 (some .int) g l p m c s ([.ref (zA g 0), .int a1, .int a2] : List Value).toArray meth := MX
  have hl : lv_has ls 3 [(0, .ref (zA g 0)), (1, .int a1), (2, .int a2)] := hl
  generalize ([.ref (zA g 0), .int a1, .int a2] : List Value).toArray = args at MX ⊢
  have M := MX.1
  have hx := M.1.1
  have hb := M.1.2.1
  unfold m_X10_ifSet at hr
  refine lv_iload_n hx hb dX10_ifSet_0 rfl (lv_at hl 1 rfl) ?_
  obtain ⟨x1, e_x1, hr⟩ := zb_some hr
  refine zcallI M I (zrunS (as := [.int a1]) M I (c_X10_isSetting l g fu e_x1) zls_X10_151 ⟨Nat.le_of_ble_eq_true rfl, Nat.le_of_ble_eq_true rfl⟩ ⟨Nat.zero_le _, Nat.zero_le _⟩ rfl rfl (Nat.le_of_ble_eq_true rfl) hl.1 dX10_ifSet_1) (fun H locs I => ?_)
  refine lv_if_ne (tgt := 17) hx hb dX10_ifSet_4 (by decide) (fun c5 => ?_) (fun c5 => ?_)
  · replace hr := zif_t hr c5
    refine lv_iload_n hx hb dX10_ifSet_17 rfl (lv_at hl 1 rfl) ?_
    refine lv_iload_n hx hb dX10_ifSet_18 rfl (lv_at hl 2 rfl) ?_
    obtain ⟨x2, e_x2, hr⟩ := zb_some hr
    refine zcallI M I (zrunS (as := [.int a1, .int a2]) M I (c_X10_isValueOf l g fu e_x2) zls_X10_156 ⟨Nat.le_of_ble_eq_true rfl, Nat.le_of_ble_eq_true rfl⟩ ⟨Nat.zero_le _, Nat.zero_le _⟩ rfl rfl (Nat.le_of_ble_eq_true rfl) hl.1 dX10_ifSet_19) (fun H locs I => ?_)
    refine lv_if_ne (tgt := 35) hx hb dX10_ifSet_22 (by decide) (fun c4 => ?_) (fun c4 => ?_)
    · replace hr := zif_t hr c4
      refine lv_aload_n hx hb dX10_ifSet_35 rfl (lv_at hl 0 rfl) ?_
      refine lv_iload_n hx hb dX10_ifSet_36 rfl (lv_at hl 1 rfl) ?_
      refine lv_iload_n hx hb dX10_ifSet_37 rfl (lv_at hl 2 rfl) ?_
      obtain ⟨x3, e_x3, hr⟩ := zb_some hr
      refine zcallI M I (zrunV (as := [.int a1, .int a2]) M I (c_X10_costWithSetting l g fu e_x3) zc_0 zK10.1 (by decide) zlv_X10_252 ⟨Nat.le_of_ble_eq_true rfl, Nat.le_of_ble_eq_true rfl⟩ ⟨Nat.zero_le _, Nat.zero_le _⟩ rfl rfl (Nat.le_of_ble_eq_true rfl) hl.1 dX10_ifSet_38) (fun H locs I => ?_)
      exact zretX MX I (Option.some.inj hr).symm dX10_ifSet_41
    · replace hr := zif_f hr (fun hq => hq c4)
      exact zthrow (k := 1) MX I (by decide) (Option.some.inj hr).symm (zin (i := 801) (by decide +kernel) rfl) (zin (i := 84) (by decide +kernel) rfl) (List.mem_of_getElem? (i := 7) rfl) dX10_ifSet_25 dX10_ifSet_28 dX10_ifSet_29 dX10_ifSet_31 dX10_ifSet_34 hl.1 (by decide)
  · replace hr := zif_f hr (fun hq => hq c5)
    exact zthrow (k := 0) MX I (by decide) (Option.some.inj hr).symm (zin (i := 730) (by decide +kernel) rfl) (zin (i := 83) (by decide +kernel) rfl) (List.mem_of_getElem? (i := 6) rfl) dX10_ifSet_7 dX10_ifSet_10 dX10_ifSet_11 dX10_ifSet_13 dX10_ifSet_16 hl.1 (by decide)
def m_X10_ifChanged (fu : Nat) (σ : zmem) (a1 : Int32) (a2 : Int32) (a3 : Int32) : Option (zRX) := (m_X10_isPlace fu σ a1 a2).bind fun x1 => (if ¬ x1 = 0 then (m_X10_isSign fu σ a3).bind fun x2 => (if ¬ x2 = 0 then (m_X10_costWithSign fu σ a1 a2 a3).bind fun x3 => some (.inr x3.1, x3.2) else some (.inl 1, σ)) else some (.inl 0, σ))
set_option maxHeartbeats 4000000 in
set_option maxRecDepth 100000 in
theorem c_X10_ifChanged (l : Launch) (hl0 : l.stackTraces = false) (g : zgeo) (fu : Nat) {σ : zmem} {a1 : Int32} {a2 : Int32} {a3 : Int32} {r : zRX} (hr : m_X10_ifChanged fu σ a1 a2 a3 = some r) : zCx r l g yX10_ifChanged cX10_ifChanged 4 (some .int) 6 156 [.ref (zA g 0), .int a1, .int a2, .int a3] σ := by
  refine zopenX hl0 (by decide) (Nat.le_of_ble_eq_true rfl) ?_
  intro p e s m below meth c MX ls hl I
  have MX : zMX RX10 cX10_ifChanged 4 (some .int) g l p m c s ([.ref (zA g 0), .int a1, .int a2, .int a3] : List Value).toArray meth := MX
  have hl : lv_has ls 4 [(0, .ref (zA g 0)), (1, .int a1), (2, .int a2), (3, .int a3)] := hl
  generalize ([.ref (zA g 0), .int a1, .int a2, .int a3] : List Value).toArray = args at MX ⊢
  have M := MX.1
  have hx := M.1.1
  have hb := M.1.2.1
  unfold m_X10_ifChanged at hr
  refine lv_aload_n hx hb dX10_ifChanged_0 rfl (lv_at hl 0 rfl) ?_
  refine lv_iload_n hx hb dX10_ifChanged_1 rfl (lv_at hl 1 rfl) ?_
  refine lv_iload_n hx hb dX10_ifChanged_2 rfl (lv_at hl 2 rfl) ?_
  obtain ⟨x1, e_x1, hr⟩ := zb_some hr
  refine zcallI M I (zrunV (as := [.int a1, .int a2]) M I (c_X10_isPlace l g fu e_x1) zc_0 zK10.1 (by decide) zlv_X10_107 ⟨Nat.le_of_ble_eq_true rfl, Nat.le_of_ble_eq_true rfl⟩ ⟨Nat.zero_le _, Nat.zero_le _⟩ rfl rfl (Nat.le_of_ble_eq_true rfl) hl.1 dX10_ifChanged_3) (fun H locs I => ?_)
  refine lv_if_ne (tgt := 19) hx hb dX10_ifChanged_6 (by decide) (fun c5 => ?_) (fun c5 => ?_)
  · replace hr := zif_t hr c5
    refine lv_iload_n hx hb dX10_ifChanged_19 rfl (lv_at hl 3 rfl) ?_
    obtain ⟨x2, e_x2, hr⟩ := zb_some hr
    refine zcallI M I (zrunS (as := [.int a3]) M I (c_X10_isSign l g fu e_x2) zls_X10_87 ⟨Nat.le_of_ble_eq_true rfl, Nat.le_of_ble_eq_true rfl⟩ ⟨Nat.zero_le _, Nat.zero_le _⟩ rfl rfl (Nat.le_of_ble_eq_true rfl) hl.1 dX10_ifChanged_20) (fun H locs I => ?_)
    refine lv_if_ne (tgt := 36) hx hb dX10_ifChanged_23 (by decide) (fun c4 => ?_) (fun c4 => ?_)
    · replace hr := zif_t hr c4
      refine lv_aload_n hx hb dX10_ifChanged_36 rfl (lv_at hl 0 rfl) ?_
      refine lv_iload_n hx hb dX10_ifChanged_37 rfl (lv_at hl 1 rfl) ?_
      refine lv_iload_n hx hb dX10_ifChanged_38 rfl (lv_at hl 2 rfl) ?_
      refine lv_iload_n hx hb dX10_ifChanged_39 rfl (lv_at hl 3 rfl) ?_
      obtain ⟨x3, e_x3, hr⟩ := zb_some hr
      refine zcallI M I (zrunV (as := [.int a1, .int a2, .int a3]) M I (c_X10_costWithSign l g fu e_x3) zc_0 zK10.1 (by decide) zlv_X10_255 ⟨Nat.le_of_ble_eq_true rfl, Nat.le_of_ble_eq_true rfl⟩ ⟨Nat.zero_le _, Nat.zero_le _⟩ rfl rfl (Nat.le_of_ble_eq_true rfl) hl.1 dX10_ifChanged_40) (fun H locs I => ?_)
      exact zretX MX I (Option.some.inj hr).symm dX10_ifChanged_43
    · replace hr := zif_f hr (fun hq => hq c4)
      exact zthrow (k := 1) MX I (by decide) (Option.some.inj hr).symm (zin (i := 801) (by decide +kernel) rfl) (zin (i := 84) (by decide +kernel) rfl) (List.mem_of_getElem? (i := 1) rfl) dX10_ifChanged_26 dX10_ifChanged_29 dX10_ifChanged_30 dX10_ifChanged_32 dX10_ifChanged_35 hl.1 (by decide)
  · replace hr := zif_f hr (fun hq => hq c5)
    exact zthrow (k := 0) MX I (by decide) (Option.some.inj hr).symm (zin (i := 730) (by decide +kernel) rfl) (zin (i := 83) (by decide +kernel) rfl) (List.mem_of_getElem? (i := 0) rfl) dX10_ifChanged_9 dX10_ifChanged_12 dX10_ifChanged_13 dX10_ifChanged_15 dX10_ifChanged_18 hl.1 (by decide)
