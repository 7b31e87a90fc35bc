def m_X10_isRow (fu : Nat) (σ : zmem) (a0 : Int32) : Option (Int32) := (if a0 = 0 then some (1 : Int32) else (if ¬ a0 = (1 : Int32) then some (0 : Int32) else some (1 : Int32)))
set_option maxHeartbeats 4000000 in
set_option maxRecDepth 100000 in
theorem c_X10_isRow (l : Launch) (g : zgeo) (fu : Nat) {σ : zmem} {a0 : Int32} {r : Int32} (hr : m_X10_isRow fu σ a0 = some r) : zCt (zQI g r σ) l g yX10_isRow cX10_isRow 1 (some .boolean) 0 0 [.int a0] σ := by
  refine zopen (by decide) (Nat.le_of_ble_eq_true rfl) ?_
  intro p e s m below meth c M ls hl I
  have M : zMC RX10 cX10_isRow 1 (some .boolean) g p m c s ([.int a0] : List Value).toArray meth := M
  have hl : lv_has ls 1 [(0, .int a0)] := hl
  generalize ([.int a0] : List Value).toArray = args at M ⊢
  have hx := M.1.1
  have hb := M.1.2.1
  unfold m_X10_isRow at hr
  refine lv_iload_n hx hb dX10_isRow_0 rfl (lv_at hl 0 rfl) ?_
  refine lv_if_eq (tgt := 9) hx hb dX10_isRow_1 (by decide) (fun c2 => ?_) (fun c2 => ?_)
  · replace hr := zif_t hr c2
    refine lv_iconst (v := (1 : Int32)) hx hb dX10_isRow_9 (by decide) ?_
    refine lv_goto (tgt := 14) hx hb dX10_isRow_10 (by decide) ?_
    obtain rfl := Option.some.inj hr
    exact zretZ M I (Or.inr rfl) dX10_isRow_14
  · replace hr := zif_f hr c2
    refine lv_iload_n hx hb dX10_isRow_4 rfl (lv_at hl 0 rfl) ?_
    refine lv_iconst (v := (1 : Int32)) hx hb dX10_isRow_5 (by decide) ?_
    refine lv_icmp_ne (tgt := 13) hx hb dX10_isRow_6 (by decide) (fun c1 => ?_) (fun c1 => ?_)
    · replace hr := zif_t hr c1
      refine lv_iconst (v := (0 : Int32)) hx hb dX10_isRow_13 (by decide) ?_
      obtain rfl := Option.some.inj hr
      exact zretZ M I (Or.inl rfl) dX10_isRow_14
    · replace hr := zif_f hr (fun hq => hq c1)
      refine lv_iconst (v := (1 : Int32)) hx hb dX10_isRow_9 (by decide) ?_
      refine lv_goto (tgt := 14) hx hb dX10_isRow_10 (by decide) ?_
      obtain rfl := Option.some.inj hr
      exact zretZ M I (Or.inr rfl) dX10_isRow_14
def m_X10_isSign (fu : Nat) (σ : zmem) (a0 : Int32) : Option (Int32) := (if a0 < 0 then some (0 : Int32) else (if (4 : Int32) ≤ a0 then some (0 : Int32) else some (1 : Int32)))
set_option maxHeartbeats 4000000 in
set_option maxRecDepth 100000 in
theorem c_X10_isSign (l : Launch) (g : zgeo) (fu : Nat) {σ : zmem} {a0 : Int32} {r : Int32} (hr : m_X10_isSign fu σ a0 = some r) : zCt (zQI g r σ) l g yX10_isSign cX10_isSign 1 (some .boolean) 0 0 [.int a0] σ := by
  refine zopen (by decide) (Nat.le_of_ble_eq_true rfl) ?_
  intro p e s m below meth c M ls hl I
  have M : zMC RX10 cX10_isSign 1 (some .boolean) g p m c s ([.int a0] : List Value).toArray meth := M
  have hl : lv_has ls 1 [(0, .int a0)] := hl
  generalize ([.int a0] : List Value).toArray = args at M ⊢
  have hx := M.1.1
  have hb := M.1.2.1
  unfold m_X10_isSign at hr
  refine lv_iload_n hx hb dX10_isSign_0 rfl (lv_at hl 0 rfl) ?_
  refine lv_if_lt (tgt := 13) hx hb dX10_isSign_1 (by decide) (fun c2 => ?_) (fun c2 => ?_)
  · replace hr := zif_t hr c2
    refine lv_iconst (v := (0 : Int32)) hx hb dX10_isSign_13 (by decide) ?_
    obtain rfl := Option.some.inj hr
    exact zretZ M I (Or.inl rfl) dX10_isSign_14
  · replace hr := zif_f hr c2
    refine lv_iload_n hx hb dX10_isSign_4 rfl (lv_at hl 0 rfl) ?_
    refine lv_iconst (v := (4 : Int32)) hx hb dX10_isSign_5 (by decide) ?_
    refine lv_icmp_ge (tgt := 13) hx hb dX10_isSign_6 (by decide) (fun c1 => ?_) (fun c1 => ?_)
    · replace hr := zif_t hr c1
      refine lv_iconst (v := (0 : Int32)) hx hb dX10_isSign_13 (by decide) ?_
      obtain rfl := Option.some.inj hr
      exact zretZ M I (Or.inl rfl) dX10_isSign_14
    · replace hr := zif_f hr c1
      refine lv_iconst (v := (1 : Int32)) hx hb dX10_isSign_9 (by decide) ?_
      refine lv_goto (tgt := 14) hx hb dX10_isSign_10 (by decide) ?_
      obtain rfl := Option.some.inj hr
      exact zretZ M I (Or.inr rfl) dX10_isSign_14
def m_X10_saveState (fu : Nat) (σ : zmem) : Option (zmem) := (m_X4_save fu σ 29 1).bind fun x1 => some (zst x1 0 11 (1 : Int32))
set_option maxHeartbeats 4000000 in
set_option maxRecDepth 100000 in
theorem c_X10_saveState (l : Launch) (g : zgeo) (fu : Nat) {σ : zmem} {r : zmem} (hr : m_X10_saveState fu σ = some r) : zCt (zQV g r) l g yX10_saveState cX10_saveState 1 none 3 66 [.ref (zA g 0)] σ := by
  refine zopen (by decide) (Nat.le_of_ble_eq_true rfl) ?_
  intro p e s m below meth c M ls hl I
  have M : zMC RX10 cX10_saveState 1 none g p m c s ([.ref (zA g 0)] : List Value).toArray meth := M
  have hl : lv_has ls 1 [(0, .ref (zA g 0))] := hl
  generalize ([.ref (zA g 0)] : List Value).toArray = args at M ⊢
  have hx := M.1.1
  have hb := M.1.2.1
  unfold m_X10_saveState at hr
  refine lv_aload_n hx hb dX10_saveState_0 rfl (lv_at hl 0 rfl) ?_
  refine zgetR (j := 29) M I zc_0 zfl_X10_35 dX10_saveState_1 rfl ?_
  refine lv_aload_n hx hb dX10_saveState_4 rfl (lv_at hl 0 rfl) ?_
  refine zgetR (j := 1) M I zc_0 zfl_X10_10 dX10_saveState_5 rfl ?_
  obtain ⟨x1, e_x1, hr⟩ := zb_some hr
  refine zcallU M I (zrunV (as := [.ref (zA g 1)]) M I (c_X4_save l g fu zc_29 zc_1 e_x1) zc_29 zK4.1 (by decide) zlv_X10_297 ⟨Nat.le_of_ble_eq_true rfl, Nat.le_of_ble_eq_true rfl⟩ ⟨Nat.zero_le _, Nat.zero_le _⟩ rfl rfl (Nat.le_of_ble_eq_true rfl) hl.1 dX10_saveState_8) (fun H locs I => ?_)
  refine lv_aload_n hx hb dX10_saveState_11 rfl (lv_at hl 0 rfl) ?_
  refine lv_iconst (v := (1 : Int32)) hx hb dX10_saveState_12 (by decide) ?_
  refine zputZ M I (by decide) zc_0 zfw_X10_63 dX10_saveState_13 (fun H locs I => ?_)
  obtain rfl := Option.some.inj hr
  exact zretV M I dX10_saveState_16
def m_X10_isPlace (fu : Nat) (σ : zmem) (a1 : Int32) (a2 : Int32) : Option (Int32) := (m_X10_isRow fu σ a1).bind fun x1 => (if x1 = 0 then some (0 : Int32) else (m_X7_rowOf fu σ 1 a1).bind fun x2 => (m_X6_has fu σ x2 a2).bind fun x3 => (if x3 = 0 then some (0 : Int32) else some (1 : Int32)))
set_option maxHeartbeats 4000000 in
set_option maxRecDepth 100000 in
theorem c_X10_isPlace (l : Launch) (g : zgeo) (fu : Nat) {σ : zmem} {a1 : Int32} {a2 : Int32} {r : Int32} (hr : m_X10_isPlace fu σ a1 a2 = some r) : zCt (zQI g r σ) l g yX10_isPlace cX10_isPlace 3 (some .boolean) 1 21 [.ref (zA g 0), .int a1, .int a2] σ := by
  refine zopen (by decide) (Nat.le_of_ble_eq_true rfl) ?_
  intro p e s m below meth c M ls hl I
  have M : zMC RX10 cX10_isPlace 3 (some .boolean) g p m c s ([.ref (zA g 0), .int a1, .int a2] : List Value).toArray meth := M
  have hl : lv_has ls 3 [(0, .ref (zA g 0)), (1, .int a1), (2, .int a2)] := hl
  generalize ([.ref (zA g 0), .int a1, .int a2] : List Value).toArray = args at M ⊢
  have hx := M.1.1
  have hb := M.1.2.1
  unfold m_X10_isPlace at hr
  refine lv_iload_n hx hb dX10_isPlace_0 rfl (lv_at hl 1 rfl) ?_
  obtain ⟨x1, e_x1, hr⟩ := zb_some hr
  refine zcallI M I (zrunS (as := [.int a1]) M I (c_X10_isRow l g fu e_x1) zls_X10_66 ⟨Nat.le_of_ble_eq_true rfl, Nat.le_of_ble_eq_true rfl⟩ ⟨Nat.zero_le _, Nat.zero_le _⟩ rfl rfl (Nat.le_of_ble_eq_true rfl) hl.1 dX10_isPlace_1) (fun H locs I => ?_)
  refine lv_if_eq (tgt := 26) hx hb dX10_isPlace_4 (by decide) (fun c5 => ?_) (fun c5 => ?_)
  · replace hr := zif_t hr c5
    refine lv_iconst (v := (0 : Int32)) hx hb dX10_isPlace_26 (by decide) ?_
    obtain rfl := Option.some.inj hr
    exact zretZ M I (Or.inl rfl) dX10_isPlace_27
  · replace hr := zif_f hr c5
    refine lv_aload_n hx hb dX10_isPlace_7 rfl (lv_at hl 0 rfl) ?_
    refine zgetR (j := 1) M I zc_0 zfl_X10_10 dX10_isPlace_8 rfl ?_
    refine lv_iload_n hx hb dX10_isPlace_11 rfl (lv_at hl 1 rfl) ?_
    obtain ⟨x2, e_x2, hr⟩ := zb_some hr
    refine zcallR M I (zrunV (as := [.int a1]) M I (c_X7_rowOf l g fu zc_1 e_x2) zc_1 zK7.1 (by decide) zlv_X10_70 ⟨Nat.le_of_ble_eq_true rfl, Nat.le_of_ble_eq_true rfl⟩ ⟨Nat.zero_le _, Nat.zero_le _⟩ rfl rfl (Nat.le_of_ble_eq_true rfl) hl.1 dX10_isPlace_12) (fun H locs I => ?_)
    refine lv_iload_n hx hb dX10_isPlace_15 rfl (lv_at hl 2 rfl) ?_
    obtain ⟨x3, e_x3, hr⟩ := zb_some hr
    refine zcallI M I (zrunV (as := [.int a2]) M I (c_X6_has l g fu (zq_X7_rowOf zc_1 e_x2) e_x3) (zq_X7_rowOf zc_1 e_x2) zK6.1 (by decide) zlv_X10_287 ⟨Nat.le_of_ble_eq_true rfl, Nat.le_of_ble_eq_true rfl⟩ ⟨Nat.zero_le _, Nat.zero_le _⟩ rfl rfl (Nat.le_of_ble_eq_true rfl) hl.1 dX10_isPlace_16) (fun H locs I => ?_)
    refine lv_if_eq (tgt := 26) hx hb dX10_isPlace_19 (by decide) (fun c4 => ?_) (fun c4 => ?_)
    · replace hr := zif_t hr c4
      refine lv_iconst (v := (0 : Int32)) hx hb dX10_isPlace_26 (by decide) ?_
      obtain rfl := Option.some.inj hr
      exact zretZ M I (Or.inl rfl) dX10_isPlace_27
    · replace hr := zif_f hr c4
      refine lv_iconst (v := (1 : Int32)) hx hb dX10_isPlace_22 (by decide) ?_
      refine lv_goto (tgt := 27) hx hb dX10_isPlace_23 (by decide) ?_
      obtain rfl := Option.some.inj hr
      exact zretZ M I (Or.inr rfl) dX10_isPlace_27
def m_X10_refresh (fu : Nat) (σ : zmem) : Option (zmem) := (if (σ.1 0 11) = 0 then some σ else (m_X5_build fu σ 35 1).bind fun x1 => (m_X9_find fu x1.2 91 1).bind fun x2 => some (zst x2 0 11 (0 : Int32)))
set_option maxHeartbeats 4000000 in
set_option maxRecDepth 100000 in
theorem c_X10_refresh (l : Launch) (g : zgeo) (fu : Nat) {σ : zmem} {r : zmem} (hr : m_X10_refresh fu σ = some r) : zCt (zQV g r) l g yX10_refresh cX10_refresh 1 none 5 133 [.ref (zA g 0)] σ := by
  refine zopen (by decide) (Nat.le_of_ble_eq_true rfl) ?_
  intro p e s m below meth c M ls hl I
  have M : zMC RX10 cX10_refresh 1 none g p m c s ([.ref (zA g 0)] : List Value).toArray meth := M
  have hl : lv_has ls 1 [(0, .ref (zA g 0))] := hl
  generalize ([.ref (zA g 0)] : List Value).toArray = args at M ⊢
  have hx := M.1.1
  have hb := M.1.2.1
  unfold m_X10_refresh at hr
  refine lv_aload_n hx hb dX10_refresh_0 rfl (lv_at hl 0 rfl) ?_
  refine zgetI M I zc_0 zfl_X10_63 dX10_refresh_1 ?_
  refine lv_if_eq (tgt := 35) hx hb dX10_refresh_4 (by decide) (fun c3 => ?_) (fun c3 => ?_)
  · replace hr := zif_t hr c3
    obtain rfl := Option.some.inj hr
    exact zretV M I dX10_refresh_35
  · replace hr := zif_f hr c3
    refine lv_aload_n hx hb dX10_refresh_7 rfl (lv_at hl 0 rfl) ?_
    refine zgetR (j := 35) M I zc_0 zfl_X10_49 dX10_refresh_8 rfl ?_
    refine lv_aload_n hx hb dX10_refresh_11 rfl (lv_at hl 0 rfl) ?_
    refine zgetR (j := 1) M I zc_0 zfl_X10_10 dX10_refresh_12 rfl ?_
    obtain ⟨x1, e_x1, hr⟩ := zb_some hr
    refine zcallI M I (zrunV (as := [.ref (zA g 1)]) M I (c_X5_build l g fu zc_35 zc_1 e_x1) zc_35 zK5.1 (by decide) zlv_X10_300 ⟨Nat.le_of_ble_eq_true rfl, Nat.le_of_ble_eq_true rfl⟩ ⟨Nat.zero_le _, Nat.zero_le _⟩ rfl rfl (Nat.le_of_ble_eq_true rfl) hl.1 dX10_refresh_15) (fun H locs I => ?_)
    refine lv_pop hx hb dX10_refresh_18 rfl ?_
    refine lv_aload_n hx hb dX10_refresh_19 rfl (lv_at hl 0 rfl) ?_
    refine zgetR (j := 91) M I zc_0 zfl_X10_59 dX10_refresh_20 rfl ?_
    refine lv_aload_n hx hb dX10_refresh_23 rfl (lv_at hl 0 rfl) ?_
    refine zgetR (j := 1) M I zc_0 zfl_X10_10 dX10_refresh_24 rfl ?_
    obtain ⟨x2, e_x2, hr⟩ := zb_some hr
    refine zcallU M I (zrunV (as := [.ref (zA g 1)]) M I (c_X9_find l g fu zc_91 zc_1 e_x2) zc_91 zK9.1 (by decide) zlv_X10_304 ⟨Nat.le_of_ble_eq_true rfl, Nat.le_of_ble_eq_true rfl⟩ ⟨Nat.zero_le _, Nat.zero_le _⟩ rfl rfl (Nat.le_of_ble_eq_true rfl) hl.1 dX10_refresh_27) (fun H locs I => ?_)
    refine lv_aload_n hx hb dX10_refresh_30 rfl (lv_at hl 0 rfl) ?_
    refine lv_iconst (v := (0 : Int32)) hx hb dX10_refresh_31 (by decide) ?_
    refine zputZ M I (by decide) zc_0 zfw_X10_63 dX10_refresh_32 (fun H locs I => ?_)
    obtain rfl := Option.some.inj hr
    exact zretV M I dX10_refresh_35
def m_X10_exchange (fu : Nat) (σ : zmem) : Option (Int32 × zmem) := (m_X10_saveState fu σ).bind fun x1 => (m_X7_exchangeRows fu x1 1).bind fun x2 => (m_X10_refresh fu x2).bind fun x3 => some ((x3.1 36 2), x3)
set_option maxHeartbeats 4000000 in
set_option maxRecDepth 100000 in
theorem c_X10_exchange (l : Launch) (g : zgeo) (fu : Nat) {σ : zmem} {r : Int32 × zmem} (hr : m_X10_exchange fu σ = some r) : zCt (zQI g r.1 r.2) l g yX10_exchange cX10_exchange 1 (some .int) 6 153 [.ref (zA g 0)] σ := by
  refine zopen (by decide) (Nat.le_of_ble_eq_true rfl) ?_
  intro p e s m below meth c M ls hl I
  have M : zMC RX10 cX10_exchange 1 (some .int) g p m c s ([.ref (zA g 0)] : List Value).toArray meth := M
  have hl : lv_has ls 1 [(0, .ref (zA g 0))] := hl
  generalize ([.ref (zA g 0)] : List Value).toArray = args at M ⊢
  have hx := M.1.1
  have hb := M.1.2.1
  unfold m_X10_exchange at hr
  refine lv_aload_n hx hb dX10_exchange_0 rfl (lv_at hl 0 rfl) ?_
  obtain ⟨x1, e_x1, hr⟩ := zb_some hr
  refine zcallU M I (zrunV (as := []) M I (c_X10_saveState l g fu e_x1) zc_0 zK10.1 (by decide) zlv_X10_100 ⟨Nat.le_of_ble_eq_true rfl, Nat.le_of_ble_eq_true rfl⟩ ⟨Nat.zero_le _, Nat.zero_le _⟩ rfl rfl (Nat.le_of_ble_eq_true rfl) hl.1 dX10_exchange_1) (fun H locs I => ?_)
  refine lv_aload_n hx hb dX10_exchange_4 rfl (lv_at hl 0 rfl) ?_
  refine zgetR (j := 1) M I zc_0 zfl_X10_10 dX10_exchange_5 rfl ?_
  obtain ⟨x2, e_x2, hr⟩ := zb_some hr
  refine zcallU M I (zrunV (as := []) M I (c_X7_exchangeRows l g fu zc_1 e_x2) zc_1 zK7.1 (by decide) zlv_X10_135 ⟨Nat.le_of_ble_eq_true rfl, Nat.le_of_ble_eq_true rfl⟩ ⟨Nat.zero_le _, Nat.zero_le _⟩ rfl rfl (Nat.le_of_ble_eq_true rfl) hl.1 dX10_exchange_8) (fun H locs I => ?_)
  refine lv_aload_n hx hb dX10_exchange_11 rfl (lv_at hl 0 rfl) ?_
  obtain ⟨x3, e_x3, hr⟩ := zb_some hr
  refine zcallU M I (zrunV (as := []) M I (c_X10_refresh l g fu e_x3) zc_0 zK10.1 (by decide) zlv_X10_138 ⟨Nat.le_of_ble_eq_true rfl, Nat.le_of_ble_eq_true rfl⟩ ⟨Nat.zero_le _, Nat.zero_le _⟩ rfl rfl (Nat.le_of_ble_eq_true rfl) hl.1 dX10_exchange_12) (fun H locs I => ?_)
  refine lv_aload_n hx hb dX10_exchange_15 rfl (lv_at hl 0 rfl) ?_
  refine zgetR (j := 35) M I zc_0 zfl_X10_49 dX10_exchange_16 rfl ?_
  refine zgetR (j := 36) M I zc_35 zfl_X10_141 dX10_exchange_19 rfl ?_
  refine zgetI M I zc_36 zfl_X10_145 dX10_exchange_22 ?_
  obtain rfl := Option.some.inj hr
  exact zretI M I dX10_exchange_25
def m_X10_isSetting (fu : Nat) (σ : zmem) (a0 : Int32) : Option (Int32) := (if a0 < 0 then some (0 : Int32) else (if (4 : Int32) ≤ a0 then some (0 : Int32) else some (1 : Int32)))
set_option maxHeartbeats 4000000 in
set_option maxRecDepth 100000 in
theorem c_X10_isSetting (l : Launch) (g : zgeo) (fu : Nat) {σ : zmem} {a0 : Int32} {r : Int32} (hr : m_X10_isSetting fu σ a0 = some r) : zCt (zQI g r σ) l g yX10_isSetting cX10_isSetting 1 (some .boolean) 0 0 [.int a0] σ := by
  refine zopen (by decide) (Nat.le_of_ble_eq_true rfl) ?_
  intro p e s m below meth c M ls hl I
  have M : zMC RX10 cX10_isSetting 1 (some .boolean) g p m c s ([.int a0] : List Value).toArray meth := M
  have hl : lv_has ls 1 [(0, .int a0)] := hl
  generalize ([.int a0] : List Value).toArray = args at M ⊢
  have hx := M.1.1
  have hb := M.1.2.1
  unfold m_X10_isSetting at hr
  refine lv_iload_n hx hb dX10_isSetting_0 rfl (lv_at hl 0 rfl) ?_
  refine lv_if_lt (tgt := 13) hx hb dX10_isSetting_1 (by decide) (fun c2 => ?_) (fun c2 => ?_)
  · replace hr := zif_t hr c2
    refine lv_iconst (v := (0 : Int32)) hx hb dX10_isSetting_13 (by decide) ?_
    obtain rfl := Option.some.inj hr
    exact zretZ M I (Or.inl rfl) dX10_isSetting_14
  · replace hr := zif_f hr c2
    refine lv_iload_n hx hb dX10_isSetting_4 rfl (lv_at hl 0 rfl) ?_
    refine lv_iconst (v := (4 : Int32)) hx hb dX10_isSetting_5 (by decide) ?_
    refine lv_icmp_ge (tgt := 13) hx hb dX10_isSetting_6 (by decide) (fun c1 => ?_) (fun c1 => ?_)
    · replace hr := zif_t hr c1
      refine lv_iconst (v := (0 : Int32)) hx hb dX10_isSetting_13 (by decide) ?_
      obtain rfl := Option.some.inj hr
      exact zretZ M I (Or.inl rfl) dX10_isSetting_14
    · replace hr := zif_f hr c1
      refine lv_iconst (v := (1 : Int32)) hx hb dX10_isSetting_9 (by decide) ?_
      refine lv_goto (tgt := 14) hx hb dX10_isSetting_10 (by decide) ?_
      obtain rfl := Option.some.inj hr
      exact zretZ M I (Or.inr rfl) dX10_isSetting_14
def m_X10_isValueOf (fu : Nat) (σ : zmem) (a0 : Int32) (a1 : Int32) : Option (Int32) := (if a0 = (0 : Int32) then (if a1 < (2 : Int32) then some (0 : Int32) else (if (5 : Int32) < a1 then some (0 : Int32) else some (1 : Int32))) else (if a0 = (1 : Int32) then (if a1 < 0 then some (0 : Int32) else (if (9 : Int32) < a1 then some (0 : Int32) else some (1 : Int32))) else (if a0 = (2 : Int32) then (if a1 < 0 then some (0 : Int32) else (if (9 : Int32) < a1 then some (0 : Int32) else some (1 : Int32))) else (if a0 = (3 : Int32) then (if a1 < 0 then some (0 : Int32) else (if (24 : Int32) < a1 then some (0 : Int32) else some (1 : Int32))) else some (0 : Int32)))))
set_option maxHeartbeats 4000000 in
set_option maxRecDepth 100000 in
theorem c_X10_isValueOf (l : Launch) (g : zgeo) (fu : Nat) {σ : zmem} {a0 : Int32} {a1 : Int32} {r : Int32} (hr : m_X10_isValueOf fu σ a0 a1 = some r) : zCt (zQI g r σ) l g yX10_isValueOf cX10_isValueOf 2 (some .boolean) 0 0 [.int a0, .int a1] σ := by
  refine zopen (by decide) (Nat.le_of_ble_eq_true rfl) ?_
  intro p e s m below meth c M ls hl I
  have M : zMC RX10 cX10_isValueOf 2 (some .boolean) g p m c s ([.int a0, .int a1] : List Value).toArray meth := M
  have hl : lv_has ls 2 [(0, .int a0), (1, .int a1)] := hl
  generalize ([.int a0, .int a1] : List Value).toArray = args at M ⊢
  have hx := M.1.1
  have hb := M.1.2.1
  unfold m_X10_isValueOf at hr
  refine lv_iload_n hx hb dX10_isValueOf_0 rfl (lv_at hl 0 rfl) ?_
  by_cases c1 : a0 = (0 : Int32)
  · replace hr := zif_t hr c1
    refine lv_tableIn (tgt := 32) hx hb dX10_isValueOf_1 (by rw [c1]; decide) (by rw [c1]; decide) (by rw [c1]; try rfl) (by decide) ?_
    refine lv_iload_n hx hb dX10_isValueOf_32 rfl (lv_at hl 1 rfl) ?_
    refine lv_iconst (v := (2 : Int32)) hx hb dX10_isValueOf_33 (by decide) ?_
    refine lv_icmp_lt (tgt := 46) hx hb dX10_isValueOf_34 (by decide) (fun c3 => ?_) (fun c3 => ?_)
    · replace hr := zif_t hr c3
      refine lv_iconst (v := (0 : Int32)) hx hb dX10_isValueOf_46 (by decide) ?_
      obtain rfl := Option.some.inj hr
      exact zretZ M I (Or.inl rfl) dX10_isValueOf_47
    · replace hr := zif_f hr c3
      refine lv_iload_n hx hb dX10_isValueOf_37 rfl (lv_at hl 1 rfl) ?_
      refine lv_iconst (v := (5 : Int32)) hx hb dX10_isValueOf_38 (by decide) ?_
      refine lv_icmp_gt (tgt := 46) hx hb dX10_isValueOf_39 (by decide) (fun c2 => ?_) (fun c2 => ?_)
      · replace hr := zif_t hr c2
        refine lv_iconst (v := (0 : Int32)) hx hb dX10_isValueOf_46 (by decide) ?_
        obtain rfl := Option.some.inj hr
        exact zretZ M I (Or.inl rfl) dX10_isValueOf_47
      · replace hr := zif_f hr c2
        refine lv_iconst (v := (1 : Int32)) hx hb dX10_isValueOf_42 (by decide) ?_
        refine lv_goto (tgt := 47) hx hb dX10_isValueOf_43 (by decide) ?_
        obtain rfl := Option.some.inj hr
        exact zretZ M I (Or.inr rfl) dX10_isValueOf_47
  · replace hr := zif_f hr c1
    by_cases c4 : a0 = (1 : Int32)
    · replace hr := zif_t hr c4
      refine lv_tableIn (tgt := 48) hx hb dX10_isValueOf_1 (by rw [c4]; decide) (by rw [c4]; decide) (by rw [c4]; try rfl) (by decide) ?_
      refine lv_iload_n hx hb dX10_isValueOf_48 rfl (lv_at hl 1 rfl) ?_
      refine lv_if_lt (tgt := 62) hx hb dX10_isValueOf_49 (by decide) (fun c6 => ?_) (fun c6 => ?_)
      · replace hr := zif_t hr c6
        refine lv_iconst (v := (0 : Int32)) hx hb dX10_isValueOf_62 (by decide) ?_
        obtain rfl := Option.some.inj hr
        exact zretZ M I (Or.inl rfl) dX10_isValueOf_63
      · replace hr := zif_f hr c6
        refine lv_iload_n hx hb dX10_isValueOf_52 rfl (lv_at hl 1 rfl) ?_
        refine lv_bipush (v := (9 : Int32)) hx hb dX10_isValueOf_53 (by decide) ?_
        refine lv_icmp_gt (tgt := 62) hx hb dX10_isValueOf_55 (by decide) (fun c5 => ?_) (fun c5 => ?_)
        · replace hr := zif_t hr c5
          refine lv_iconst (v := (0 : Int32)) hx hb dX10_isValueOf_62 (by decide) ?_
          obtain rfl := Option.some.inj hr
          exact zretZ M I (Or.inl rfl) dX10_isValueOf_63
        · replace hr := zif_f hr c5
          refine lv_iconst (v := (1 : Int32)) hx hb dX10_isValueOf_58 (by decide) ?_
          refine lv_goto (tgt := 63) hx hb dX10_isValueOf_59 (by decide) ?_
          obtain rfl := Option.some.inj hr
          exact zretZ M I (Or.inr rfl) dX10_isValueOf_63
    · replace hr := zif_f hr c4
      by_cases c7 : a0 = (2 : Int32)
      · replace hr := zif_t hr c7
        refine lv_tableIn (tgt := 48) hx hb dX10_isValueOf_1 (by rw [c7]; decide) (by rw [c7]; decide) (by rw [c7]; try rfl) (by decide) ?_
        refine lv_iload_n hx hb dX10_isValueOf_48 rfl (lv_at hl 1 rfl) ?_
        refine lv_if_lt (tgt := 62) hx hb dX10_isValueOf_49 (by decide) (fun c9 => ?_) (fun c9 => ?_)
        · replace hr := zif_t hr c9
          refine lv_iconst (v := (0 : Int32)) hx hb dX10_isValueOf_62 (by decide) ?_
          obtain rfl := Option.some.inj hr
          exact zretZ M I (Or.inl rfl) dX10_isValueOf_63
        · replace hr := zif_f hr c9
          refine lv_iload_n hx hb dX10_isValueOf_52 rfl (lv_at hl 1 rfl) ?_
          refine lv_bipush (v := (9 : Int32)) hx hb dX10_isValueOf_53 (by decide) ?_
          refine lv_icmp_gt (tgt := 62) hx hb dX10_isValueOf_55 (by decide) (fun c8 => ?_) (fun c8 => ?_)
          · replace hr := zif_t hr c8
            refine lv_iconst (v := (0 : Int32)) hx hb dX10_isValueOf_62 (by decide) ?_
            obtain rfl := Option.some.inj hr
            exact zretZ M I (Or.inl rfl) dX10_isValueOf_63
          · replace hr := zif_f hr c8
            refine lv_iconst (v := (1 : Int32)) hx hb dX10_isValueOf_58 (by decide) ?_
            refine lv_goto (tgt := 63) hx hb dX10_isValueOf_59 (by decide) ?_
            obtain rfl := Option.some.inj hr
            exact zretZ M I (Or.inr rfl) dX10_isValueOf_63
      · replace hr := zif_f hr c7
        by_cases c10 : a0 = (3 : Int32)
        · replace hr := zif_t hr c10
          refine lv_tableIn (tgt := 64) hx hb dX10_isValueOf_1 (by rw [c10]; decide) (by rw [c10]; decide) (by rw [c10]; try rfl) (by decide) ?_
          refine lv_iload_n hx hb dX10_isValueOf_64 rfl (lv_at hl 1 rfl) ?_
          refine lv_if_lt (tgt := 78) hx hb dX10_isValueOf_65 (by decide) (fun c12 => ?_) (fun c12 => ?_)
          · replace hr := zif_t hr c12
            refine lv_iconst (v := (0 : Int32)) hx hb dX10_isValueOf_78 (by decide) ?_
            obtain rfl := Option.some.inj hr
            exact zretZ M I (Or.inl rfl) dX10_isValueOf_79
          · replace hr := zif_f hr c12
            refine lv_iload_n hx hb dX10_isValueOf_68 rfl (lv_at hl 1 rfl) ?_
            refine lv_bipush (v := (24 : Int32)) hx hb dX10_isValueOf_69 (by decide) ?_
            refine lv_icmp_gt (tgt := 78) hx hb dX10_isValueOf_71 (by decide) (fun c11 => ?_) (fun c11 => ?_)
            · replace hr := zif_t hr c11
              refine lv_iconst (v := (0 : Int32)) hx hb dX10_isValueOf_78 (by decide) ?_
              obtain rfl := Option.some.inj hr
              exact zretZ M I (Or.inl rfl) dX10_isValueOf_79
            · replace hr := zif_f hr c11
              refine lv_iconst (v := (1 : Int32)) hx hb dX10_isValueOf_74 (by decide) ?_
              refine lv_goto (tgt := 79) hx hb dX10_isValueOf_75 (by decide) ?_
              obtain rfl := Option.some.inj hr
              exact zretZ M I (Or.inr rfl) dX10_isValueOf_79
        · replace hr := zif_f hr c10
          refine lv_tableOut (tgt := 80) hx hb dX10_isValueOf_1 (ztab_4 c1 c4 c7 c10) (by decide) ?_
          refine lv_iconst (v := (0 : Int32)) hx hb dX10_isValueOf_80 (by decide) ?_
          obtain rfl := Option.some.inj hr
          exact zretZ M I (Or.inl rfl) dX10_isValueOf_81
def m_X10_clearBuffer (fu : Nat) (σ : zmem) : Option (Int32 × zmem) := (m_X8_size fu σ 32).bind fun x1 => (m_X8_clear fu σ 32).bind fun x2 => some (x1, x2)
set_option maxHeartbeats 4000000 in
set_option maxRecDepth 100000 in
theorem c_X10_clearBuffer (l : Launch) (g : zgeo) (fu : Nat) {σ : zmem} {r : Int32 × zmem} (hr : m_X10_clearBuffer fu σ = some r) : zCt (zQI g r.1 r.2) l g yX10_clearBuffer cX10_clearBuffer 2 (some .int) 1 20 [.ref (zA g 0)] σ := by
  refine zopen (by decide) (Nat.le_of_ble_eq_true rfl) ?_
  intro p e s m below meth c M ls hl I
  have M : zMC RX10 cX10_clearBuffer 2 (some .int) g p m c s ([.ref (zA g 0)] : List Value).toArray meth := M
  have hl : lv_has ls 2 [(0, .ref (zA g 0))] := hl
  generalize ([.ref (zA g 0)] : List Value).toArray = args at M ⊢
  have hx := M.1.1
  have hb := M.1.2.1
  unfold m_X10_clearBuffer at hr
  refine lv_aload_n hx hb dX10_clearBuffer_0 rfl (lv_at hl 0 rfl) ?_
  refine zgetR (j := 32) M I zc_0 zfl_X10_42 dX10_clearBuffer_1 rfl ?_
  obtain ⟨x1, e_x1, hr⟩ := zb_some hr
  refine zcallI M I (zrunV (as := []) M I (c_X8_size l g fu zc_32 e_x1) zc_32 zK8.1 (by decide) zlv_X10_175 ⟨Nat.le_of_ble_eq_true rfl, Nat.le_of_ble_eq_true rfl⟩ ⟨Nat.zero_le _, Nat.zero_le _⟩ rfl rfl (Nat.le_of_ble_eq_true rfl) hl.1 dX10_clearBuffer_4) (fun H locs I => ?_)
  refine lv_istore_n (lv' := [(1, .int x1), (0, .ref (zA g 0))]) hx hb dX10_clearBuffer_7 rfl hl (by decide) rfl (fun ls hl => ?_)
  refine lv_aload_n hx hb dX10_clearBuffer_8 rfl (lv_at hl 1 rfl) ?_
  refine zgetR (j := 32) M I zc_0 zfl_X10_42 dX10_clearBuffer_9 rfl ?_
  obtain ⟨x2, e_x2, hr⟩ := zb_some hr
  refine zcallU M I (zrunV (as := []) M I (c_X8_clear l g fu zc_32 e_x2) zc_32 zK8.1 (by decide) zlv_X10_181 ⟨Nat.le_of_ble_eq_true rfl, Nat.le_of_ble_eq_true rfl⟩ ⟨Nat.zero_le _, Nat.zero_le _⟩ rfl rfl (Nat.le_of_ble_eq_true rfl) hl.1 dX10_clearBuffer_12) (fun H locs I => ?_)
  refine lv_iload_n hx hb dX10_clearBuffer_15 rfl (lv_at hl 0 rfl) ?_
  obtain rfl := Option.some.inj hr
  exact zretI M I dX10_clearBuffer_16
def m_X10_firstError (fu : Nat) (σ : zmem) : Option (Int32) := (m_X8_faultPlace fu σ 32).bind fun x1 => some x1
set_option maxHeartbeats 4000000 in
set_option maxRecDepth 100000 in
theorem c_X10_firstError (l : Launch) (g : zgeo) (fu : Nat) {σ : zmem} {r : Int32} (hr : m_X10_firstError fu σ = some r) : zCt (zQI g r σ) l g yX10_firstError cX10_firstError 1 (some .int) 2 46 [.ref (zA g 0)] σ := by
  refine zopen (by decide) (Nat.le_of_ble_eq_true rfl) ?_
  intro p e s m below meth c M ls hl I
  have M : zMC RX10 cX10_firstError 1 (some .int) g p m c s ([.ref (zA g 0)] : List Value).toArray meth := M
  have hl : lv_has ls 1 [(0, .ref (zA g 0))] := hl
  generalize ([.ref (zA g 0)] : List Value).toArray = args at M ⊢
  have hx := M.1.1
  have hb := M.1.2.1
  unfold m_X10_firstError at hr
  refine lv_aload_n hx hb dX10_firstError_0 rfl (lv_at hl 0 rfl) ?_
  refine zgetR (j := 32) M I zc_0 zfl_X10_42 dX10_firstError_1 rfl ?_
  obtain ⟨x1, e_x1, hr⟩ := zb_some hr
  refine zcallI M I (zrunV (as := []) M I (c_X8_faultPlace l g fu zc_32 e_x1) zc_32 zK8.1 (by decide) zlv_X10_184 ⟨Nat.le_of_ble_eq_true rfl, Nat.le_of_ble_eq_true rfl⟩ ⟨Nat.zero_le _, Nat.zero_le _⟩ rfl rfl (Nat.le_of_ble_eq_true rfl) hl.1 dX10_firstError_4) (fun H locs I => ?_)
  obtain rfl := Option.some.inj hr
  exact zretI M I dX10_firstError_7
def m_X10_isSnapshot (fu : Nat) (σ : zmem) (a0 : Int32) : Option (Int32) := (if a0 = 0 then some (1 : Int32) else (if ¬ a0 = (1 : Int32) then some (0 : Int32) else some (1 : Int32)))
set_option maxHeartbeats 4000000 in
set_option maxRecDepth 100000 in
theorem c_X10_isSnapshot (l : Launch) (g : zgeo) (fu : Nat) {σ : zmem} {a0 : Int32} {r : Int32} (hr : m_X10_isSnapshot fu σ a0 = some r) : zCt (zQI g r σ) l g yX10_isSnapshot cX10_isSnapshot 1 (some .boolean) 0 0 [.int a0] σ := by
  refine zopen (by decide) (Nat.le_of_ble_eq_true rfl) ?_
  intro p e s m below meth c M ls hl I
  have M : zMC RX10 cX10_isSnapshot 1 (some .boolean) g p m c s ([.int a0] : List Value).toArray meth := M
  have hl : lv_has ls 1 [(0, .int a0)] := hl
  generalize ([.int a0] : List Value).toArray = args at M ⊢
  have hx := M.1.1
  have hb := M.1.2.1
  unfold m_X10_isSnapshot at hr
  refine lv_iload_n hx hb dX10_isSnapshot_0 rfl (lv_at hl 0 rfl) ?_
  refine lv_if_eq (tgt := 9) hx hb dX10_isSnapshot_1 (by decide) (fun c2 => ?_) (fun c2 => ?_)
  · replace hr := zif_t hr c2
    refine lv_iconst (v := (1 : Int32)) hx hb dX10_isSnapshot_9 (by decide) ?_
    refine lv_goto (tgt := 14) hx hb dX10_isSnapshot_10 (by decide) ?_
    obtain rfl := Option.some.inj hr
    exact zretZ M I (Or.inr rfl) dX10_isSnapshot_14
  · replace hr := zif_f hr c2
    refine lv_iload_n hx hb dX10_isSnapshot_4 rfl (lv_at hl 0 rfl) ?_
    refine lv_iconst (v := (1 : Int32)) hx hb dX10_isSnapshot_5 (by decide) ?_
    refine lv_icmp_ne (tgt := 13) hx hb dX10_isSnapshot_6 (by decide) (fun c1 => ?_) (fun c1 => ?_)
    · replace hr := zif_t hr c1
      refine lv_iconst (v := (0 : Int32)) hx hb dX10_isSnapshot_13 (by decide) ?_
      obtain rfl := Option.some.inj hr
      exact zretZ M I (Or.inl rfl) dX10_isSnapshot_14
    · replace hr := zif_f hr (fun hq => hq c1)
      refine lv_iconst (v := (1 : Int32)) hx hb dX10_isSnapshot_9 (by decide) ?_
      refine lv_goto (tgt := 14) hx hb dX10_isSnapshot_10 (by decide) ?_
      obtain rfl := Option.some.inj hr
      exact zretZ M I (Or.inr rfl) dX10_isSnapshot_14
def m_X10_snapshotOf (fu : Nat) (σ : zmem) (a1 : Int32) : Option (Nat) := (if ¬ a1 = 0 then some 22 else some 15)
set_option maxHeartbeats 4000000 in
set_option maxRecDepth 100000 in
theorem c_X10_snapshotOf (l : Launch) (g : zgeo) (fu : Nat) {σ : zmem} {a1 : Int32} {r : Nat} (hr : m_X10_snapshotOf fu σ a1 = some r) : zCt (zQR g r σ) l g yX10_snapshotOf cX10_snapshotOf 2 (some (.object "AnchorChains$State")) 0 0 [.ref (zA g 0), .int a1] σ := by
  refine zopen (by decide) (Nat.le_of_ble_eq_true rfl) ?_
  intro p e s m below meth c M ls hl I
  have M : zMC RX10 cX10_snapshotOf 2 (some (.object "AnchorChains$State")) g p m c s ([.ref (zA g 0), .int a1] : List Value).toArray meth := M
  have hl : lv_has ls 2 [(0, .ref (zA g 0)), (1, .int a1)] := hl
  generalize ([.ref (zA g 0), .int a1] : List Value).toArray = args at M ⊢
  have hx := M.1.1
  have hb := M.1.2.1
  unfold m_X10_snapshotOf at hr
  refine lv_iload_n hx hb dX10_snapshotOf_0 rfl (lv_at hl 1 rfl) ?_
  refine lv_if_ne (tgt := 11) hx hb dX10_snapshotOf_1 (by decide) (fun c1 => ?_) (fun c1 => ?_)
  · replace hr := zif_t hr c1
    refine lv_aload_n hx hb dX10_snapshotOf_11 rfl (lv_at hl 0 rfl) ?_
    refine zgetR (j := 22) M I zc_0 zfl_X10_22 dX10_snapshotOf_12 rfl ?_
    obtain rfl := Option.some.inj hr
    exact zretR M I dX10_snapshotOf_15
  · replace hr := zif_f hr (fun hq => hq c1)
    refine lv_aload_n hx hb dX10_snapshotOf_4 rfl (lv_at hl 0 rfl) ?_
    refine zgetR (j := 15) M I zc_0 zfl_X10_19 dX10_snapshotOf_5 rfl ?_
    refine lv_goto (tgt := 15) hx hb dX10_snapshotOf_8 (by decide) ?_
    obtain rfl := Option.some.inj hr
    exact zretR M I dX10_snapshotOf_15
theorem zq_X10_snapshotOf {fu : Nat} {σ : zmem} {a1 : Int32} {x : Nat} (e : m_X10_snapshotOf fu σ a1 = some x) : zkd x = (7, 0) := by
  unfold m_X10_snapshotOf at e
  split at e <;> cases e <;> first | exact zc_15 | exact zc_22
def m_X10_numberOf (fu : Nat) (σ : zmem) (a1 : Int32) : Option (Int32 × zmem) := (if a1 = (0 : Int32) then (m_X6_size fu σ 2).bind fun x2 => some (x2, σ) else (if a1 = (1 : Int32) then (m_X6_size fu σ 4).bind fun x4 => some (x4, σ) else (if a1 = (2 : Int32) then some ((σ.1 36 2), σ) else (if a1 = (3 : Int32) then some ((σ.1 92 2), σ) else (if a1 = (4 : Int32) then some ((σ.1 45 4), σ) else (if a1 = (5 : Int32) then some ((σ.1 35 2), σ) else (if a1 = (6 : Int32) then some ((σ.1 35 3), σ) else (if a1 = (7 : Int32) then (m_X5_freeCost fu σ 35 1).bind fun x11 => some (x11.1, x11.2) else (if a1 = (8 : Int32) then some ((σ.1 91 1), σ) else (if a1 = (9 : Int32) then some ((σ.1 91 2), σ) else (if a1 = (10 : Int32) then (m_X5_likePairs fu σ 35 1).bind fun x15 => some (x15, σ) else (if a1 = (11 : Int32) then (m_X6_size fu σ 2).bind fun x17 => (m_X5_leftOut fu σ 35 (0 : Int32) x17).bind fun x18 => some (x18, σ) else (if a1 = (12 : Int32) then (m_X6_size fu σ 4).bind fun x20 => (m_X5_leftOut fu σ 35 (1 : Int32) x20).bind fun x21 => some (x21, σ) else (if a1 = (13 : Int32) then ((if (σ.1 0 4) = 0 then some (0 : Int32) else some (1 : Int32)) : Option (Int32)).bind fun x23 => ((if (σ.1 0 5) = 0 then some (0 : Int32) else some (1 : Int32)) : Option (Int32)).bind fun x24 => some ((x23 + x24), σ) else (if a1 = (14 : Int32) then (m_X4_size fu σ 29).bind fun x28 => some (x28, σ) else some ((-1 : Int32), σ))))))))))))))))
set_option maxHeartbeats 4000000 in
set_option maxRecDepth 100000 in
theorem c_X10_numberOf (l : Launch) (g : zgeo) (fu : Nat) {σ : zmem} {a1 : Int32} {r : Int32 × zmem} (hr : m_X10_numberOf fu σ a1 = some r) : zCt (zQI g r.1 r.2) l g yX10_numberOf cX10_numberOf 2 (some .int) 4 98 [.ref (zA g 0), .int a1] σ := by
  refine zopen (by decide) (Nat.le_of_ble_eq_true rfl) ?_
  intro p e s m below meth c M ls hl I
  have M : zMC RX10 cX10_numberOf 2 (some .int) g p m c s ([.ref (zA g 0), .int a1] : List Value).toArray meth := M
  have hl : lv_has ls 2 [(0, .ref (zA g 0)), (1, .int a1)] := hl
  generalize ([.ref (zA g 0), .int a1] : List Value).toArray = args at M ⊢
  have hx := M.1.1
  have hb := M.1.2.1
  unfold m_X10_numberOf at hr
  refine lv_iload_n hx hb dX10_numberOf_0 rfl (lv_at hl 1 rfl) ?_
  by_cases c1 : a1 = (0 : Int32)
  · replace hr := zif_t hr c1
    refine lv_tableIn (tgt := 76) hx hb dX10_numberOf_1 (by rw [c1]; decide) (by rw [c1]; decide) (by rw [c1]; try rfl) (by decide) ?_
    refine lv_aload_n hx hb dX10_numberOf_76 rfl (lv_at hl 0 rfl) ?_
    refine zgetR (j := 1) M I zc_0 zfl_X10_10 dX10_numberOf_77 rfl ?_
    refine zgetR (j := 2) M I zc_1 zfl_X10_283 dX10_numberOf_80 rfl ?_
    obtain ⟨x2, e_x2, hr⟩ := zb_some hr
    refine zcallI M I (zrunV (as := []) M I (c_X6_size l g fu zc_2 e_x2) zc_2 zK6.1 (by decide) zlv_X10_74 ⟨Nat.le_of_ble_eq_true rfl, Nat.le_of_ble_eq_true rfl⟩ ⟨Nat.zero_le _, Nat.zero_le _⟩ rfl rfl (Nat.le_of_ble_eq_true rfl) hl.1 dX10_numberOf_83) (fun H locs I => ?_)
    obtain rfl := Option.some.inj hr
    exact zretI M I dX10_numberOf_86
  · replace hr := zif_f hr c1
    by_cases c3 : a1 = (1 : Int32)
    · replace hr := zif_t hr c3
      refine lv_tableIn (tgt := 87) hx hb dX10_numberOf_1 (by rw [c3]; decide) (by rw [c3]; decide) (by rw [c3]; try rfl) (by decide) ?_
      refine lv_aload_n hx hb dX10_numberOf_87 rfl (lv_at hl 0 rfl) ?_
      refine zgetR (j := 1) M I zc_0 zfl_X10_10 dX10_numberOf_88 rfl ?_
      refine zgetR (j := 4) M I zc_1 zfl_X10_307 dX10_numberOf_91 rfl ?_
      obtain ⟨x4, e_x4, hr⟩ := zb_some hr
      refine zcallI M I (zrunV (as := []) M I (c_X6_size l g fu zc_4 e_x4) zc_4 zK6.1 (by decide) zlv_X10_74 ⟨Nat.le_of_ble_eq_true rfl, Nat.le_of_ble_eq_true rfl⟩ ⟨Nat.zero_le _, Nat.zero_le _⟩ rfl rfl (Nat.le_of_ble_eq_true rfl) hl.1 dX10_numberOf_94) (fun H locs I => ?_)
      obtain rfl := Option.some.inj hr
      exact zretI M I dX10_numberOf_97
    · replace hr := zif_f hr c3
      by_cases c5 : a1 = (2 : Int32)
      · replace hr := zif_t hr c5
        refine lv_tableIn (tgt := 98) hx hb dX10_numberOf_1 (by rw [c5]; decide) (by rw [c5]; decide) (by rw [c5]; try rfl) (by decide) ?_
        refine lv_aload_n hx hb dX10_numberOf_98 rfl (lv_at hl 0 rfl) ?_
        refine zgetR (j := 35) M I zc_0 zfl_X10_49 dX10_numberOf_99 rfl ?_
        refine zgetR (j := 36) M I zc_35 zfl_X10_141 dX10_numberOf_102 rfl ?_
        refine zgetI M I zc_36 zfl_X10_145 dX10_numberOf_105 ?_
        obtain rfl := Option.some.inj hr
        exact zretI M I dX10_numberOf_108
      · replace hr := zif_f hr c5
        by_cases c6 : a1 = (3 : Int32)
        · replace hr := zif_t hr c6
          refine lv_tableIn (tgt := 109) hx hb dX10_numberOf_1 (by rw [c6]; decide) (by rw [c6]; decide) (by rw [c6]; try rfl) (by decide) ?_
          refine lv_aload_n hx hb dX10_numberOf_109 rfl (lv_at hl 0 rfl) ?_
          refine zgetR (j := 91) M I zc_0 zfl_X10_59 dX10_numberOf_110 rfl ?_
          refine zgetR (j := 92) M I zc_91 zfl_X10_227 dX10_numberOf_113 rfl ?_
          refine zgetI M I zc_92 zfl_X10_145 dX10_numberOf_116 ?_
          obtain rfl := Option.some.inj hr
          exact zretI M I dX10_numberOf_119
        · replace hr := zif_f hr c6
          by_cases c7 : a1 = (4 : Int32)
          · replace hr := zif_t hr c7
            refine lv_tableIn (tgt := 120) hx hb dX10_numberOf_1 (by rw [c7]; decide) (by rw [c7]; decide) (by rw [c7]; try rfl) (by decide) ?_
            refine lv_aload_n hx hb dX10_numberOf_120 rfl (lv_at hl 0 rfl) ?_
            refine zgetR (j := 35) M I zc_0 zfl_X10_49 dX10_numberOf_121 rfl ?_
            refine zgetR (j := 45) M I zc_35 zfl_X10_310 dX10_numberOf_124 rfl ?_
            refine zgetI M I zc_45 zfl_X10_314 dX10_numberOf_127 ?_
            obtain rfl := Option.some.inj hr
            exact zretI M I dX10_numberOf_130
          · replace hr := zif_f hr c7
            by_cases c8 : a1 = (5 : Int32)
            · replace hr := zif_t hr c8
              refine lv_tableIn (tgt := 131) hx hb dX10_numberOf_1 (by rw [c8]; decide) (by rw [c8]; decide) (by rw [c8]; try rfl) (by decide) ?_
              refine lv_aload_n hx hb dX10_numberOf_131 rfl (lv_at hl 0 rfl) ?_
              refine zgetR (j := 35) M I zc_0 zfl_X10_49 dX10_numberOf_132 rfl ?_
              refine zgetI M I zc_35 zfl_X10_317 dX10_numberOf_135 ?_
              obtain rfl := Option.some.inj hr
              exact zretI M I dX10_numberOf_138
            · replace hr := zif_f hr c8
              by_cases c9 : a1 = (6 : Int32)
              · replace hr := zif_t hr c9
                refine lv_tableIn (tgt := 139) hx hb dX10_numberOf_1 (by rw [c9]; decide) (by rw [c9]; decide) (by rw [c9]; try rfl) (by decide) ?_
                refine lv_aload_n hx hb dX10_numberOf_139 rfl (lv_at hl 0 rfl) ?_
                refine zgetR (j := 35) M I zc_0 zfl_X10_49 dX10_numberOf_140 rfl ?_
                refine zgetI M I zc_35 zfl_X10_320 dX10_numberOf_143 ?_
                obtain rfl := Option.some.inj hr
                exact zretI M I dX10_numberOf_146
              · replace hr := zif_f hr c9
                by_cases c10 : a1 = (7 : Int32)
                · replace hr := zif_t hr c10
                  refine lv_tableIn (tgt := 147) hx hb dX10_numberOf_1 (by rw [c10]; decide) (by rw [c10]; decide) (by rw [c10]; try rfl) (by decide) ?_
                  refine lv_aload_n hx hb dX10_numberOf_147 rfl (lv_at hl 0 rfl) ?_
                  refine zgetR (j := 35) M I zc_0 zfl_X10_49 dX10_numberOf_148 rfl ?_
                  refine lv_aload_n hx hb dX10_numberOf_151 rfl (lv_at hl 0 rfl) ?_
                  refine zgetR (j := 1) M I zc_0 zfl_X10_10 dX10_numberOf_152 rfl ?_
                  obtain ⟨x11, e_x11, hr⟩ := zb_some hr
                  refine zcallI M I (zrunV (as := [.ref (zA g 1)]) M I (c_X5_freeCost l g fu zc_35 zc_1 e_x11) zc_35 zK5.1 (by decide) zlv_X10_323 ⟨Nat.le_of_ble_eq_true rfl, Nat.le_of_ble_eq_true rfl⟩ ⟨Nat.zero_le _, Nat.zero_le _⟩ rfl rfl (Nat.le_of_ble_eq_true rfl) hl.1 dX10_numberOf_155) (fun H locs I => ?_)
                  obtain rfl := Option.some.inj hr
                  exact zretI M I dX10_numberOf_158
                · replace hr := zif_f hr c10
                  by_cases c12 : a1 = (8 : Int32)
                  · replace hr := zif_t hr c12
                    refine lv_tableIn (tgt := 159) hx hb dX10_numberOf_1 (by rw [c12]; decide) (by rw [c12]; decide) (by rw [c12]; try rfl) (by decide) ?_
                    refine lv_aload_n hx hb dX10_numberOf_159 rfl (lv_at hl 0 rfl) ?_
                    refine zgetR (j := 91) M I zc_0 zfl_X10_59 dX10_numberOf_160 rfl ?_
                    refine zgetI M I zc_91 zfl_X10_326 dX10_numberOf_163 ?_
                    obtain rfl := Option.some.inj hr
                    exact zretI M I dX10_numberOf_166
                  · replace hr := zif_f hr c12
                    by_cases c13 : a1 = (9 : Int32)
                    · replace hr := zif_t hr c13
                      refine lv_tableIn (tgt := 167) hx hb dX10_numberOf_1 (by rw [c13]; decide) (by rw [c13]; decide) (by rw [c13]; try rfl) (by decide) ?_
                      refine lv_aload_n hx hb dX10_numberOf_167 rfl (lv_at hl 0 rfl) ?_
                      refine zgetR (j := 91) M I zc_0 zfl_X10_59 dX10_numberOf_168 rfl ?_
                      refine zgetI M I zc_91 zfl_X10_329 dX10_numberOf_171 ?_
                      obtain rfl := Option.some.inj hr
                      exact zretI M I dX10_numberOf_174
                    · replace hr := zif_f hr c13
                      by_cases c14 : a1 = (10 : Int32)
                      · replace hr := zif_t hr c14
                        refine lv_tableIn (tgt := 175) hx hb dX10_numberOf_1 (by rw [c14]; decide) (by rw [c14]; decide) (by rw [c14]; try rfl) (by decide) ?_
                        refine lv_aload_n hx hb dX10_numberOf_175 rfl (lv_at hl 0 rfl) ?_
                        refine zgetR (j := 35) M I zc_0 zfl_X10_49 dX10_numberOf_176 rfl ?_
                        refine lv_aload_n hx hb dX10_numberOf_179 rfl (lv_at hl 0 rfl) ?_
                        refine zgetR (j := 1) M I zc_0 zfl_X10_10 dX10_numberOf_180 rfl ?_
                        obtain ⟨x15, e_x15, hr⟩ := zb_some hr
                        refine zcallI M I (zrunV (as := [.ref (zA g 1)]) M I (c_X5_likePairs l g fu zc_35 zc_1 e_x15) zc_35 zK5.1 (by decide) zlv_X10_332 ⟨Nat.le_of_ble_eq_true rfl, Nat.le_of_ble_eq_true rfl⟩ ⟨Nat.zero_le _, Nat.zero_le _⟩ rfl rfl (Nat.le_of_ble_eq_true rfl) hl.1 dX10_numberOf_183) (fun H locs I => ?_)
                        obtain rfl := Option.some.inj hr
                        exact zretI M I dX10_numberOf_186
                      · replace hr := zif_f hr c14
                        by_cases c16 : a1 = (11 : Int32)
                        · replace hr := zif_t hr c16
                          refine lv_tableIn (tgt := 187) hx hb dX10_numberOf_1 (by rw [c16]; decide) (by rw [c16]; decide) (by rw [c16]; try rfl) (by decide) ?_
                          refine lv_aload_n hx hb dX10_numberOf_187 rfl (lv_at hl 0 rfl) ?_
                          refine zgetR (j := 35) M I zc_0 zfl_X10_49 dX10_numberOf_188 rfl ?_
                          refine lv_iconst (v := (0 : Int32)) hx hb dX10_numberOf_191 (by decide) ?_
                          refine lv_aload_n hx hb dX10_numberOf_192 rfl (lv_at hl 0 rfl) ?_
                          refine zgetR (j := 1) M I zc_0 zfl_X10_10 dX10_numberOf_193 rfl ?_
                          refine zgetR (j := 2) M I zc_1 zfl_X10_283 dX10_numberOf_196 rfl ?_
                          obtain ⟨x17, e_x17, hr⟩ := zb_some hr
                          refine zcallI M I (zrunV (as := []) M I (c_X6_size l g fu zc_2 e_x17) zc_2 zK6.1 (by decide) zlv_X10_74 ⟨Nat.le_of_ble_eq_true rfl, Nat.le_of_ble_eq_true rfl⟩ ⟨Nat.zero_le _, Nat.zero_le _⟩ rfl rfl (Nat.le_of_ble_eq_true rfl) hl.1 dX10_numberOf_199) (fun H locs I => ?_)
                          obtain ⟨x18, e_x18, hr⟩ := zb_some hr
                          refine zcallI M I (zrunV (as := [.int (0 : Int32), .int x17]) M I (c_X5_leftOut l g fu zc_35 e_x18) zc_35 zK5.1 (by decide) zlv_X10_335 ⟨Nat.le_of_ble_eq_true rfl, Nat.le_of_ble_eq_true rfl⟩ ⟨Nat.zero_le _, Nat.zero_le _⟩ rfl rfl (Nat.le_of_ble_eq_true rfl) hl.1 dX10_numberOf_202) (fun H locs I => ?_)
                          obtain rfl := Option.some.inj hr
                          exact zretI M I dX10_numberOf_205
                        · replace hr := zif_f hr c16
                          by_cases c19 : a1 = (12 : Int32)
                          · replace hr := zif_t hr c19
                            refine lv_tableIn (tgt := 206) hx hb dX10_numberOf_1 (by rw [c19]; decide) (by rw [c19]; decide) (by rw [c19]; try rfl) (by decide) ?_
                            refine lv_aload_n hx hb dX10_numberOf_206 rfl (lv_at hl 0 rfl) ?_
                            refine zgetR (j := 35) M I zc_0 zfl_X10_49 dX10_numberOf_207 rfl ?_
                            refine lv_iconst (v := (1 : Int32)) hx hb dX10_numberOf_210 (by decide) ?_
                            refine lv_aload_n hx hb dX10_numberOf_211 rfl (lv_at hl 0 rfl) ?_
                            refine zgetR (j := 1) M I zc_0 zfl_X10_10 dX10_numberOf_212 rfl ?_
                            refine zgetR (j := 4) M I zc_1 zfl_X10_307 dX10_numberOf_215 rfl ?_
                            obtain ⟨x20, e_x20, hr⟩ := zb_some hr
                            refine zcallI M I (zrunV (as := []) M I (c_X6_size l g fu zc_4 e_x20) zc_4 zK6.1 (by decide) zlv_X10_74 ⟨Nat.le_of_ble_eq_true rfl, Nat.le_of_ble_eq_true rfl⟩ ⟨Nat.zero_le _, Nat.zero_le _⟩ rfl rfl (Nat.le_of_ble_eq_true rfl) hl.1 dX10_numberOf_218) (fun H locs I => ?_)
                            obtain ⟨x21, e_x21, hr⟩ := zb_some hr
                            refine zcallI M I (zrunV (as := [.int (1 : Int32), .int x20]) M I (c_X5_leftOut l g fu zc_35 e_x21) zc_35 zK5.1 (by decide) zlv_X10_335 ⟨Nat.le_of_ble_eq_true rfl, Nat.le_of_ble_eq_true rfl⟩ ⟨Nat.zero_le _, Nat.zero_le _⟩ rfl rfl (Nat.le_of_ble_eq_true rfl) hl.1 dX10_numberOf_221) (fun H locs I => ?_)
                            obtain rfl := Option.some.inj hr
                            exact zretI M I dX10_numberOf_224
                          · replace hr := zif_f hr c19
                            by_cases c22 : a1 = (13 : Int32)
                            · replace hr := zif_t hr c22
                              refine lv_tableIn (tgt := 225) hx hb dX10_numberOf_1 (by rw [c22]; decide) (by rw [c22]; decide) (by rw [c22]; try rfl) (by decide) ?_
                              refine lv_aload_n hx hb dX10_numberOf_225 rfl (lv_at hl 0 rfl) ?_
                              refine zgetI M I zc_0 zfl_X10_25 dX10_numberOf_226 ?_
                              obtain ⟨x23, e_x23, hr⟩ := zb_some hr
                              have K_x23 : ∀ (ls : Array Slot) (H : Heap) (locs : List Loc), lv_has ls 2 [(0, .ref (zA g 0))] → zIV g σ (zAA g) s.heap H locs → W p l e (zrm 4 98) s m args below meth c H locs 0 0 (MQ below (zQI g r.1 r.2) args s 0 0 (zAA g)) (F0 m 237 ls [.int x23]) := by
                                intro ls H locs hl I
                                refine lv_aload_n hx hb dX10_numberOf_237 rfl (lv_at hl 0 rfl) ?_
                                refine zgetI M I zc_0 zfl_X10_29 dX10_numberOf_238 ?_
                                obtain ⟨x24, e_x24, hr⟩ := zb_some hr
                                have K_x24 : ∀ (ls : Array Slot) (H : Heap) (locs : List Loc), lv_has ls 2 [] → zIV g σ (zAA g) s.heap H locs → W p l e (zrm 4 98) s m args below meth c H locs 0 0 (MQ below (zQI g r.1 r.2) args s 0 0 (zAA g)) (F0 m 249 ls [.int x24, .int x23]) := by
                                  intro ls H locs hl I
                                  refine lv_iadd hx hb dX10_numberOf_249 ?_
                                  obtain rfl := Option.some.inj hr
                                  exact zretI M I dX10_numberOf_250
                                refine lv_if_eq (tgt := 248) hx hb dX10_numberOf_241 (by decide) (fun c25 => ?_) (fun c25 => ?_)
                                · replace e_x24 := zif_t e_x24 c25
                                  refine lv_iconst (v := (0 : Int32)) hx hb dX10_numberOf_248 (by decide) ?_
                                  obtain rfl := Option.some.inj e_x24
                                  exact K_x24 ls _ _ (lv_sub hl [] rfl) I
                                · replace e_x24 := zif_f e_x24 c25
                                  refine lv_iconst (v := (1 : Int32)) hx hb dX10_numberOf_244 (by decide) ?_
                                  refine lv_goto (tgt := 249) hx hb dX10_numberOf_245 (by decide) ?_
                                  obtain rfl := Option.some.inj e_x24
                                  exact K_x24 ls _ _ (lv_sub hl [] rfl) I
                              refine lv_if_eq (tgt := 236) hx hb dX10_numberOf_229 (by decide) (fun c26 => ?_) (fun c26 => ?_)
                              · replace e_x23 := zif_t e_x23 c26
                                refine lv_iconst (v := (0 : Int32)) hx hb dX10_numberOf_236 (by decide) ?_
                                obtain rfl := Option.some.inj e_x23
                                exact K_x23 ls _ _ (lv_sub hl [0] rfl) I
                              · replace e_x23 := zif_f e_x23 c26
                                refine lv_iconst (v := (1 : Int32)) hx hb dX10_numberOf_232 (by decide) ?_
                                refine lv_goto (tgt := 237) hx hb dX10_numberOf_233 (by decide) ?_
                                obtain rfl := Option.some.inj e_x23
                                exact K_x23 ls _ _ (lv_sub hl [0] rfl) I
                            · replace hr := zif_f hr c22
                              by_cases c27 : a1 = (14 : Int32)
                              · replace hr := zif_t hr c27
                                refine lv_tableIn (tgt := 251) hx hb dX10_numberOf_1 (by rw [c27]; decide) (by rw [c27]; decide) (by rw [c27]; try rfl) (by decide) ?_
                                refine lv_aload_n hx hb dX10_numberOf_251 rfl (lv_at hl 0 rfl) ?_
                                refine zgetR (j := 29) M I zc_0 zfl_X10_35 dX10_numberOf_252 rfl ?_
                                obtain ⟨x28, e_x28, hr⟩ := zb_some hr
                                refine zcallI M I (zrunV (as := []) M I (c_X4_size l g fu zc_29 e_x28) zc_29 zK4.1 (by decide) zlv_X10_214 ⟨Nat.le_of_ble_eq_true rfl, Nat.le_of_ble_eq_true rfl⟩ ⟨Nat.zero_le _, Nat.zero_le _⟩ rfl rfl (Nat.le_of_ble_eq_true rfl) hl.1 dX10_numberOf_255) (fun H locs I => ?_)
                                obtain rfl := Option.some.inj hr
                                exact zretI M I dX10_numberOf_258
                              · replace hr := zif_f hr c27
                                refine lv_tableOut (tgt := 259) hx hb dX10_numberOf_1 (ztab_15 c1 c3 c5 c6 c7 c8 c9 c10 c12 c13 c14 c16 c19 c22 c27) (by decide) ?_
                                refine lv_iconst (v := (-1 : Int32)) hx hb dX10_numberOf_259 (by decide) ?_
                                obtain rfl := Option.some.inj hr
                                exact zretI M I dX10_numberOf_260
def m_X10_costWithSetting (fu : Nat) (σ : zmem) (a1 : Int32) (a2 : Int32) : Option (Int32 × zmem) := (m_X7_takeAll fu σ 8 1).bind fun x1 => (m_X1_store fu x1 13 a1 a2).bind fun x2 => (m_X5_build fu x2 63 8).bind fun x3 => some (x3.1, x3.2)
set_option maxHeartbeats 4000000 in
set_option maxRecDepth 100000 in
theorem c_X10_costWithSetting (l : Launch) (g : zgeo) (fu : Nat) {σ : zmem} {a1 : Int32} {a2 : Int32} {r : Int32 × zmem} (hr : m_X10_costWithSetting fu σ a1 a2 = some r) : zCt (zQI g r.1 r.2) l g yX10_costWithSetting cX10_costWithSetting 3 (some .int) 5 133 [.ref (zA g 0), .int a1, .int a2] σ := by
  refine zopen (by decide) (Nat.le_of_ble_eq_true rfl) ?_
  intro p e s m below meth c M ls hl I
  have M : zMC RX10 cX10_costWithSetting 3 (some .int) g p m c s ([.ref (zA g 0), .int a1, .int a2] : List Value).toArray meth := M
  have hl : lv_has ls 3 [(0, .ref (zA g 0)), (1, .int a1), (2, .int a2)] := hl
  generalize ([.ref (zA g 0), .int a1, .int a2] : List Value).toArray = args at M ⊢
  have hx := M.1.1
  have hb := M.1.2.1
  unfold m_X10_costWithSetting at hr
  refine lv_aload_n hx hb dX10_costWithSetting_0 rfl (lv_at hl 0 rfl) ?_
  refine zgetR (j := 8) M I zc_0 zfl_X10_16 dX10_costWithSetting_1 rfl ?_
  refine lv_aload_n hx hb dX10_costWithSetting_4 rfl (lv_at hl 0 rfl) ?_
  refine zgetR (j := 1) M I zc_0 zfl_X10_10 dX10_costWithSetting_5 rfl ?_
  obtain ⟨x1, e_x1, hr⟩ := zb_some hr
  refine zcallU M I (zrunV (as := [.ref (zA g 1)]) M I (c_X7_takeAll l g fu zc_8 zc_1 e_x1) zc_8 zK7.1 (by decide) zlv_X10_340 ⟨Nat.le_of_ble_eq_true rfl, Nat.le_of_ble_eq_true rfl⟩ ⟨Nat.zero_le _, Nat.zero_le _⟩ rfl rfl (Nat.le_of_ble_eq_true rfl) hl.1 dX10_costWithSetting_8) (fun H locs I => ?_)
  refine lv_aload_n hx hb dX10_costWithSetting_11 rfl (lv_at hl 0 rfl) ?_
  refine zgetR (j := 8) M I zc_0 zfl_X10_16 dX10_costWithSetting_12 rfl ?_
  refine zgetR (j := 13) M I zc_8 zfl_X10_161 dX10_costWithSetting_15 rfl ?_
  refine lv_iload_n hx hb dX10_costWithSetting_18 rfl (lv_at hl 1 rfl) ?_
  refine lv_iload_n hx hb dX10_costWithSetting_19 rfl (lv_at hl 2 rfl) ?_
  obtain ⟨x2, e_x2, hr⟩ := zb_some hr
  refine zcallU M I (zrunV (as := [.int a1, .int a2]) M I (c_X1_store l g fu zc_13 e_x2) zc_13 zK1.1 (by decide) zlv_X10_170 ⟨Nat.le_of_ble_eq_true rfl, Nat.le_of_ble_eq_true rfl⟩ ⟨Nat.zero_le _, Nat.zero_le _⟩ rfl rfl (Nat.le_of_ble_eq_true rfl) hl.1 dX10_costWithSetting_20) (fun H locs I => ?_)
  refine lv_aload_n hx hb dX10_costWithSetting_23 rfl (lv_at hl 0 rfl) ?_
  refine zgetR (j := 63) M I zc_0 zfl_X10_53 dX10_costWithSetting_24 rfl ?_
  refine lv_aload_n hx hb dX10_costWithSetting_27 rfl (lv_at hl 0 rfl) ?_
  refine zgetR (j := 8) M I zc_0 zfl_X10_16 dX10_costWithSetting_28 rfl ?_
  obtain ⟨x3, e_x3, hr⟩ := zb_some hr
  refine zcallI M I (zrunV (as := [.ref (zA g 8)]) M I (c_X5_build l g fu zc_63 zc_8 e_x3) zc_63 zK5.1 (by decide) zlv_X10_300 ⟨Nat.le_of_ble_eq_true rfl, Nat.le_of_ble_eq_true rfl⟩ ⟨Nat.zero_le _, Nat.zero_le _⟩ rfl rfl (Nat.le_of_ble_eq_true rfl) hl.1 dX10_costWithSetting_31) (fun H locs I => ?_)
  obtain rfl := Option.some.inj hr
  exact zretI M I dX10_costWithSetting_34
def m_X10_costWithSign (fu : Nat) (σ : zmem) (a1 : Int32) (a2 : Int32) (a3 : Int32) : Option (Int32 × zmem) := (m_X7_takeAll fu σ 8 1).bind fun x1 => (m_X7_rowOf fu x1 8 a1).bind fun x2 => (m_X6_write fu x1 x2 a2 a3).bind fun x3 => (m_X5_build fu x3 63 8).bind fun x4 => some (x4.1, x4.2)
set_option maxHeartbeats 4000000 in
set_option maxRecDepth 100000 in
theorem c_X10_costWithSign (l : Launch) (g : zgeo) (fu : Nat) {σ : zmem} {a1 : Int32} {a2 : Int32} {a3 : Int32} {r : Int32 × zmem} (hr : m_X10_costWithSign fu σ a1 a2 a3 = some r) : zCt (zQI g r.1 r.2) l g yX10_costWithSign cX10_costWithSign 4 (some .int) 5 133 [.ref (zA g 0), .int a1, .int a2, .int a3] σ := by
  refine zopen (by decide) (Nat.le_of_ble_eq_true rfl) ?_
  intro p e s m below meth c M ls hl I
  have M : zMC RX10 cX10_costWithSign 4 (some .int) g p m c s ([.ref (zA g 0), .int a1, .int a2, .int a3] : List Value).toArray meth := M
  have hl : lv_has ls 4 [(0, .ref (zA g 0)), (1, .int a1), (2, .int a2), (3, .int a3)] := hl
  generalize ([.ref (zA g 0), .int a1, .int a2, .int a3] : List Value).toArray = args at M ⊢
  have hx := M.1.1
  have hb := M.1.2.1
  unfold m_X10_costWithSign at hr
  refine lv_aload_n hx hb dX10_costWithSign_0 rfl (lv_at hl 0 rfl) ?_
  refine zgetR (j := 8) M I zc_0 zfl_X10_16 dX10_costWithSign_1 rfl ?_
  refine lv_aload_n hx hb dX10_costWithSign_4 rfl (lv_at hl 0 rfl) ?_
  refine zgetR (j := 1) M I zc_0 zfl_X10_10 dX10_costWithSign_5 rfl ?_
  obtain ⟨x1, e_x1, hr⟩ := zb_some hr
  refine zcallU M I (zrunV (as := [.ref (zA g 1)]) M I (c_X7_takeAll l g fu zc_8 zc_1 e_x1) zc_8 zK7.1 (by decide) zlv_X10_340 ⟨Nat.le_of_ble_eq_true rfl, Nat.le_of_ble_eq_true rfl⟩ ⟨Nat.zero_le _, Nat.zero_le _⟩ rfl rfl (Nat.le_of_ble_eq_true rfl) hl.1 dX10_costWithSign_8) (fun H locs I => ?_)
  refine lv_aload_n hx hb dX10_costWithSign_11 rfl (lv_at hl 0 rfl) ?_
  refine zgetR (j := 8) M I zc_0 zfl_X10_16 dX10_costWithSign_12 rfl ?_
  refine lv_iload_n hx hb dX10_costWithSign_15 rfl (lv_at hl 1 rfl) ?_
  obtain ⟨x2, e_x2, hr⟩ := zb_some hr
  refine zcallR M I (zrunV (as := [.int a1]) M I (c_X7_rowOf l g fu zc_8 e_x2) zc_8 zK7.1 (by decide) zlv_X10_70 ⟨Nat.le_of_ble_eq_true rfl, Nat.le_of_ble_eq_true rfl⟩ ⟨Nat.zero_le _, Nat.zero_le _⟩ rfl rfl (Nat.le_of_ble_eq_true rfl) hl.1 dX10_costWithSign_16) (fun H locs I => ?_)
  refine lv_iload_n hx hb dX10_costWithSign_19 rfl (lv_at hl 2 rfl) ?_
  refine lv_iload_n hx hb dX10_costWithSign_20 rfl (lv_at hl 3 rfl) ?_
  obtain ⟨x3, e_x3, hr⟩ := zb_some hr
  refine zcallU M I (zrunV (as := [.int a2, .int a3]) M I (c_X6_write l g fu (zq_X7_rowOf zc_8 e_x2) e_x3) (zq_X7_rowOf zc_8 e_x2) zK6.1 (by decide) zlv_X10_120 ⟨Nat.le_of_ble_eq_true rfl, Nat.le_of_ble_eq_true rfl⟩ ⟨Nat.zero_le _, Nat.zero_le _⟩ rfl rfl (Nat.le_of_ble_eq_true rfl) hl.1 dX10_costWithSign_21) (fun H locs I => ?_)
  refine lv_aload_n hx hb dX10_costWithSign_24 rfl (lv_at hl 0 rfl) ?_
  refine zgetR (j := 63) M I zc_0 zfl_X10_53 dX10_costWithSign_25 rfl ?_
  refine lv_aload_n hx hb dX10_costWithSign_28 rfl (lv_at hl 0 rfl) ?_
  refine zgetR (j := 8) M I zc_0 zfl_X10_16 dX10_costWithSign_29 rfl ?_
  obtain ⟨x4, e_x4, hr⟩ := zb_some hr
  refine zcallI M I (zrunV (as := [.ref (zA g 8)]) M I (c_X5_build l g fu zc_63 zc_8 e_x4) zc_63 zK5.1 (by decide) zlv_X10_300 ⟨Nat.le_of_ble_eq_true rfl, Nat.le_of_ble_eq_true rfl⟩ ⟨Nat.zero_le _, Nat.zero_le _⟩ rfl rfl (Nat.le_of_ble_eq_true rfl) hl.1 dX10_costWithSign_32) (fun H locs I => ?_)
  obtain rfl := Option.some.inj hr
  exact zretI M I dX10_costWithSign_35
def l_X10_bestWordLength_17 (fu : Nat) : Nat → Int32 → Int32 → Int32 → zmem → Option (Int32 × zmem)
  | 0, _, _, _, _ => none
  | n + 1, v1, v2, v3, σ => (if v3 < (2 : Int32) then some (v1, σ) else (m_X1_store fu σ 13 (0 : Int32) v3).bind fun x2 => (m_X5_build fu x2 63 8).bind fun x3 => ((if v1 = (-1 : Int32) then some (v3, x3.1) else (if v2 ≤ x3.1 then some (v1, v2) else some (v3, x3.1))) : Option (Int32 × Int32)).bind fun x4 => l_X10_bestWordLength_17 fu n x4.1 x4.2 (v3 - 1) x3.2)
set_option maxHeartbeats 4000000 in
set_option maxRecDepth 100000 in
theorem k_X10_bestWordLength_17 {l : Launch} {g : zgeo} {fu : Nat} {p : Program} {e : Env} {s : State} {m : MethodId} {args : Array Value} {below : List Frame} {meth : Method} {c : Code} (M : zMC RX10 cX10_bestWordLength 5 (some .int) g p m c s args meth) {Q : State → Prop} : ∀ (n : Nat) (v1 : Int32) (v2 : Int32) (v3 : Int32) (σ : zmem) (o : Int32 × zmem), l_X10_bestWordLength_17 fu n v1 v2 v3 σ = some o → ∀ (ls : Array Slot) (H : Heap) (locs : List Loc), lv_has ls 5 [(0, .ref (zA g 0)), (1, .int v1), (2, .int v2), (3, .int v3)] → zIV g σ (zAA g) s.heap H locs → (∀ (ls : Array Slot) (H : Heap) (locs : List Loc), lv_has ls 5 [(1, .int o.1)] → zIV g o.2 (zAA g) s.heap H locs → W p l e (zrm 5 133) s m args below meth c H locs 0 0 Q (F0 m 69 ls [])) → W p l e (zrm 5 133) s m args below meth c H locs 0 0 Q (F0 m 17 ls []) := by
  have hx := M.1.1
  have hb := M.1.2.1
  intro n
  induction n with
  | zero =>
    intro v1 v2 v3 σ o hr ls H locs hl I KF
    have hr : (none : Option (Int32 × zmem)) = some o := hr
    cases hr
  | succ n ih =>
    intro v1 v2 v3 σ o hr ls H locs hl I KF
    rw [l_X10_bestWordLength_17] at hr
    refine lv_iload_n hx hb dX10_bestWordLength_17 rfl (lv_at hl 3 rfl) ?_
    refine lv_iconst (v := (2 : Int32)) hx hb dX10_bestWordLength_18 (by decide) ?_
    refine lv_icmp_lt (tgt := 69) hx hb dX10_bestWordLength_19 (by decide) (fun c7 => ?_) (fun c7 => ?_)
    · replace hr := zif_t hr c7
      obtain rfl := Option.some.inj hr
      exact KF ls _ _ (lv_sub hl [1] rfl) I
    · replace hr := zif_f hr c7
      refine lv_aload_n hx hb dX10_bestWordLength_22 rfl (lv_at hl 0 rfl) ?_
      refine zgetR (j := 8) M I zc_0 zfl_X10_16 dX10_bestWordLength_23 rfl ?_
      refine zgetR (j := 13) M I zc_8 zfl_X10_161 dX10_bestWordLength_26 rfl ?_
      refine lv_iconst (v := (0 : Int32)) hx hb dX10_bestWordLength_29 (by decide) ?_
      refine lv_iload_n hx hb dX10_bestWordLength_30 rfl (lv_at hl 3 rfl) ?_
      obtain ⟨x2, e_x2, hr⟩ := zb_some hr
      refine zcallU M I (zrunV (as := [.int (0 : Int32), .int v3]) M I (c_X1_store l g fu zc_13 e_x2) zc_13 zK1.1 (by decide) zlv_X10_170 ⟨Nat.le_of_ble_eq_true rfl, Nat.le_of_ble_eq_true rfl⟩ ⟨Nat.zero_le _, Nat.zero_le _⟩ rfl rfl (Nat.le_of_ble_eq_true rfl) hl.1 dX10_bestWordLength_31) (fun H locs I => ?_)
      refine lv_aload_n hx hb dX10_bestWordLength_34 rfl (lv_at hl 0 rfl) ?_
      refine zgetR (j := 63) M I zc_0 zfl_X10_53 dX10_bestWordLength_35 rfl ?_
      refine lv_aload_n hx hb dX10_bestWordLength_38 rfl (lv_at hl 0 rfl) ?_
      refine zgetR (j := 8) M I zc_0 zfl_X10_16 dX10_bestWordLength_39 rfl ?_
      obtain ⟨x3, e_x3, hr⟩ := zb_some hr
      refine zcallI M I (zrunV (as := [.ref (zA g 8)]) M I (c_X5_build l g fu zc_63 zc_8 e_x3) zc_63 zK5.1 (by decide) zlv_X10_300 ⟨Nat.le_of_ble_eq_true rfl, Nat.le_of_ble_eq_true rfl⟩ ⟨Nat.zero_le _, Nat.zero_le _⟩ rfl rfl (Nat.le_of_ble_eq_true rfl) hl.1 dX10_bestWordLength_42) (fun H locs I => ?_)
      refine lv_istore (lv' := [(4, .int x3.1), (0, .ref (zA g 0)), (1, .int v1), (2, .int v2), (3, .int v3)]) hx hb dX10_bestWordLength_45 hl (by decide) rfl (fun ls hl => ?_)
      refine lv_iload_n hx hb dX10_bestWordLength_47 rfl (lv_at hl 2 rfl) ?_
      refine lv_iconst (v := (-1 : Int32)) hx hb dX10_bestWordLength_48 (by decide) ?_
      obtain ⟨x4, e_x4, hr⟩ := zb_some hr
      have K_x4 : ∀ (ls : Array Slot) (H : Heap) (locs : List Loc), lv_has ls 5 [(0, .ref (zA g 0)), (1, .int x4.1), (2, .int x4.2), (3, .int v3)] → zIV g x3.2 (zAA g) s.heap H locs → W p l e (zrm 5 133) s m args below meth c H locs 0 0 Q (F0 m 63 ls []) := by
        intro ls H locs hl I
        refine lv_iinc (lv' := [(3, .int (v3 - 1)), (0, .ref (zA g 0)), (1, .int x4.1), (2, .int x4.2)]) (k := 3) (v := (v3 - 1)) hx hb dX10_bestWordLength_63 hl rfl (zi_m1 _) (by decide) rfl (fun ls hl => ?_)
        refine lv_goto (tgt := 17) hx hb dX10_bestWordLength_66 (by decide) ?_
        exact ih _ _ _ _  _ hr ls _ _ (lv_sub hl [1, 2, 3, 0] rfl) I KF
      refine lv_icmp_eq (tgt := 58) hx hb dX10_bestWordLength_49 (by decide) (fun c6 => ?_) (fun c6 => ?_)
      · replace e_x4 := zif_t e_x4 c6
        refine lv_iload_n hx hb dX10_bestWordLength_58 rfl (lv_at hl 4 rfl) ?_
        refine lv_istore_n (lv' := [(1, .int v3), (4, .int x3.1), (0, .ref (zA g 0)), (2, .int v2), (3, .int v3)]) hx hb dX10_bestWordLength_59 rfl hl (by decide) rfl (fun ls hl => ?_)
        refine lv_iload hx hb dX10_bestWordLength_60 (lv_at hl 1 rfl) ?_
        refine lv_istore_n (lv' := [(2, .int x3.1), (1, .int v3), (4, .int x3.1), (0, .ref (zA g 0)), (3, .int v3)]) hx hb dX10_bestWordLength_62 rfl hl (by decide) rfl (fun ls hl => ?_)
        obtain rfl := Option.some.inj e_x4
        exact K_x4 ls _ _ (lv_sub hl [3, 1, 0, 4] rfl) I
      · replace e_x4 := zif_f e_x4 c6
        refine lv_iload hx hb dX10_bestWordLength_52 (lv_at hl 0 rfl) ?_
        refine lv_iload_n hx hb dX10_bestWordLength_54 rfl (lv_at hl 3 rfl) ?_
        refine lv_icmp_ge (tgt := 63) hx hb dX10_bestWordLength_55 (by decide) (fun c5 => ?_) (fun c5 => ?_)
        · replace e_x4 := zif_t e_x4 c5
          obtain rfl := Option.some.inj e_x4
          exact K_x4 ls _ _ (lv_sub hl [1, 2, 3, 4] rfl) I
        · replace e_x4 := zif_f e_x4 c5
          refine lv_iload_n hx hb dX10_bestWordLength_58 rfl (lv_at hl 4 rfl) ?_
          refine lv_istore_n (lv' := [(1, .int v3), (4, .int x3.1), (0, .ref (zA g 0)), (2, .int v2), (3, .int v3)]) hx hb dX10_bestWordLength_59 rfl hl (by decide) rfl (fun ls hl => ?_)
          refine lv_iload hx hb dX10_bestWordLength_60 (lv_at hl 1 rfl) ?_
          refine lv_istore_n (lv' := [(2, .int x3.1), (1, .int v3), (4, .int x3.1), (0, .ref (zA g 0)), (3, .int v3)]) hx hb dX10_bestWordLength_62 rfl hl (by decide) rfl (fun ls hl => ?_)
          obtain rfl := Option.some.inj e_x4
          exact K_x4 ls _ _ (lv_sub hl [3, 1, 0, 4] rfl) I
def m_X10_bestWordLength (fu : Nat) (σ : zmem) : Option (Int32 × zmem) := (m_X7_takeAll fu σ 8 1).bind fun x1 => (l_X10_bestWordLength_17 fu fu (-1 : Int32) (0 : Int32) (5 : Int32) x1).bind fun x8 => some (x8.1, x8.2)
set_option maxHeartbeats 4000000 in
set_option maxRecDepth 100000 in
theorem c_X10_bestWordLength (l : Launch) (g : zgeo) (fu : Nat) {σ : zmem} {r : Int32 × zmem} (hr : m_X10_bestWordLength fu σ = some r) : zCt (zQI g r.1 r.2) l g yX10_bestWordLength cX10_bestWordLength 5 (some .int) 5 133 [.ref (zA g 0)] σ := by
  refine zopen (by decide) (Nat.le_of_ble_eq_true rfl) ?_
  intro p e s m below meth c M ls hl I
  have M : zMC RX10 cX10_bestWordLength 5 (some .int) g p m c s ([.ref (zA g 0)] : List Value).toArray meth := M
  have hl : lv_has ls 5 [(0, .ref (zA g 0))] := hl
  generalize ([.ref (zA g 0)] : List Value).toArray = args at M ⊢
  have hx := M.1.1
  have hb := M.1.2.1
  unfold m_X10_bestWordLength at hr
  refine lv_aload_n hx hb dX10_bestWordLength_0 rfl (lv_at hl 0 rfl) ?_
  refine zgetR (j := 8) M I zc_0 zfl_X10_16 dX10_bestWordLength_1 rfl ?_
  refine lv_aload_n hx hb dX10_bestWordLength_4 rfl (lv_at hl 0 rfl) ?_
  refine zgetR (j := 1) M I zc_0 zfl_X10_10 dX10_bestWordLength_5 rfl ?_
  obtain ⟨x1, e_x1, hr⟩ := zb_some hr
  refine zcallU M I (zrunV (as := [.ref (zA g 1)]) M I (c_X7_takeAll l g fu zc_8 zc_1 e_x1) zc_8 zK7.1 (by decide) zlv_X10_340 ⟨Nat.le_of_ble_eq_true rfl, Nat.le_of_ble_eq_true rfl⟩ ⟨Nat.zero_le _, Nat.zero_le _⟩ rfl rfl (Nat.le_of_ble_eq_true rfl) hl.1 dX10_bestWordLength_8) (fun H locs I => ?_)
  refine lv_iconst (v := (-1 : Int32)) hx hb dX10_bestWordLength_11 (by decide) ?_
  refine lv_istore_n (lv' := [(1, .int (-1 : Int32)), (0, .ref (zA g 0))]) hx hb dX10_bestWordLength_12 rfl hl (by decide) rfl (fun ls hl => ?_)
  refine lv_iconst (v := (0 : Int32)) hx hb dX10_bestWordLength_13 (by decide) ?_
  refine lv_istore_n (lv' := [(2, .int (0 : Int32)), (1, .int (-1 : Int32)), (0, .ref (zA g 0))]) hx hb dX10_bestWordLength_14 rfl hl (by decide) rfl (fun ls hl => ?_)
  refine lv_iconst (v := (5 : Int32)) hx hb dX10_bestWordLength_15 (by decide) ?_
  refine lv_istore_n (lv' := [(3, .int (5 : Int32)), (2, .int (0 : Int32)), (1, .int (-1 : Int32)), (0, .ref (zA g 0))]) hx hb dX10_bestWordLength_16 rfl hl (by decide) rfl (fun ls hl => ?_)
  obtain ⟨x8, e_x8, hr⟩ := zb_some hr
  refine k_X10_bestWordLength_17 M  fu _ _ _ _  _ e_x8 ls _ _ (lv_sub hl [3, 2, 1, 0] rfl) I (fun ls H locs hl I => ?_)
  refine lv_iload_n hx hb dX10_bestWordLength_69 rfl (lv_at hl 0 rfl) ?_
  obtain rfl := Option.some.inj hr
  exact zretI M I dX10_bestWordLength_70
def m_X10_bestLength (fu : Nat) (σ : zmem) : Option (Int32 × zmem) := (m_X10_bestWordLength fu σ).bind fun x1 => some (x1.1, x1.2)
set_option maxHeartbeats 4000000 in
set_option maxRecDepth 100000 in
theorem c_X10_bestLength (l : Launch) (g : zgeo) (fu : Nat) {σ : zmem} {r : Int32 × zmem} (hr : m_X10_bestLength fu σ = some r) : zCt (zQI g r.1 r.2) l g yX10_bestLength cX10_bestLength 1 (some .int) 6 157 [.ref (zA g 0)] σ := by
  refine zopen (by decide) (Nat.le_of_ble_eq_true rfl) ?_
  intro p e s m below meth c M ls hl I
  have M : zMC RX10 cX10_bestLength 1 (some .int) g p m c s ([.ref (zA g 0)] : List Value).toArray meth := M
  have hl : lv_has ls 1 [(0, .ref (zA g 0))] := hl
  generalize ([.ref (zA g 0)] : List Value).toArray = args at M ⊢
  have hx := M.1.1
  have hb := M.1.2.1
  unfold m_X10_bestLength at hr
  refine lv_aload_n hx hb dX10_bestLength_0 rfl (lv_at hl 0 rfl) ?_
  obtain ⟨x1, e_x1, hr⟩ := zb_some hr
  refine zcallI M I (zrunV (as := []) M I (c_X10_bestWordLength l g fu e_x1) zc_0 zK10.1 (by decide) zlv_X10_259 ⟨Nat.le_of_ble_eq_true rfl, Nat.le_of_ble_eq_true rfl⟩ ⟨Nat.zero_le _, Nat.zero_le _⟩ rfl rfl (Nat.le_of_ble_eq_true rfl) hl.1 dX10_bestLength_1) (fun H locs I => ?_)
  obtain rfl := Option.some.inj hr
  exact zretI M I dX10_bestLength_4
def m_X10_shareOfLikeSigns (fu : Nat) (σ : zmem) : Option (UInt64) := (m_X7_signs fu σ 1).bind fun x1 => (if ¬ x1 = 0 then (m_X5_likePairs fu σ 35 1).bind fun x2 => (zdn (FP.dmul (FP.i2d x2) (4611686018427387904 : UInt64))).bind fun q3 => (zdn (FP.ddiv (FP.dmul (FP.i2d x2) (4611686018427387904 : UInt64)) (FP.i2d x1))).bind fun q4 => some (FP.ddiv (FP.dmul (FP.i2d x2) (4611686018427387904 : UInt64)) (FP.i2d x1)) else some FP.dconst1)
set_option maxHeartbeats 4000000 in
set_option maxRecDepth 100000 in
theorem c_X10_shareOfLikeSigns (l : Launch) (g : zgeo) (fu : Nat) {σ : zmem} {r : UInt64} (hr : m_X10_shareOfLikeSigns fu σ = some r) : zCt (zQD g r σ) l g yX10_shareOfLikeSigns cX10_shareOfLikeSigns 2 (some .double) 2 45 [.ref (zA g 0)] σ := by
  refine zopen (by decide) (Nat.le_of_ble_eq_true rfl) ?_
  intro p e s m below meth c M ls hl I
  have M : zMC RX10 cX10_shareOfLikeSigns 2 (some .double) g p m c s ([.ref (zA g 0)] : List Value).toArray meth := M
  have hl : lv_has ls 2 [(0, .ref (zA g 0))] := hl
  generalize ([.ref (zA g 0)] : List Value).toArray = args at M ⊢
  have hx := M.1.1
  have hb := M.1.2.1
  unfold m_X10_shareOfLikeSigns at hr
  refine lv_aload_n hx hb dX10_shareOfLikeSigns_0 rfl (lv_at hl 0 rfl) ?_
  refine zgetR (j := 1) M I zc_0 zfl_X10_10 dX10_shareOfLikeSigns_1 rfl ?_
  obtain ⟨x1, e_x1, hr⟩ := zb_some hr
  refine zcallI M I (zrunV (as := []) M I (c_X7_signs l g fu zc_1 e_x1) zc_1 zK7.1 (by decide) zlv_X10_209 ⟨Nat.le_of_ble_eq_true rfl, Nat.le_of_ble_eq_true rfl⟩ ⟨Nat.zero_le _, Nat.zero_le _⟩ rfl rfl (Nat.le_of_ble_eq_true rfl) hl.1 dX10_shareOfLikeSigns_4) (fun H locs I => ?_)
  refine lv_istore_n (lv' := [(1, .int x1), (0, .ref (zA g 0))]) hx hb dX10_shareOfLikeSigns_7 rfl hl (by decide) rfl (fun ls hl => ?_)
  refine lv_iload_n hx hb dX10_shareOfLikeSigns_8 rfl (lv_at hl 0 rfl) ?_
  refine lv_if_ne (tgt := 14) hx hb dX10_shareOfLikeSigns_9 (by decide) (fun c5 => ?_) (fun c5 => ?_)
  · replace hr := zif_t hr c5
    refine lv_aload_n hx hb dX10_shareOfLikeSigns_14 rfl (lv_at hl 1 rfl) ?_
    refine zgetR (j := 35) M I zc_0 zfl_X10_49 dX10_shareOfLikeSigns_15 rfl ?_
    refine lv_aload_n hx hb dX10_shareOfLikeSigns_18 rfl (lv_at hl 1 rfl) ?_
    refine zgetR (j := 1) M I zc_0 zfl_X10_10 dX10_shareOfLikeSigns_19 rfl ?_
    obtain ⟨x2, e_x2, hr⟩ := zb_some hr
    refine zcallI M I (zrunV (as := [.ref (zA g 1)]) M I (c_X5_likePairs l g fu zc_35 zc_1 e_x2) zc_35 zK5.1 (by decide) zlv_X10_332 ⟨Nat.le_of_ble_eq_true rfl, Nat.le_of_ble_eq_true rfl⟩ ⟨Nat.zero_le _, Nat.zero_le _⟩ rfl rfl (Nat.le_of_ble_eq_true rfl) hl.1 dX10_shareOfLikeSigns_22) (fun H locs I => ?_)
    refine lv_i2d hx hb dX10_shareOfLikeSigns_25 ?_
    refine lv_ldc2d (own := RX10) (v := 4611686018427387904) hx hb M.1.2.2.2.1 (M.1.2.2.2.2 _ (zin (i := 613) (by decide +kernel) rfl)) dX10_shareOfLikeSigns_26 ?_
    obtain ⟨q3, e_q3, hr⟩ := zb_some hr
    refine lv_dmul hx hb dX10_shareOfLikeSigns_29 (zdn_some e_q3).1 ?_
    refine lv_iload_n hx hb dX10_shareOfLikeSigns_30 rfl (lv_at hl 0 rfl) ?_
    refine lv_i2d hx hb dX10_shareOfLikeSigns_31 ?_
    obtain ⟨q4, e_q4, hr⟩ := zb_some hr
    refine lv_ddiv hx hb dX10_shareOfLikeSigns_32 (zdn_some e_q4).1 ?_
    obtain rfl := Option.some.inj hr
    exact zretD M I dX10_shareOfLikeSigns_33
  · replace hr := zif_f hr (fun hq => hq c5)
    refine lv_dconst1 hx hb dX10_shareOfLikeSigns_12 ?_
    obtain rfl := Option.some.inj hr
    exact zretD M I dX10_shareOfLikeSigns_13
def m_X10_likeShare (fu : Nat) (σ : zmem) : Option (UInt64 × zmem) := (m_X10_refresh fu σ).bind fun x1 => (m_X10_shareOfLikeSigns fu x1).bind fun x2 => some (x2, x1)
set_option maxHeartbeats 4000000 in
set_option maxRecDepth 100000 in
theorem c_X10_likeShare (l : Launch) (g : zgeo) (fu : Nat) {σ : zmem} {r : UInt64 × zmem} (hr : m_X10_likeShare fu σ = some r) : zCt (zQD g r.1 r.2) l g yX10_likeShare cX10_likeShare 1 (some .double) 6 153 [.ref (zA g 0)] σ := by
  refine zopen (by decide) (Nat.le_of_ble_eq_true rfl) ?_
  intro p e s m below meth c M ls hl I
  have M : zMC RX10 cX10_likeShare 1 (some .double) g p m c s ([.ref (zA g 0)] : List Value).toArray meth := M
  have hl : lv_has ls 1 [(0, .ref (zA g 0))] := hl
  generalize ([.ref (zA g 0)] : List Value).toArray = args at M ⊢
  have hx := M.1.1
  have hb := M.1.2.1
  unfold m_X10_likeShare at hr
  refine lv_aload_n hx hb dX10_likeShare_0 rfl (lv_at hl 0 rfl) ?_
  obtain ⟨x1, e_x1, hr⟩ := zb_some hr
  refine zcallU M I (zrunV (as := []) M I (c_X10_refresh l g fu e_x1) zc_0 zK10.1 (by decide) zlv_X10_138 ⟨Nat.le_of_ble_eq_true rfl, Nat.le_of_ble_eq_true rfl⟩ ⟨Nat.zero_le _, Nat.zero_le _⟩ rfl rfl (Nat.le_of_ble_eq_true rfl) hl.1 dX10_likeShare_1) (fun H locs I => ?_)
  refine lv_aload_n hx hb dX10_likeShare_4 rfl (lv_at hl 0 rfl) ?_
  obtain ⟨x2, e_x2, hr⟩ := zb_some hr
  refine zcallD M I (zrunV (as := []) M I (c_X10_shareOfLikeSigns l g fu e_x2) zc_0 zK10.1 (by decide) zlv_X10_262 ⟨Nat.le_of_ble_eq_true rfl, Nat.le_of_ble_eq_true rfl⟩ ⟨Nat.zero_le _, Nat.zero_le _⟩ rfl rfl (Nat.le_of_ble_eq_true rfl) hl.1 dX10_likeShare_5) (fun H locs I => ?_)
  obtain rfl := Option.some.inj hr
  exact zretD M I dX10_likeShare_8
def m_X10_fold (fu : Nat) (σ : zmem) (a0 : Int64) (a2 : Int64) : Option (Int64) := some (((31 : Int64) * a0) + a2)
set_option maxHeartbeats 4000000 in
set_option maxRecDepth 100000 in
theorem c_X10_fold (l : Launch) (g : zgeo) (fu : Nat) {σ : zmem} {a0 : Int64} {a2 : Int64} {r : Int64} (hr : m_X10_fold fu σ a0 a2 = some r) : zCt (zQL g r σ) l g yX10_fold cX10_fold 4 (some .long) 0 0 [.long a0, .long a2] σ := by
  refine zopen (by decide) (Nat.le_of_ble_eq_true rfl) ?_
  intro p e s m below meth c M ls hl I
  have M : zMC RX10 cX10_fold 4 (some .long) g p m c s ([.long a0, .long a2] : List Value).toArray meth := M
  have hl : lv_has ls 4 [(0, .long a0), (2, .long a2)] := hl
  generalize ([.long a0, .long a2] : List Value).toArray = args at M ⊢
  have hx := M.1.1
  have hb := M.1.2.1
  unfold m_X10_fold at hr
  refine lv_ldc2 (own := RX10) (v := 31) hx hb M.1.2.2.2.1 (M.1.2.2.2.2 _ (zin (i := 643) (by decide +kernel) rfl)) dX10_fold_0 ?_
  refine lv_lload_n hx hb dX10_fold_3 rfl (lv_at hl 0 rfl) ?_
  refine lv_lmul hx hb dX10_fold_4 ?_
  refine lv_lload_n hx hb dX10_fold_5 rfl (lv_at hl 1 rfl) ?_
  refine lv_ladd hx hb dX10_fold_6 ?_
  obtain rfl := Option.some.inj hr
  exact zretL M I dX10_fold_7
def l_X10_foldRow_19 (fu : Nat) (σ : zmem) (a3 : Int32) (a6 : Int32) : Nat → Int64 → Int32 → Option (Int64)
  | 0, _, _ => none
  | n + 1, v4, v7 => (if a6 ≤ v7 then some v4 else (m_X7_rowOf fu σ 1 a3).bind fun x3 => (m_X6_signAt fu σ x3 v7).bind fun x4 => (m_X10_fold fu σ v4 (x4.toInt64)).bind fun x5 => l_X10_foldRow_19 fu σ a3 a6 n x5 (v7 + 1))
set_option maxHeartbeats 4000000 in
set_option maxRecDepth 100000 in
theorem k_X10_foldRow_19 {l : Launch} {g : zgeo} {fu : Nat} {p : Program} {e : Env} {s : State} {m : MethodId} {args : Array Value} {below : List Frame} {meth : Method} {c : Code} (M : zMC RX10 cX10_foldRow 8 (some .long) g p m c s args meth) {σ : zmem} {a3 : Int32} {a6 : Int32} {Q : State → Prop} : ∀ (n : Nat) (v4 : Int64) (v7 : Int32) (o : Int64), l_X10_foldRow_19 fu σ a3 a6 n v4 v7 = some o → ∀ (ls : Array Slot) (H : Heap) (locs : List Loc), lv_has ls 8 [(0, .ref (zA g 0)), (3, .int a3), (4, .long v4), (6, .int a6), (7, .int v7)] → zIV g σ (zAA g) s.heap H locs → (∀ (ls : Array Slot) (H : Heap) (locs : List Loc), lv_has ls 8 [(0, .ref (zA g 0)), (3, .int a3), (4, .long o), (6, .int a6)] → zIV g σ (zAA g) s.heap H locs → W p l e (zrm 4 94) s m args below meth c H locs 0 0 Q (F0 m 53 ls [])) → W p l e (zrm 4 94) s m args below meth c H locs 0 0 Q (F0 m 19 ls []) := by
  have hx := M.1.1
  have hb := M.1.2.1
  intro n
  induction n with
  | zero =>
    intro v4 v7 o hr ls H locs hl I KF
    have hr : (none : Option (Int64)) = some o := hr
    cases hr
  | succ n ih =>
    intro v4 v7 o hr ls H locs hl I KF
    rw [l_X10_foldRow_19] at hr
    refine lv_iload hx hb dX10_foldRow_19 (lv_at hl 4 rfl) ?_
    refine lv_iload hx hb dX10_foldRow_21 (lv_at hl 3 rfl) ?_
    refine lv_icmp_ge (tgt := 53) hx hb dX10_foldRow_23 (by decide) (fun c6 => ?_) (fun c6 => ?_)
    · replace hr := zif_t hr c6
      obtain rfl := Option.some.inj hr
      exact KF ls _ _ (lv_sub hl [0, 1, 2, 3] rfl) I
    · replace hr := zif_f hr c6
      refine lv_lload hx hb dX10_foldRow_26 (lv_at hl 2 rfl) ?_
      refine lv_aload_n hx hb dX10_foldRow_28 rfl (lv_at hl 0 rfl) ?_
      refine zgetR (j := 1) M I zc_0 zfl_X10_10 dX10_foldRow_29 rfl ?_
      refine lv_iload_n hx hb dX10_foldRow_32 rfl (lv_at hl 1 rfl) ?_
      obtain ⟨x3, e_x3, hr⟩ := zb_some hr
      refine zcallR M I (zrunV (as := [.int a3]) M I (c_X7_rowOf l g fu zc_1 e_x3) zc_1 zK7.1 (by decide) zlv_X10_70 ⟨Nat.le_of_ble_eq_true rfl, Nat.le_of_ble_eq_true rfl⟩ ⟨Nat.zero_le _, Nat.zero_le _⟩ rfl rfl (Nat.le_of_ble_eq_true rfl) hl.1 dX10_foldRow_33) (fun H locs I => ?_)
      refine lv_iload hx hb dX10_foldRow_36 (lv_at hl 4 rfl) ?_
      obtain ⟨x4, e_x4, hr⟩ := zb_some hr
      refine zcallI M I (zrunV (as := [.int v7]) M I (c_X6_signAt l g fu (zq_X7_rowOf zc_1 e_x3) e_x4) (zq_X7_rowOf zc_1 e_x3) zK6.1 (by decide) zlv_X10_116 ⟨Nat.le_of_ble_eq_true rfl, Nat.le_of_ble_eq_true rfl⟩ ⟨Nat.zero_le _, Nat.zero_le _⟩ rfl rfl (Nat.le_of_ble_eq_true rfl) hl.1 dX10_foldRow_38) (fun H locs I => ?_)
      refine lv_i2l (v := (x4.toInt64)) hx hb dX10_foldRow_41 rfl ?_
      obtain ⟨x5, e_x5, hr⟩ := zb_some hr
      refine zcallL M I (zrunS (as := [.long v4, .long (x4.toInt64)]) M I (c_X10_fold l g fu e_x5) zls_X10_268 ⟨Nat.le_of_ble_eq_true rfl, Nat.le_of_ble_eq_true rfl⟩ ⟨Nat.zero_le _, Nat.zero_le _⟩ rfl rfl (Nat.le_of_ble_eq_true rfl) hl.1 dX10_foldRow_42) (fun H locs I => ?_)
      refine lv_lstore (lv' := [(4, .long x5), (0, .ref (zA g 0)), (3, .int a3), (6, .int a6), (7, .int v7)]) hx hb dX10_foldRow_45 hl (by decide) rfl (fun ls hl => ?_)
      refine lv_iinc (lv' := [(7, .int (v7 + 1)), (4, .long x5), (0, .ref (zA g 0)), (3, .int a3), (6, .int a6)]) (k := 4) (v := (v7 + 1)) hx hb dX10_foldRow_47 hl rfl (zi_1 _) (by decide) rfl (fun ls hl => ?_)
      refine lv_goto (tgt := 19) hx hb dX10_foldRow_50 (by decide) ?_
      exact ih _ _  _ hr ls _ _ (lv_sub hl [2, 3, 1, 4, 0] rfl) I KF
def l_X10_foldRow_56 (fu : Nat) (σ : zmem) (a3 : Int32) (a6 : Int32) : Nat → Int64 → Int32 → Option (Int64)
  | 0, _, _ => none
  | n + 1, v4, v7 => (if a6 ≤ v7 then some v4 else (m_X5_partnersOf fu σ 35 a3).bind fun x8 => (m_X1_at fu σ x8 v7).bind fun x9 => (m_X10_fold fu σ v4 (x9.toInt64)).bind fun x10 => l_X10_foldRow_56 fu σ a3 a6 n x10 (v7 + 1))
set_option maxHeartbeats 4000000 in
set_option maxRecDepth 100000 in
theorem k_X10_foldRow_56 {l : Launch} {g : zgeo} {fu : Nat} {p : Program} {e : Env} {s : State} {m : MethodId} {args : Array Value} {below : List Frame} {meth : Method} {c : Code} (M : zMC RX10 cX10_foldRow 8 (some .long) g p m c s args meth) {σ : zmem} {a3 : Int32} {a6 : Int32} {Q : State → Prop} : ∀ (n : Nat) (v4 : Int64) (v7 : Int32) (o : Int64), l_X10_foldRow_56 fu σ a3 a6 n v4 v7 = some o → ∀ (ls : Array Slot) (H : Heap) (locs : List Loc), lv_has ls 8 [(0, .ref (zA g 0)), (3, .int a3), (4, .long v4), (6, .int a6), (7, .int v7)] → zIV g σ (zAA g) s.heap H locs → (∀ (ls : Array Slot) (H : Heap) (locs : List Loc), lv_has ls 8 [(0, .ref (zA g 0)), (3, .int a3), (4, .long o)] → zIV g σ (zAA g) s.heap H locs → W p l e (zrm 4 94) s m args below meth c H locs 0 0 Q (F0 m 90 ls [])) → W p l e (zrm 4 94) s m args below meth c H locs 0 0 Q (F0 m 56 ls []) := by
  have hx := M.1.1
  have hb := M.1.2.1
  intro n
  induction n with
  | zero =>
    intro v4 v7 o hr ls H locs hl I KF
    have hr : (none : Option (Int64)) = some o := hr
    cases hr
  | succ n ih =>
    intro v4 v7 o hr ls H locs hl I KF
    rw [l_X10_foldRow_56] at hr
    refine lv_iload hx hb dX10_foldRow_56 (lv_at hl 4 rfl) ?_
    refine lv_iload hx hb dX10_foldRow_58 (lv_at hl 3 rfl) ?_
    refine lv_icmp_ge (tgt := 90) hx hb dX10_foldRow_60 (by decide) (fun c11 => ?_) (fun c11 => ?_)
    · replace hr := zif_t hr c11
      obtain rfl := Option.some.inj hr
      exact KF ls _ _ (lv_sub hl [0, 1, 2] rfl) I
    · replace hr := zif_f hr c11
      refine lv_lload hx hb dX10_foldRow_63 (lv_at hl 2 rfl) ?_
      refine lv_aload_n hx hb dX10_foldRow_65 rfl (lv_at hl 0 rfl) ?_
      refine zgetR (j := 35) M I zc_0 zfl_X10_49 dX10_foldRow_66 rfl ?_
      refine lv_iload_n hx hb dX10_foldRow_69 rfl (lv_at hl 1 rfl) ?_
      obtain ⟨x8, e_x8, hr⟩ := zb_some hr
      refine zcallR M I (zrunV (as := [.int a3]) M I (c_X5_partnersOf l g fu zc_35 e_x8) zc_35 zK5.1 (by decide) zlv_X10_238 ⟨Nat.le_of_ble_eq_true rfl, Nat.le_of_ble_eq_true rfl⟩ ⟨Nat.zero_le _, Nat.zero_le _⟩ rfl rfl (Nat.le_of_ble_eq_true rfl) hl.1 dX10_foldRow_70) (fun H locs I => ?_)
      refine lv_iload hx hb dX10_foldRow_73 (lv_at hl 4 rfl) ?_
      obtain ⟨x9, e_x9, hr⟩ := zb_some hr
      refine zcallI M I (zrunV (as := [.int v7]) M I (c_X1_at l g fu (zq_X5_partnersOf zc_35 e_x8) e_x9) (zq_X5_partnersOf zc_35 e_x8) zK1.1 (by decide) zlv_X10_165 ⟨Nat.le_of_ble_eq_true rfl, Nat.le_of_ble_eq_true rfl⟩ ⟨Nat.zero_le _, Nat.zero_le _⟩ rfl rfl (Nat.le_of_ble_eq_true rfl) hl.1 dX10_foldRow_75) (fun H locs I => ?_)
      refine lv_i2l (v := (x9.toInt64)) hx hb dX10_foldRow_78 rfl ?_
      obtain ⟨x10, e_x10, hr⟩ := zb_some hr
      refine zcallL M I (zrunS (as := [.long v4, .long (x9.toInt64)]) M I (c_X10_fold l g fu e_x10) zls_X10_268 ⟨Nat.le_of_ble_eq_true rfl, Nat.le_of_ble_eq_true rfl⟩ ⟨Nat.zero_le _, Nat.zero_le _⟩ rfl rfl (Nat.le_of_ble_eq_true rfl) hl.1 dX10_foldRow_79) (fun H locs I => ?_)
      refine lv_lstore (lv' := [(4, .long x10), (0, .ref (zA g 0)), (3, .int a3), (6, .int a6), (7, .int v7)]) hx hb dX10_foldRow_82 hl (by decide) rfl (fun ls hl => ?_)
      refine lv_iinc (lv' := [(7, .int (v7 + 1)), (4, .long x10), (0, .ref (zA g 0)), (3, .int a3), (6, .int a6)]) (k := 4) (v := (v7 + 1)) hx hb dX10_foldRow_84 hl rfl (zi_1 _) (by decide) rfl (fun ls hl => ?_)
      refine lv_goto (tgt := 56) hx hb dX10_foldRow_87 (by decide) ?_
      exact ih _ _  _ hr ls _ _ (lv_sub hl [2, 3, 1, 4, 0] rfl) I KF
def l_X10_foldRow_93 (fu : Nat) (σ : zmem) (a3 : Int32) : Nat → Int64 → Int32 → Option (Int64)
  | 0, _, _ => none
  | n + 1, v4, v7 => (if (3 : Int32) ≤ v7 then some v4 else (m_X7_rowOf fu σ 1 a3).bind fun x13 => (m_X6_stretchProperty fu σ x13 v7).bind fun x14 => (m_X10_fold fu σ v4 (x14.toInt64)).bind fun x15 => l_X10_foldRow_93 fu σ a3 n x15 (v7 + 1))
set_option maxHeartbeats 4000000 in
set_option maxRecDepth 100000 in
theorem k_X10_foldRow_93 {l : Launch} {g : zgeo} {fu : Nat} {p : Program} {e : Env} {s : State} {m : MethodId} {args : Array Value} {below : List Frame} {meth : Method} {c : Code} (M : zMC RX10 cX10_foldRow 8 (some .long) g p m c s args meth) {σ : zmem} {a3 : Int32} {Q : State → Prop} : ∀ (n : Nat) (v4 : Int64) (v7 : Int32) (o : Int64), l_X10_foldRow_93 fu σ a3 n v4 v7 = some o → ∀ (ls : Array Slot) (H : Heap) (locs : List Loc), lv_has ls 8 [(0, .ref (zA g 0)), (3, .int a3), (4, .long v4), (7, .int v7)] → zIV g σ (zAA g) s.heap H locs → (∀ (ls : Array Slot) (H : Heap) (locs : List Loc), lv_has ls 8 [(4, .long o)] → zIV g σ (zAA g) s.heap H locs → W p l e (zrm 4 94) s m args below meth c H locs 0 0 Q (F0 m 126 ls [])) → W p l e (zrm 4 94) s m args below meth c H locs 0 0 Q (F0 m 93 ls []) := by
  have hx := M.1.1
  have hb := M.1.2.1
  intro n
  induction n with
  | zero =>
    intro v4 v7 o hr ls H locs hl I KF
    have hr : (none : Option (Int64)) = some o := hr
    cases hr
  | succ n ih =>
    intro v4 v7 o hr ls H locs hl I KF
    rw [l_X10_foldRow_93] at hr
    refine lv_iload hx hb dX10_foldRow_93 (lv_at hl 3 rfl) ?_
    refine lv_iconst (v := (3 : Int32)) hx hb dX10_foldRow_95 (by decide) ?_
    refine lv_icmp_ge (tgt := 126) hx hb dX10_foldRow_96 (by decide) (fun c16 => ?_) (fun c16 => ?_)
    · replace hr := zif_t hr c16
      obtain rfl := Option.some.inj hr
      exact KF ls _ _ (lv_sub hl [2] rfl) I
    · replace hr := zif_f hr c16
      refine lv_lload hx hb dX10_foldRow_99 (lv_at hl 2 rfl) ?_
      refine lv_aload_n hx hb dX10_foldRow_101 rfl (lv_at hl 0 rfl) ?_
      refine zgetR (j := 1) M I zc_0 zfl_X10_10 dX10_foldRow_102 rfl ?_
      refine lv_iload_n hx hb dX10_foldRow_105 rfl (lv_at hl 1 rfl) ?_
      obtain ⟨x13, e_x13, hr⟩ := zb_some hr
      refine zcallR M I (zrunV (as := [.int a3]) M I (c_X7_rowOf l g fu zc_1 e_x13) zc_1 zK7.1 (by decide) zlv_X10_70 ⟨Nat.le_of_ble_eq_true rfl, Nat.le_of_ble_eq_true rfl⟩ ⟨Nat.zero_le _, Nat.zero_le _⟩ rfl rfl (Nat.le_of_ble_eq_true rfl) hl.1 dX10_foldRow_106) (fun H locs I => ?_)
      refine lv_iload hx hb dX10_foldRow_109 (lv_at hl 3 rfl) ?_
      obtain ⟨x14, e_x14, hr⟩ := zb_some hr
      refine zcallI M I (zrunV (as := [.int v7]) M I (c_X6_stretchProperty l g fu (zq_X7_rowOf zc_1 e_x13) e_x14) (zq_X7_rowOf zc_1 e_x13) zK6.1 (by decide) zlv_X10_244 ⟨Nat.le_of_ble_eq_true rfl, Nat.le_of_ble_eq_true rfl⟩ ⟨Nat.zero_le _, Nat.zero_le _⟩ rfl rfl (Nat.le_of_ble_eq_true rfl) hl.1 dX10_foldRow_111) (fun H locs I => ?_)
      refine lv_i2l (v := (x14.toInt64)) hx hb dX10_foldRow_114 rfl ?_
      obtain ⟨x15, e_x15, hr⟩ := zb_some hr
      refine zcallL M I (zrunS (as := [.long v4, .long (x14.toInt64)]) M I (c_X10_fold l g fu e_x15) zls_X10_268 ⟨Nat.le_of_ble_eq_true rfl, Nat.le_of_ble_eq_true rfl⟩ ⟨Nat.zero_le _, Nat.zero_le _⟩ rfl rfl (Nat.le_of_ble_eq_true rfl) hl.1 dX10_foldRow_115) (fun H locs I => ?_)
      refine lv_lstore (lv' := [(4, .long x15), (0, .ref (zA g 0)), (3, .int a3), (7, .int v7)]) hx hb dX10_foldRow_118 hl (by decide) rfl (fun ls hl => ?_)
      refine lv_iinc (lv' := [(7, .int (v7 + 1)), (4, .long x15), (0, .ref (zA g 0)), (3, .int a3)]) (k := 3) (v := (v7 + 1)) hx hb dX10_foldRow_120 hl rfl (zi_1 _) (by decide) rfl (fun ls hl => ?_)
      refine lv_goto (tgt := 93) hx hb dX10_foldRow_123 (by decide) ?_
      exact ih _ _  _ hr ls _ _ (lv_sub hl [2, 3, 1, 0] rfl) I KF
def m_X10_foldRow (fu : Nat) (σ : zmem) (a1 : Int64) (a3 : Int32) : Option (Int64) := (m_X7_rowOf fu σ 1 a3).bind fun x1 => (m_X6_size fu σ x1).bind fun x2 => (l_X10_foldRow_19 fu σ a3 x2 fu a1 (0 : Int32)).bind fun x7 => (l_X10_foldRow_56 fu σ a3 x2 fu x7 (0 : Int32)).bind fun x12 => (l_X10_foldRow_93 fu σ a3 fu x12 (0 : Int32)).bind fun x17 => some x17
set_option maxHeartbeats 4000000 in
set_option maxRecDepth 100000 in
theorem c_X10_foldRow (l : Launch) (g : zgeo) (fu : Nat) {σ : zmem} {a1 : Int64} {a3 : Int32} {r : Int64} (hr : m_X10_foldRow fu σ a1 a3 = some r) : zCt (zQL g r σ) l g yX10_foldRow cX10_foldRow 8 (some .long) 4 94 [.ref (zA g 0), .long a1, .int a3] σ := by
  refine zopen (by decide) (Nat.le_of_ble_eq_true rfl) ?_
  intro p e s m below meth c M ls hl I
  have M : zMC RX10 cX10_foldRow 8 (some .long) g p m c s ([.ref (zA g 0), .long a1, .int a3] : List Value).toArray meth := M
  have hl : lv_has ls 8 [(0, .ref (zA g 0)), (1, .long a1), (3, .int a3)] := hl
  generalize ([.ref (zA g 0), .long a1, .int a3] : List Value).toArray = args at M ⊢
  have hx := M.1.1
  have hb := M.1.2.1
  unfold m_X10_foldRow at hr
  refine lv_lload_n hx hb dX10_foldRow_0 rfl (lv_at hl 1 rfl) ?_
  refine lv_lstore (lv' := [(4, .long a1), (0, .ref (zA g 0)), (1, .long a1), (3, .int a3)]) hx hb dX10_foldRow_1 hl (by decide) rfl (fun ls hl => ?_)
  refine lv_aload_n hx hb dX10_foldRow_3 rfl (lv_at hl 1 rfl) ?_
  refine zgetR (j := 1) M I zc_0 zfl_X10_10 dX10_foldRow_4 rfl ?_
  refine lv_iload_n hx hb dX10_foldRow_7 rfl (lv_at hl 3 rfl) ?_
  obtain ⟨x1, e_x1, hr⟩ := zb_some hr
  refine zcallR M I (zrunV (as := [.int a3]) M I (c_X7_rowOf l g fu zc_1 e_x1) zc_1 zK7.1 (by decide) zlv_X10_70 ⟨Nat.le_of_ble_eq_true rfl, Nat.le_of_ble_eq_true rfl⟩ ⟨Nat.zero_le _, Nat.zero_le _⟩ rfl rfl (Nat.le_of_ble_eq_true rfl) hl.1 dX10_foldRow_8) (fun H locs I => ?_)
  obtain ⟨x2, e_x2, hr⟩ := zb_some hr
  refine zcallI M I (zrunV (as := []) M I (c_X6_size l g fu (zq_X7_rowOf zc_1 e_x1) e_x2) (zq_X7_rowOf zc_1 e_x1) zK6.1 (by decide) zlv_X10_74 ⟨Nat.le_of_ble_eq_true rfl, Nat.le_of_ble_eq_true rfl⟩ ⟨Nat.zero_le _, Nat.zero_le _⟩ rfl rfl (Nat.le_of_ble_eq_true rfl) hl.1 dX10_foldRow_11) (fun H locs I => ?_)
  refine lv_istore (lv' := [(6, .int x2), (4, .long a1), (0, .ref (zA g 0)), (1, .long a1), (3, .int a3)]) hx hb dX10_foldRow_14 hl (by decide) rfl (fun ls hl => ?_)
  refine lv_iconst (v := (0 : Int32)) hx hb dX10_foldRow_16 (by decide) ?_
  refine lv_istore (lv' := [(7, .int (0 : Int32)), (6, .int x2), (4, .long a1), (0, .ref (zA g 0)), (1, .long a1), (3, .int a3)]) hx hb dX10_foldRow_17 hl (by decide) rfl (fun ls hl => ?_)
  obtain ⟨x7, e_x7, hr⟩ := zb_some hr
  refine k_X10_foldRow_19 M  fu _ _  _ e_x7 ls _ _ (lv_sub hl [3, 5, 2, 1, 0] rfl) I (fun ls H locs hl I => ?_)
  refine lv_iconst (v := (0 : Int32)) hx hb dX10_foldRow_53 (by decide) ?_
  refine lv_istore (lv' := [(7, .int (0 : Int32)), (0, .ref (zA g 0)), (3, .int a3), (4, .long x7), (6, .int x2)]) hx hb dX10_foldRow_54 hl (by decide) rfl (fun ls hl => ?_)
  obtain ⟨x12, e_x12, hr⟩ := zb_some hr
  refine k_X10_foldRow_56 M  fu _ _  _ e_x12 ls _ _ (lv_sub hl [1, 2, 3, 4, 0] rfl) I (fun ls H locs hl I => ?_)
  refine lv_iconst (v := (0 : Int32)) hx hb dX10_foldRow_90 (by decide) ?_
  refine lv_istore (lv' := [(7, .int (0 : Int32)), (0, .ref (zA g 0)), (3, .int a3), (4, .long x12)]) hx hb dX10_foldRow_91 hl (by decide) rfl (fun ls hl => ?_)
  obtain ⟨x17, e_x17, hr⟩ := zb_some hr
  refine k_X10_foldRow_93 M  fu _ _  _ e_x17 ls _ _ (lv_sub hl [1, 2, 3, 0] rfl) I (fun ls H locs hl I => ?_)
  refine lv_lload hx hb dX10_foldRow_126 (lv_at hl 0 rfl) ?_
  obtain rfl := Option.some.inj hr
  exact zretL M I dX10_foldRow_128
def l_X10_foldAnchors_23 (fu : Nat) (σ : zmem) (a5 : Int32) : Nat → Int64 → Int32 → Option (Int64)
  | 0, _, _ => none
  | n + 1, v3, v6 => (if (4 : Int32) ≤ v6 then some v3 else (m_X5_anchorProperty fu σ 35 a5 v6).bind fun x1 => (m_X10_fold fu σ v3 (x1.toInt64)).bind fun x2 => l_X10_foldAnchors_23 fu σ a5 n x2 (v6 + 1))
set_option maxHeartbeats 4000000 in
set_option maxRecDepth 100000 in
theorem k_X10_foldAnchors_23 {l : Launch} {g : zgeo} {fu : Nat} {p : Program} {e : Env} {s : State} {m : MethodId} {args : Array Value} {below : List Frame} {meth : Method} {c : Code} (M : zMC RX10 cX10_foldAnchors 7 (some .long) g p m c s args meth) {σ : zmem} {a5 : Int32} {Q : State → Prop} : ∀ (n : Nat) (v3 : Int64) (v6 : Int32) (o : Int64), l_X10_foldAnchors_23 fu σ a5 n v3 v6 = some o → ∀ (ls : Array Slot) (H : Heap) (locs : List Loc), lv_has ls 7 [(0, .ref (zA g 0)), (3, .long v3), (5, .int a5), (6, .int v6)] → zIV g σ (zAA g) s.heap H locs → (∀ (ls : Array Slot) (H : Heap) (locs : List Loc), lv_has ls 7 [(0, .ref (zA g 0)), (3, .long o), (5, .int a5)] → zIV g σ (zAA g) s.heap H locs → W p l e (zrm 2 43) s m args below meth c H locs 0 0 Q (F0 m 52 ls [])) → W p l e (zrm 2 43) s m args below meth c H locs 0 0 Q (F0 m 23 ls []) := by
  have hx := M.1.1
  have hb := M.1.2.1
  intro n
  induction n with
  | zero =>
    intro v3 v6 o hr ls H locs hl I KF
    have hr : (none : Option (Int64)) = some o := hr
    cases hr
  | succ n ih =>
    intro v3 v6 o hr ls H locs hl I KF
    rw [l_X10_foldAnchors_23] at hr
    refine lv_iload hx hb dX10_foldAnchors_23 (lv_at hl 3 rfl) ?_
    refine lv_iconst (v := (4 : Int32)) hx hb dX10_foldAnchors_25 (by decide) ?_
    refine lv_icmp_ge (tgt := 52) hx hb dX10_foldAnchors_26 (by decide) (fun c3 => ?_) (fun c3 => ?_)
    · replace hr := zif_t hr c3
      obtain rfl := Option.some.inj hr
      exact KF ls _ _ (lv_sub hl [0, 1, 2] rfl) I
    · replace hr := zif_f hr c3
      refine lv_lload_n hx hb dX10_foldAnchors_29 rfl (lv_at hl 1 rfl) ?_
      refine lv_aload_n hx hb dX10_foldAnchors_30 rfl (lv_at hl 0 rfl) ?_
      refine zgetR (j := 35) M I zc_0 zfl_X10_49 dX10_foldAnchors_31 rfl ?_
      refine lv_iload hx hb dX10_foldAnchors_34 (lv_at hl 2 rfl) ?_
      refine lv_iload hx hb dX10_foldAnchors_36 (lv_at hl 3 rfl) ?_
      obtain ⟨x1, e_x1, hr⟩ := zb_some hr
      refine zcallI M I (zrunV (as := [.int a5, .int v6]) M I (c_X5_anchorProperty l g fu zc_35 e_x1) zc_35 zK5.1 (by decide) zlv_X10_224 ⟨Nat.le_of_ble_eq_true rfl, Nat.le_of_ble_eq_true rfl⟩ ⟨Nat.zero_le _, Nat.zero_le _⟩ rfl rfl (Nat.le_of_ble_eq_true rfl) hl.1 dX10_foldAnchors_38) (fun H locs I => ?_)
      refine lv_i2l (v := (x1.toInt64)) hx hb dX10_foldAnchors_41 rfl ?_
      obtain ⟨x2, e_x2, hr⟩ := zb_some hr
      refine zcallL M I (zrunS (as := [.long v3, .long (x1.toInt64)]) M I (c_X10_fold l g fu e_x2) zls_X10_268 ⟨Nat.le_of_ble_eq_true rfl, Nat.le_of_ble_eq_true rfl⟩ ⟨Nat.zero_le _, Nat.zero_le _⟩ rfl rfl (Nat.le_of_ble_eq_true rfl) hl.1 dX10_foldAnchors_42) (fun H locs I => ?_)
      refine lv_lstore_n (lv' := [(3, .long x2), (0, .ref (zA g 0)), (5, .int a5), (6, .int v6)]) hx hb dX10_foldAnchors_45 rfl hl (by decide) rfl (fun ls hl => ?_)
      refine lv_iinc (lv' := [(6, .int (v6 + 1)), (3, .long x2), (0, .ref (zA g 0)), (5, .int a5)]) (k := 3) (v := (v6 + 1)) hx hb dX10_foldAnchors_46 hl rfl (zi_1 _) (by decide) rfl (fun ls hl => ?_)
      refine lv_goto (tgt := 23) hx hb dX10_foldAnchors_49 (by decide) ?_
      exact ih _ _  _ hr ls _ _ (lv_sub hl [2, 1, 3, 0] rfl) I KF
def l_X10_foldAnchors_5 (fu : Nat) (σ : zmem) : Nat → Int64 → Int32 → Option (Int64)
  | 0, _, _ => none
  | n + 1, v3, v5 => (if (σ.1 36 2) ≤ v5 then some v3 else (l_X10_foldAnchors_23 fu σ v5 fu v3 (0 : Int32)).bind fun x4 => l_X10_foldAnchors_5 fu σ n x4 (v5 + 1))
set_option maxHeartbeats 4000000 in
set_option maxRecDepth 100000 in
theorem k_X10_foldAnchors_5 {l : Launch} {g : zgeo} {fu : Nat} {p : Program} {e : Env} {s : State} {m : MethodId} {args : Array Value} {below : List Frame} {meth : Method} {c : Code} (M : zMC RX10 cX10_foldAnchors 7 (some .long) g p m c s args meth) {σ : zmem} {Q : State → Prop} : ∀ (n : Nat) (v3 : Int64) (v5 : Int32) (o : Int64), l_X10_foldAnchors_5 fu σ n v3 v5 = some o → ∀ (ls : Array Slot) (H : Heap) (locs : List Loc), lv_has ls 7 [(0, .ref (zA g 0)), (3, .long v3), (5, .int v5)] → zIV g σ (zAA g) s.heap H locs → (∀ (ls : Array Slot) (H : Heap) (locs : List Loc), lv_has ls 7 [(0, .ref (zA g 0)), (3, .long o)] → zIV g σ (zAA g) s.heap H locs → W p l e (zrm 2 43) s m args below meth c H locs 0 0 Q (F0 m 58 ls [])) → W p l e (zrm 2 43) s m args below meth c H locs 0 0 Q (F0 m 5 ls []) := by
  have hx := M.1.1
  have hb := M.1.2.1
  intro n
  induction n with
  | zero =>
    intro v3 v5 o hr ls H locs hl I KF
    have hr : (none : Option (Int64)) = some o := hr
    cases hr
  | succ n ih =>
    intro v3 v5 o hr ls H locs hl I KF
    rw [l_X10_foldAnchors_5] at hr
    refine lv_iload hx hb dX10_foldAnchors_5 (lv_at hl 2 rfl) ?_
    refine lv_aload_n hx hb dX10_foldAnchors_7 rfl (lv_at hl 0 rfl) ?_
    refine zgetR (j := 35) M I zc_0 zfl_X10_49 dX10_foldAnchors_8 rfl ?_
    refine zgetR (j := 36) M I zc_35 zfl_X10_141 dX10_foldAnchors_11 rfl ?_
    refine zgetI M I zc_36 zfl_X10_145 dX10_foldAnchors_14 ?_
    refine lv_icmp_ge (tgt := 58) hx hb dX10_foldAnchors_17 (by decide) (fun c5 => ?_) (fun c5 => ?_)
    · replace hr := zif_t hr c5
      obtain rfl := Option.some.inj hr
      exact KF ls _ _ (lv_sub hl [0, 1] rfl) I
    · replace hr := zif_f hr c5
      refine lv_iconst (v := (0 : Int32)) hx hb dX10_foldAnchors_20 (by decide) ?_
      refine lv_istore (lv' := [(6, .int (0 : Int32)), (0, .ref (zA g 0)), (3, .long v3), (5, .int v5)]) hx hb dX10_foldAnchors_21 hl (by decide) rfl (fun ls hl => ?_)
      obtain ⟨x4, e_x4, hr⟩ := zb_some hr
      refine k_X10_foldAnchors_23 M  fu _ _  _ e_x4 ls _ _ (lv_sub hl [1, 2, 3, 0] rfl) I (fun ls H locs hl I => ?_)
      refine lv_iinc (lv' := [(5, .int (v5 + 1)), (0, .ref (zA g 0)), (3, .long x4)]) (k := 2) (v := (v5 + 1)) hx hb dX10_foldAnchors_52 hl rfl (zi_1 _) (by decide) rfl (fun ls hl => ?_)
      refine lv_goto (tgt := 5) hx hb dX10_foldAnchors_55 (by decide) ?_
      exact ih _ _  _ hr ls _ _ (lv_sub hl [1, 2, 0] rfl) I KF
def l_X10_foldAnchors_79 (fu : Nat) (σ : zmem) (a5 : Int32) : Nat → Int64 → Int32 → Option (Int64)
  | 0, _, _ => none
  | n + 1, v3, v6 => (if (3 : Int32) ≤ v6 then some v3 else (m_X9_property fu σ 91 a5 v6).bind fun x7 => (m_X10_fold fu σ v3 (x7.toInt64)).bind fun x8 => l_X10_foldAnchors_79 fu σ a5 n x8 (v6 + 1))
set_option maxHeartbeats 4000000 in
set_option maxRecDepth 100000 in
theorem k_X10_foldAnchors_79 {l : Launch} {g : zgeo} {fu : Nat} {p : Program} {e : Env} {s : State} {m : MethodId} {args : Array Value} {below : List Frame} {meth : Method} {c : Code} (M : zMC RX10 cX10_foldAnchors 7 (some .long) g p m c s args meth) {σ : zmem} {a5 : Int32} {Q : State → Prop} : ∀ (n : Nat) (v3 : Int64) (v6 : Int32) (o : Int64), l_X10_foldAnchors_79 fu σ a5 n v3 v6 = some o → ∀ (ls : Array Slot) (H : Heap) (locs : List Loc), lv_has ls 7 [(0, .ref (zA g 0)), (3, .long v3), (5, .int a5), (6, .int v6)] → zIV g σ (zAA g) s.heap H locs → (∀ (ls : Array Slot) (H : Heap) (locs : List Loc), lv_has ls 7 [(0, .ref (zA g 0)), (3, .long o), (5, .int a5)] → zIV g σ (zAA g) s.heap H locs → W p l e (zrm 2 43) s m args below meth c H locs 0 0 Q (F0 m 108 ls [])) → W p l e (zrm 2 43) s m args below meth c H locs 0 0 Q (F0 m 79 ls []) := by
  have hx := M.1.1
  have hb := M.1.2.1
  intro n
  induction n with
  | zero =>
    intro v3 v6 o hr ls H locs hl I KF
    have hr : (none : Option (Int64)) = some o := hr
    cases hr
  | succ n ih =>
    intro v3 v6 o hr ls H locs hl I KF
    rw [l_X10_foldAnchors_79] at hr
    refine lv_iload hx hb dX10_foldAnchors_79 (lv_at hl 3 rfl) ?_
    refine lv_iconst (v := (3 : Int32)) hx hb dX10_foldAnchors_81 (by decide) ?_
    refine lv_icmp_ge (tgt := 108) hx hb dX10_foldAnchors_82 (by decide) (fun c9 => ?_) (fun c9 => ?_)
    · replace hr := zif_t hr c9
      obtain rfl := Option.some.inj hr
      exact KF ls _ _ (lv_sub hl [0, 1, 2] rfl) I
    · replace hr := zif_f hr c9
      refine lv_lload_n hx hb dX10_foldAnchors_85 rfl (lv_at hl 1 rfl) ?_
      refine lv_aload_n hx hb dX10_foldAnchors_86 rfl (lv_at hl 0 rfl) ?_
      refine zgetR (j := 91) M I zc_0 zfl_X10_59 dX10_foldAnchors_87 rfl ?_
      refine lv_iload hx hb dX10_foldAnchors_90 (lv_at hl 2 rfl) ?_
      refine lv_iload hx hb dX10_foldAnchors_92 (lv_at hl 3 rfl) ?_
      obtain ⟨x7, e_x7, hr⟩ := zb_some hr
      refine zcallI M I (zrunV (as := [.int a5, .int v6]) M I (c_X9_property l g fu zc_91 e_x7) zc_91 zK9.1 (by decide) zlv_X10_230 ⟨Nat.le_of_ble_eq_true rfl, Nat.le_of_ble_eq_true rfl⟩ ⟨Nat.zero_le _, Nat.zero_le _⟩ rfl rfl (Nat.le_of_ble_eq_true rfl) hl.1 dX10_foldAnchors_94) (fun H locs I => ?_)
      refine lv_i2l (v := (x7.toInt64)) hx hb dX10_foldAnchors_97 rfl ?_
      obtain ⟨x8, e_x8, hr⟩ := zb_some hr
      refine zcallL M I (zrunS (as := [.long v3, .long (x7.toInt64)]) M I (c_X10_fold l g fu e_x8) zls_X10_268 ⟨Nat.le_of_ble_eq_true rfl, Nat.le_of_ble_eq_true rfl⟩ ⟨Nat.zero_le _, Nat.zero_le _⟩ rfl rfl (Nat.le_of_ble_eq_true rfl) hl.1 dX10_foldAnchors_98) (fun H locs I => ?_)
      refine lv_lstore_n (lv' := [(3, .long x8), (0, .ref (zA g 0)), (5, .int a5), (6, .int v6)]) hx hb dX10_foldAnchors_101 rfl hl (by decide) rfl (fun ls hl => ?_)
      refine lv_iinc (lv' := [(6, .int (v6 + 1)), (3, .long x8), (0, .ref (zA g 0)), (5, .int a5)]) (k := 3) (v := (v6 + 1)) hx hb dX10_foldAnchors_102 hl rfl (zi_1 _) (by decide) rfl (fun ls hl => ?_)
      refine lv_goto (tgt := 79) hx hb dX10_foldAnchors_105 (by decide) ?_
      exact ih _ _  _ hr ls _ _ (lv_sub hl [2, 1, 3, 0] rfl) I KF
def l_X10_foldAnchors_61 (fu : Nat) (σ : zmem) : Nat → Int64 → Int32 → Option (Int64)
  | 0, _, _ => none
  | n + 1, v3, v5 => (if (σ.1 92 2) ≤ v5 then some v3 else (l_X10_foldAnchors_79 fu σ v5 fu v3 (0 : Int32)).bind fun x10 => l_X10_foldAnchors_61 fu σ n x10 (v5 + 1))
set_option maxHeartbeats 4000000 in
set_option maxRecDepth 100000 in
theorem k_X10_foldAnchors_61 {l : Launch} {g : zgeo} {fu : Nat} {p : Program} {e : Env} {s : State} {m : MethodId} {args : Array Value} {below : List Frame} {meth : Method} {c : Code} (M : zMC RX10 cX10_foldAnchors 7 (some .long) g p m c s args meth) {σ : zmem} {Q : State → Prop} : ∀ (n : Nat) (v3 : Int64) (v5 : Int32) (o : Int64), l_X10_foldAnchors_61 fu σ n v3 v5 = some o → ∀ (ls : Array Slot) (H : Heap) (locs : List Loc), lv_has ls 7 [(0, .ref (zA g 0)), (3, .long v3), (5, .int v5)] → zIV g σ (zAA g) s.heap H locs → (∀ (ls : Array Slot) (H : Heap) (locs : List Loc), lv_has ls 7 [(3, .long o)] → zIV g σ (zAA g) s.heap H locs → W p l e (zrm 2 43) s m args below meth c H locs 0 0 Q (F0 m 114 ls [])) → W p l e (zrm 2 43) s m args below meth c H locs 0 0 Q (F0 m 61 ls []) := by
  have hx := M.1.1
  have hb := M.1.2.1
  intro n
  induction n with
  | zero =>
    intro v3 v5 o hr ls H locs hl I KF
    have hr : (none : Option (Int64)) = some o := hr
    cases hr
  | succ n ih =>
    intro v3 v5 o hr ls H locs hl I KF
    rw [l_X10_foldAnchors_61] at hr
    refine lv_iload hx hb dX10_foldAnchors_61 (lv_at hl 2 rfl) ?_
    refine lv_aload_n hx hb dX10_foldAnchors_63 rfl (lv_at hl 0 rfl) ?_
    refine zgetR (j := 91) M I zc_0 zfl_X10_59 dX10_foldAnchors_64 rfl ?_
    refine zgetR (j := 92) M I zc_91 zfl_X10_227 dX10_foldAnchors_67 rfl ?_
    refine zgetI M I zc_92 zfl_X10_145 dX10_foldAnchors_70 ?_
    refine lv_icmp_ge (tgt := 114) hx hb dX10_foldAnchors_73 (by decide) (fun c11 => ?_) (fun c11 => ?_)
    · replace hr := zif_t hr c11
      obtain rfl := Option.some.inj hr
      exact KF ls _ _ (lv_sub hl [1] rfl) I
    · replace hr := zif_f hr c11
      refine lv_iconst (v := (0 : Int32)) hx hb dX10_foldAnchors_76 (by decide) ?_
      refine lv_istore (lv' := [(6, .int (0 : Int32)), (0, .ref (zA g 0)), (3, .long v3), (5, .int v5)]) hx hb dX10_foldAnchors_77 hl (by decide) rfl (fun ls hl => ?_)
      obtain ⟨x10, e_x10, hr⟩ := zb_some hr
      refine k_X10_foldAnchors_79 M  fu _ _  _ e_x10 ls _ _ (lv_sub hl [1, 2, 3, 0] rfl) I (fun ls H locs hl I => ?_)
      refine lv_iinc (lv' := [(5, .int (v5 + 1)), (0, .ref (zA g 0)), (3, .long x10)]) (k := 2) (v := (v5 + 1)) hx hb dX10_foldAnchors_108 hl rfl (zi_1 _) (by decide) rfl (fun ls hl => ?_)
      refine lv_goto (tgt := 61) hx hb dX10_foldAnchors_111 (by decide) ?_
      exact ih _ _  _ hr ls _ _ (lv_sub hl [1, 2, 0] rfl) I KF
def m_X10_foldAnchors (fu : Nat) (σ : zmem) (a1 : Int64) : Option (Int64) := (l_X10_foldAnchors_5 fu σ fu a1 (0 : Int32)).bind fun x6 => (l_X10_foldAnchors_61 fu σ fu x6 (0 : Int32)).bind fun x12 => some x12
set_option maxHeartbeats 4000000 in
set_option maxRecDepth 100000 in
theorem c_X10_foldAnchors (l : Launch) (g : zgeo) (fu : Nat) {σ : zmem} {a1 : Int64} {r : Int64} (hr : m_X10_foldAnchors fu σ a1 = some r) : zCt (zQL g r σ) l g yX10_foldAnchors cX10_foldAnchors 7 (some .long) 2 43 [.ref (zA g 0), .long a1] σ := by
  refine zopen (by decide) (Nat.le_of_ble_eq_true rfl) ?_
  intro p e s m below meth c M ls hl I
  have M : zMC RX10 cX10_foldAnchors 7 (some .long) g p m c s ([.ref (zA g 0), .long a1] : List Value).toArray meth := M
  have hl : lv_has ls 7 [(0, .ref (zA g 0)), (1, .long a1)] := hl
  generalize ([.ref (zA g 0), .long a1] : List Value).toArray = args at M ⊢
  have hx := M.1.1
  have hb := M.1.2.1
  unfold m_X10_foldAnchors at hr
  refine lv_lload_n hx hb dX10_foldAnchors_0 rfl (lv_at hl 1 rfl) ?_
  refine lv_lstore_n (lv' := [(3, .long a1), (0, .ref (zA g 0)), (1, .long a1)]) hx hb dX10_foldAnchors_1 rfl hl (by decide) rfl (fun ls hl => ?_)
  refine lv_iconst (v := (0 : Int32)) hx hb dX10_foldAnchors_2 (by decide) ?_
  refine lv_istore (lv' := [(5, .int (0 : Int32)), (3, .long a1), (0, .ref (zA g 0)), (1, .long a1)]) hx hb dX10_foldAnchors_3 hl (by decide) rfl (fun ls hl => ?_)
  obtain ⟨x6, e_x6, hr⟩ := zb_some hr
  refine k_X10_foldAnchors_5 M  fu _ _  _ e_x6 ls _ _ (lv_sub hl [2, 1, 0] rfl) I (fun ls H locs hl I => ?_)
  refine lv_iconst (v := (0 : Int32)) hx hb dX10_foldAnchors_58 (by decide) ?_
  refine lv_istore (lv' := [(5, .int (0 : Int32)), (0, .ref (zA g 0)), (3, .long x6)]) hx hb dX10_foldAnchors_59 hl (by decide) rfl (fun ls hl => ?_)
  obtain ⟨x12, e_x12, hr⟩ := zb_some hr
  refine k_X10_foldAnchors_61 M  fu _ _  _ e_x12 ls _ _ (lv_sub hl [1, 2, 0] rfl) I (fun ls H locs hl I => ?_)
  refine lv_lload_n hx hb dX10_foldAnchors_114 rfl (lv_at hl 0 rfl) ?_
  obtain rfl := Option.some.inj hr
  exact zretL M I dX10_foldAnchors_115
def l_X10_foldGaps_20 (fu : Nat) (σ : zmem) (a5 : Int32) : Nat → Int64 → Int32 → Option (Int64)
  | 0, _, _ => none
  | n + 1, v3, v6 => (if (5 : Int32) ≤ v6 then some v3 else (m_X5_gapProperty fu σ 35 a5 v6).bind fun x1 => (m_X10_fold fu σ v3 (x1.toInt64)).bind fun x2 => l_X10_foldGaps_20 fu σ a5 n x2 (v6 + 1))
set_option maxHeartbeats 4000000 in
set_option maxRecDepth 100000 in
theorem k_X10_foldGaps_20 {l : Launch} {g : zgeo} {fu : Nat} {p : Program} {e : Env} {s : State} {m : MethodId} {args : Array Value} {below : List Frame} {meth : Method} {c : Code} (M : zMC RX10 cX10_foldGaps 7 (some .long) g p m c s args meth) {σ : zmem} {a5 : Int32} {Q : State → Prop} : ∀ (n : Nat) (v3 : Int64) (v6 : Int32) (o : Int64), l_X10_foldGaps_20 fu σ a5 n v3 v6 = some o → ∀ (ls : Array Slot) (H : Heap) (locs : List Loc), lv_has ls 7 [(0, .ref (zA g 0)), (3, .long v3), (5, .int a5), (6, .int v6)] → zIV g σ (zAA g) s.heap H locs → (∀ (ls : Array Slot) (H : Heap) (locs : List Loc), lv_has ls 7 [(0, .ref (zA g 0)), (3, .long o), (5, .int a5)] → zIV g σ (zAA g) s.heap H locs → W p l e (zrm 2 43) s m args below meth c H locs 0 0 Q (F0 m 49 ls [])) → W p l e (zrm 2 43) s m args below meth c H locs 0 0 Q (F0 m 20 ls []) := by
  have hx := M.1.1
  have hb := M.1.2.1
  intro n
  induction n with
  | zero =>
    intro v3 v6 o hr ls H locs hl I KF
    have hr : (none : Option (Int64)) = some o := hr
    cases hr
  | succ n ih =>
    intro v3 v6 o hr ls H locs hl I KF
    rw [l_X10_foldGaps_20] at hr
    refine lv_iload hx hb dX10_foldGaps_20 (lv_at hl 3 rfl) ?_
    refine lv_iconst (v := (5 : Int32)) hx hb dX10_foldGaps_22 (by decide) ?_
    refine lv_icmp_ge (tgt := 49) hx hb dX10_foldGaps_23 (by decide) (fun c3 => ?_) (fun c3 => ?_)
    · replace hr := zif_t hr c3
      obtain rfl := Option.some.inj hr
      exact KF ls _ _ (lv_sub hl [0, 1, 2] rfl) I
    · replace hr := zif_f hr c3
      refine lv_lload_n hx hb dX10_foldGaps_26 rfl (lv_at hl 1 rfl) ?_
      refine lv_aload_n hx hb dX10_foldGaps_27 rfl (lv_at hl 0 rfl) ?_
      refine zgetR (j := 35) M I zc_0 zfl_X10_49 dX10_foldGaps_28 rfl ?_
      refine lv_iload hx hb dX10_foldGaps_31 (lv_at hl 2 rfl) ?_
      refine lv_iload hx hb dX10_foldGaps_33 (lv_at hl 3 rfl) ?_
      obtain ⟨x1, e_x1, hr⟩ := zb_some hr
      refine zcallI M I (zrunV (as := [.int a5, .int v6]) M I (c_X5_gapProperty l g fu zc_35 e_x1) zc_35 zK5.1 (by decide) zlv_X10_235 ⟨Nat.le_of_ble_eq_true rfl, Nat.le_of_ble_eq_true rfl⟩ ⟨Nat.zero_le _, Nat.zero_le _⟩ rfl rfl (Nat.le_of_ble_eq_true rfl) hl.1 dX10_foldGaps_35) (fun H locs I => ?_)
      refine lv_i2l (v := (x1.toInt64)) hx hb dX10_foldGaps_38 rfl ?_
      obtain ⟨x2, e_x2, hr⟩ := zb_some hr
      refine zcallL M I (zrunS (as := [.long v3, .long (x1.toInt64)]) M I (c_X10_fold l g fu e_x2) zls_X10_268 ⟨Nat.le_of_ble_eq_true rfl, Nat.le_of_ble_eq_true rfl⟩ ⟨Nat.zero_le _, Nat.zero_le _⟩ rfl rfl (Nat.le_of_ble_eq_true rfl) hl.1 dX10_foldGaps_39) (fun H locs I => ?_)
      refine lv_lstore_n (lv' := [(3, .long x2), (0, .ref (zA g 0)), (5, .int a5), (6, .int v6)]) hx hb dX10_foldGaps_42 rfl hl (by decide) rfl (fun ls hl => ?_)
      refine lv_iinc (lv' := [(6, .int (v6 + 1)), (3, .long x2), (0, .ref (zA g 0)), (5, .int a5)]) (k := 3) (v := (v6 + 1)) hx hb dX10_foldGaps_43 hl rfl (zi_1 _) (by decide) rfl (fun ls hl => ?_)
      refine lv_goto (tgt := 20) hx hb dX10_foldGaps_46 (by decide) ?_
      exact ih _ _  _ hr ls _ _ (lv_sub hl [2, 1, 3, 0] rfl) I KF
def l_X10_foldGaps_5 (fu : Nat) (σ : zmem) : Nat → Int64 → Int32 → Option (Int64)
  | 0, _, _ => none
  | n + 1, v3, v5 => (if (σ.1 35 2) ≤ v5 then some v3 else (l_X10_foldGaps_20 fu σ v5 fu v3 (0 : Int32)).bind fun x4 => l_X10_foldGaps_5 fu σ n x4 (v5 + 1))
set_option maxHeartbeats 4000000 in
set_option maxRecDepth 100000 in
theorem k_X10_foldGaps_5 {l : Launch} {g : zgeo} {fu : Nat} {p : Program} {e : Env} {s : State} {m : MethodId} {args : Array Value} {below : List Frame} {meth : Method} {c : Code} (M : zMC RX10 cX10_foldGaps 7 (some .long) g p m c s args meth) {σ : zmem} {Q : State → Prop} : ∀ (n : Nat) (v3 : Int64) (v5 : Int32) (o : Int64), l_X10_foldGaps_5 fu σ n v3 v5 = some o → ∀ (ls : Array Slot) (H : Heap) (locs : List Loc), lv_has ls 7 [(0, .ref (zA g 0)), (3, .long v3), (5, .int v5)] → zIV g σ (zAA g) s.heap H locs → (∀ (ls : Array Slot) (H : Heap) (locs : List Loc), lv_has ls 7 [(3, .long o)] → zIV g σ (zAA g) s.heap H locs → W p l e (zrm 2 43) s m args below meth c H locs 0 0 Q (F0 m 55 ls [])) → W p l e (zrm 2 43) s m args below meth c H locs 0 0 Q (F0 m 5 ls []) := by
  have hx := M.1.1
  have hb := M.1.2.1
  intro n
  induction n with
  | zero =>
    intro v3 v5 o hr ls H locs hl I KF
    have hr : (none : Option (Int64)) = some o := hr
    cases hr
  | succ n ih =>
    intro v3 v5 o hr ls H locs hl I KF
    rw [l_X10_foldGaps_5] at hr
    refine lv_iload hx hb dX10_foldGaps_5 (lv_at hl 2 rfl) ?_
    refine lv_aload_n hx hb dX10_foldGaps_7 rfl (lv_at hl 0 rfl) ?_
    refine zgetR (j := 35) M I zc_0 zfl_X10_49 dX10_foldGaps_8 rfl ?_
    refine zgetI M I zc_35 zfl_X10_317 dX10_foldGaps_11 ?_
    refine lv_icmp_ge (tgt := 55) hx hb dX10_foldGaps_14 (by decide) (fun c5 => ?_) (fun c5 => ?_)
    · replace hr := zif_t hr c5
      obtain rfl := Option.some.inj hr
      exact KF ls _ _ (lv_sub hl [1] rfl) I
    · replace hr := zif_f hr c5
      refine lv_iconst (v := (0 : Int32)) hx hb dX10_foldGaps_17 (by decide) ?_
      refine lv_istore (lv' := [(6, .int (0 : Int32)), (0, .ref (zA g 0)), (3, .long v3), (5, .int v5)]) hx hb dX10_foldGaps_18 hl (by decide) rfl (fun ls hl => ?_)
      obtain ⟨x4, e_x4, hr⟩ := zb_some hr
      refine k_X10_foldGaps_20 M  fu _ _  _ e_x4 ls _ _ (lv_sub hl [1, 2, 3, 0] rfl) I (fun ls H locs hl I => ?_)
      refine lv_iinc (lv' := [(5, .int (v5 + 1)), (0, .ref (zA g 0)), (3, .long x4)]) (k := 2) (v := (v5 + 1)) hx hb dX10_foldGaps_49 hl rfl (zi_1 _) (by decide) rfl (fun ls hl => ?_)
      refine lv_goto (tgt := 5) hx hb dX10_foldGaps_52 (by decide) ?_
      exact ih _ _  _ hr ls _ _ (lv_sub hl [1, 2, 0] rfl) I KF
def m_X10_foldGaps (fu : Nat) (σ : zmem) (a1 : Int64) : Option (Int64) := (l_X10_foldGaps_5 fu σ fu a1 (0 : Int32)).bind fun x6 => some x6
set_option maxHeartbeats 4000000 in
set_option maxRecDepth 100000 in
theorem c_X10_foldGaps (l : Launch) (g : zgeo) (fu : Nat) {σ : zmem} {a1 : Int64} {r : Int64} (hr : m_X10_foldGaps fu σ a1 = some r) : zCt (zQL g r σ) l g yX10_foldGaps cX10_foldGaps 7 (some .long) 2 43 [.ref (zA g 0), .long a1] σ := by
  refine zopen (by decide) (Nat.le_of_ble_eq_true rfl) ?_
  intro p e s m below meth c M ls hl I
  have M : zMC RX10 cX10_foldGaps 7 (some .long) g p m c s ([.ref (zA g 0), .long a1] : List Value).toArray meth := M
  have hl : lv_has ls 7 [(0, .ref (zA g 0)), (1, .long a1)] := hl
  generalize ([.ref (zA g 0), .long a1] : List Value).toArray = args at M ⊢
  have hx := M.1.1
  have hb := M.1.2.1
  unfold m_X10_foldGaps at hr
  refine lv_lload_n hx hb dX10_foldGaps_0 rfl (lv_at hl 1 rfl) ?_
  refine lv_lstore_n (lv' := [(3, .long a1), (0, .ref (zA g 0)), (1, .long a1)]) hx hb dX10_foldGaps_1 rfl hl (by decide) rfl (fun ls hl => ?_)
  refine lv_iconst (v := (0 : Int32)) hx hb dX10_foldGaps_2 (by decide) ?_
  refine lv_istore (lv' := [(5, .int (0 : Int32)), (3, .long a1), (0, .ref (zA g 0)), (1, .long a1)]) hx hb dX10_foldGaps_3 hl (by decide) rfl (fun ls hl => ?_)
  obtain ⟨x6, e_x6, hr⟩ := zb_some hr
  refine k_X10_foldGaps_5 M  fu _ _  _ e_x6 ls _ _ (lv_sub hl [2, 1, 0] rfl) I (fun ls H locs hl I => ?_)
  refine lv_lload_n hx hb dX10_foldGaps_55 rfl (lv_at hl 0 rfl) ?_
  obtain rfl := Option.some.inj hr
  exact zretL M I dX10_foldGaps_56
def l_X10_bitsOfShare_18 (fu : Nat) (σ : zmem) : Nat → UInt64 → Int64 → Int32 → Option (UInt64 × Int64)
  | 0, _, _, _ => none
  | n + 1, v2, v4, v6 => (if (64 : Int32) ≤ v6 then some (v2, v4) else (if 0 ≤ (Op.cmpValue (FP.dcmp v2 FP.dconst1) CmpOp.g) then some (v2, v4) else (zdn (FP.dmul v2 (4611686018427387904 : UInt64))).bind fun q1 => l_X10_bitsOfShare_18 fu σ n (FP.dmul v2 (4611686018427387904 : UInt64)) (v4 - (1 : Int64)) (v6 + 1)))
set_option maxHeartbeats 4000000 in
set_option maxRecDepth 100000 in
theorem k_X10_bitsOfShare_18 {l : Launch} {g : zgeo} {fu : Nat} {p : Program} {e : Env} {s : State} {m : MethodId} {args : Array Value} {below : List Frame} {meth : Method} {c : Code} (M : zMC RX10 cX10_bitsOfShare 8 (some .long) g p m c s args meth) {σ : zmem} {Q : State → Prop} : ∀ (n : Nat) (v2 : UInt64) (v4 : Int64) (v6 : Int32) (o : UInt64 × Int64), l_X10_bitsOfShare_18 fu σ n v2 v4 v6 = some o → ∀ (ls : Array Slot) (H : Heap) (locs : List Loc), lv_has ls 8 [(2, .double v2), (4, .long v4), (6, .int v6)] → zIV g σ (zAA g) s.heap H locs → (∀ (ls : Array Slot) (H : Heap) (locs : List Loc), lv_has ls 8 [(2, .double o.1), (4, .long o.2)] → zIV g σ (zAA g) s.heap H locs → W p l e (zrm 0 0) s m args below meth c H locs 0 0 Q (F0 m 49 ls [])) → W p l e (zrm 0 0) s m args below meth c H locs 0 0 Q (F0 m 18 ls []) := by
  have hx := M.1.1
  have hb := M.1.2.1
  intro n
  induction n with
  | zero =>
    intro v2 v4 v6 o hr ls H locs hl I KF
    have hr : (none : Option (UInt64 × Int64)) = some o := hr
    cases hr
  | succ n ih =>
    intro v2 v4 v6 o hr ls H locs hl I KF
    rw [l_X10_bitsOfShare_18] at hr
    refine lv_iload hx hb dX10_bitsOfShare_18 (lv_at hl 2 rfl) ?_
    refine lv_bipush (v := (64 : Int32)) hx hb dX10_bitsOfShare_20 (by decide) ?_
    refine lv_icmp_ge (tgt := 49) hx hb dX10_bitsOfShare_22 (by decide) (fun c3 => ?_) (fun c3 => ?_)
    · replace hr := zif_t hr c3
      obtain rfl := Option.some.inj hr
      exact KF ls _ _ (lv_sub hl [0, 1] rfl) I
    · replace hr := zif_f hr c3
      refine lv_dload_n hx hb dX10_bitsOfShare_25 rfl (lv_at hl 0 rfl) ?_
      refine lv_dconst1 hx hb dX10_bitsOfShare_26 ?_
      refine lv_dcmp hx hb dX10_bitsOfShare_27 ?_
      refine lv_if_ge (tgt := 49) hx hb dX10_bitsOfShare_28 (by decide) (fun c2 => ?_) (fun c2 => ?_)
      · replace hr := zif_t hr c2
        obtain rfl := Option.some.inj hr
        exact KF ls _ _ (lv_sub hl [0, 1] rfl) I
      · replace hr := zif_f hr c2
        refine lv_dload_n hx hb dX10_bitsOfShare_31 rfl (lv_at hl 0 rfl) ?_
        refine lv_ldc2d (own := RX10) (v := 4611686018427387904) hx hb M.1.2.2.2.1 (M.1.2.2.2.2 _ (zin (i := 613) (by decide +kernel) rfl)) dX10_bitsOfShare_32 ?_
        obtain ⟨q1, e_q1, hr⟩ := zb_some hr
        refine lv_dmul hx hb dX10_bitsOfShare_35 (zdn_some e_q1).1 ?_
        refine lv_dstore_n (lv' := [(2, .double (FP.dmul v2 (4611686018427387904 : UInt64))), (4, .long v4), (6, .int v6)]) hx hb dX10_bitsOfShare_36 rfl hl (by decide) rfl (fun ls hl => ?_)
        refine lv_lload hx hb dX10_bitsOfShare_37 (lv_at hl 1 rfl) ?_
        refine lv_lconst (v := 1) hx hb dX10_bitsOfShare_39 (by decide) ?_
        refine lv_lsub hx hb dX10_bitsOfShare_40 ?_
        refine lv_lstore (lv' := [(4, .long (v4 - (1 : Int64))), (2, .double (FP.dmul v2 (4611686018427387904 : UInt64))), (6, .int v6)]) hx hb dX10_bitsOfShare_41 hl (by decide) rfl (fun ls hl => ?_)
        refine lv_iinc (lv' := [(6, .int (v6 + 1)), (4, .long (v4 - (1 : Int64))), (2, .double (FP.dmul v2 (4611686018427387904 : UInt64)))]) (k := 2) (v := (v6 + 1)) hx hb dX10_bitsOfShare_43 hl rfl (zi_1 _) (by decide) rfl (fun ls hl => ?_)
        refine lv_goto (tgt := 18) hx hb dX10_bitsOfShare_46 (by decide) ?_
        exact ih _ _ _  _ hr ls _ _ (lv_sub hl [2, 1, 0] rfl) I KF
def m_X10_bitsOfShare (fu : Nat) (σ : zmem) (a0 : UInt64) : Option (Int64) := (if 0 < (Op.cmpValue (FP.dcmp a0 FP.dconst0) CmpOp.g) then (l_X10_bitsOfShare_18 fu σ fu a0 (1023 : Int64) (0 : Int32)).bind fun x4 => (zdn (FP.dsub x4.1 FP.dconst1)).bind fun q5 => (zdn (FP.dmul (FP.dsub x4.1 FP.dconst1) (4841369599423283200 : UInt64))).bind fun q6 => some ((x4.2 <<< ((52 : Int32).toInt64 &&& 63)) + (FP.d2l (FP.dmul (FP.dsub x4.1 FP.dconst1) (4841369599423283200 : UInt64)))) else some (0 : Int64))
set_option maxHeartbeats 4000000 in
set_option maxRecDepth 100000 in
theorem c_X10_bitsOfShare (l : Launch) (g : zgeo) (fu : Nat) {σ : zmem} {a0 : UInt64} {r : Int64} (hr : m_X10_bitsOfShare fu σ a0 = some r) : zCt (zQL g r σ) l g yX10_bitsOfShare cX10_bitsOfShare 8 (some .long) 0 0 [.double a0] σ := by
  refine zopen (by decide) (Nat.le_of_ble_eq_true rfl) ?_
  intro p e s m below meth c M ls hl I
  have M : zMC RX10 cX10_bitsOfShare 8 (some .long) g p m c s ([.double a0] : List Value).toArray meth := M
  have hl : lv_has ls 8 [(0, .double a0)] := hl
  generalize ([.double a0] : List Value).toArray = args at M ⊢
  have hx := M.1.1
  have hb := M.1.2.1
  unfold m_X10_bitsOfShare at hr
  refine lv_dload_n hx hb dX10_bitsOfShare_0 rfl (lv_at hl 0 rfl) ?_
  refine lv_dconst0 hx hb dX10_bitsOfShare_1 ?_
  refine lv_dcmp hx hb dX10_bitsOfShare_2 ?_
  refine lv_if_gt (tgt := 8) hx hb dX10_bitsOfShare_3 (by decide) (fun c7 => ?_) (fun c7 => ?_)
  · replace hr := zif_t hr c7
    refine lv_dload_n hx hb dX10_bitsOfShare_8 rfl (lv_at hl 0 rfl) ?_
    refine lv_dstore_n (lv' := [(2, .double a0), (0, .double a0)]) hx hb dX10_bitsOfShare_9 rfl hl (by decide) rfl (fun ls hl => ?_)
    refine lv_ldc2 (own := RX10) (v := 1023) hx hb M.1.2.2.2.1 (M.1.2.2.2.2 _ (zin (i := 707) (by decide +kernel) rfl)) dX10_bitsOfShare_10 ?_
    refine lv_lstore (lv' := [(4, .long (1023 : Int64)), (2, .double a0), (0, .double a0)]) hx hb dX10_bitsOfShare_13 hl (by decide) rfl (fun ls hl => ?_)
    refine lv_iconst (v := (0 : Int32)) hx hb dX10_bitsOfShare_15 (by decide) ?_
    refine lv_istore (lv' := [(6, .int (0 : Int32)), (4, .long (1023 : Int64)), (2, .double a0), (0, .double a0)]) hx hb dX10_bitsOfShare_16 hl (by decide) rfl (fun ls hl => ?_)
    obtain ⟨x4, e_x4, hr⟩ := zb_some hr
    refine k_X10_bitsOfShare_18 M  fu _ _ _  _ e_x4 ls _ _ (lv_sub hl [2, 1, 0] rfl) I (fun ls H locs hl I => ?_)
    refine lv_dload_n hx hb dX10_bitsOfShare_49 rfl (lv_at hl 0 rfl) ?_
    refine lv_dconst1 hx hb dX10_bitsOfShare_50 ?_
    obtain ⟨q5, e_q5, hr⟩ := zb_some hr
    refine lv_dsub hx hb dX10_bitsOfShare_51 (zdn_some e_q5).1 ?_
    refine lv_ldc2d (own := RX10) (v := 4841369599423283200) hx hb M.1.2.2.2.1 (M.1.2.2.2.2 _ (zin (i := 708) (by decide +kernel) rfl)) dX10_bitsOfShare_52 ?_
    obtain ⟨q6, e_q6, hr⟩ := zb_some hr
    refine lv_dmul hx hb dX10_bitsOfShare_55 (zdn_some e_q6).1 ?_
    refine lv_d2l hx hb dX10_bitsOfShare_56 ?_
    refine lv_lstore (lv' := [(6, .long (FP.d2l (FP.dmul (FP.dsub x4.1 FP.dconst1) (4841369599423283200 : UInt64)))), (2, .double x4.1), (4, .long x4.2)]) hx hb dX10_bitsOfShare_57 hl (by decide) rfl (fun ls hl => ?_)
    refine lv_lload hx hb dX10_bitsOfShare_59 (lv_at hl 2 rfl) ?_
    refine lv_bipush (v := (52 : Int32)) hx hb dX10_bitsOfShare_61 (by decide) ?_
    refine lv_lshl (v := (x4.2 <<< ((52 : Int32).toInt64 &&& 63))) hx hb dX10_bitsOfShare_63 rfl ?_
    refine lv_lload hx hb dX10_bitsOfShare_64 (lv_at hl 0 rfl) ?_
    refine lv_ladd hx hb dX10_bitsOfShare_66 ?_
    obtain rfl := Option.some.inj hr
    exact zretL M I dX10_bitsOfShare_67
  · replace hr := zif_f hr c7
    refine lv_lconst (v := 0) hx hb dX10_bitsOfShare_6 (by decide) ?_
    obtain rfl := Option.some.inj hr
    exact zretL M I dX10_bitsOfShare_7
def l_X10_foldText_16 (fu : Nat) (σ : zmem) : Nat → Int64 → Int32 → Option (Int64)
  | 0, _, _ => none
  | n + 1, v3, v5 => (m_X8_size fu σ 32).bind fun x3 => (if x3 ≤ v5 then some v3 else (m_X8_codeAt fu σ 32 v5).bind fun x4 => (m_X10_fold fu σ v3 (x4.toInt64)).bind fun x5 => l_X10_foldText_16 fu σ n x5 (v5 + 1))
set_option maxHeartbeats 4000000 in
set_option maxRecDepth 100000 in
theorem k_X10_foldText_16 {l : Launch} {g : zgeo} {fu : Nat} {p : Program} {e : Env} {s : State} {m : MethodId} {args : Array Value} {below : List Frame} {meth : Method} {c : Code} (M : zMC RX10 cX10_foldText 6 (some .long) g p m c s args meth) {σ : zmem} {Q : State → Prop} : ∀ (n : Nat) (v3 : Int64) (v5 : Int32) (o : Int64), l_X10_foldText_16 fu σ n v3 v5 = some o → ∀ (ls : Array Slot) (H : Heap) (locs : List Loc), lv_has ls 6 [(0, .ref (zA g 0)), (3, .long v3), (5, .int v5)] → zIV g σ (zAA g) s.heap H locs → (∀ (ls : Array Slot) (H : Heap) (locs : List Loc), lv_has ls 6 [(3, .long o)] → zIV g σ (zAA g) s.heap H locs → W p l e (zrm 2 42) s m args below meth c H locs 0 0 Q (F0 m 49 ls [])) → W p l e (zrm 2 42) s m args below meth c H locs 0 0 Q (F0 m 16 ls []) := by
  have hx := M.1.1
  have hb := M.1.2.1
  intro n
  induction n with
  | zero =>
    intro v3 v5 o hr ls H locs hl I KF
    have hr : (none : Option (Int64)) = some o := hr
    cases hr
  | succ n ih =>
    intro v3 v5 o hr ls H locs hl I KF
    rw [l_X10_foldText_16] at hr
    refine lv_iload hx hb dX10_foldText_16 (lv_at hl 2 rfl) ?_
    refine lv_aload_n hx hb dX10_foldText_18 rfl (lv_at hl 0 rfl) ?_
    refine zgetR (j := 32) M I zc_0 zfl_X10_42 dX10_foldText_19 rfl ?_
    obtain ⟨x3, e_x3, hr⟩ := zb_some hr
    refine zcallI M I (zrunV (as := []) M I (c_X8_size l g fu zc_32 e_x3) zc_32 zK8.1 (by decide) zlv_X10_175 ⟨Nat.le_of_ble_eq_true rfl, Nat.le_of_ble_eq_true rfl⟩ ⟨Nat.zero_le _, Nat.zero_le _⟩ rfl rfl (Nat.le_of_ble_eq_true rfl) hl.1 dX10_foldText_22) (fun H locs I => ?_)
    refine lv_icmp_ge (tgt := 49) hx hb dX10_foldText_25 (by decide) (fun c6 => ?_) (fun c6 => ?_)
    · replace hr := zif_t hr c6
      obtain rfl := Option.some.inj hr
      exact KF ls _ _ (lv_sub hl [1] rfl) I
    · replace hr := zif_f hr c6
      refine lv_lload_n hx hb dX10_foldText_28 rfl (lv_at hl 1 rfl) ?_
      refine lv_aload_n hx hb dX10_foldText_29 rfl (lv_at hl 0 rfl) ?_
      refine zgetR (j := 32) M I zc_0 zfl_X10_42 dX10_foldText_30 rfl ?_
      refine lv_iload hx hb dX10_foldText_33 (lv_at hl 2 rfl) ?_
      obtain ⟨x4, e_x4, hr⟩ := zb_some hr
      refine zcallI M I (zrunV (as := [.int v5]) M I (c_X8_codeAt l g fu zc_32 e_x4) zc_32 zK8.1 (by decide) zlv_X10_345 ⟨Nat.le_of_ble_eq_true rfl, Nat.le_of_ble_eq_true rfl⟩ ⟨Nat.zero_le _, Nat.zero_le _⟩ rfl rfl (Nat.le_of_ble_eq_true rfl) hl.1 dX10_foldText_35) (fun H locs I => ?_)
      refine lv_i2l (v := (x4.toInt64)) hx hb dX10_foldText_38 rfl ?_
      obtain ⟨x5, e_x5, hr⟩ := zb_some hr
      refine zcallL M I (zrunS (as := [.long v3, .long (x4.toInt64)]) M I (c_X10_fold l g fu e_x5) zls_X10_268 ⟨Nat.le_of_ble_eq_true rfl, Nat.le_of_ble_eq_true rfl⟩ ⟨Nat.zero_le _, Nat.zero_le _⟩ rfl rfl (Nat.le_of_ble_eq_true rfl) hl.1 dX10_foldText_39) (fun H locs I => ?_)
      refine lv_lstore_n (lv' := [(3, .long x5), (0, .ref (zA g 0)), (5, .int v5)]) hx hb dX10_foldText_42 rfl hl (by decide) rfl (fun ls hl => ?_)
      refine lv_iinc (lv' := [(5, .int (v5 + 1)), (3, .long x5), (0, .ref (zA g 0))]) (k := 2) (v := (v5 + 1)) hx hb dX10_foldText_43 hl rfl (zi_1 _) (by decide) rfl (fun ls hl => ?_)
      refine lv_goto (tgt := 16) hx hb dX10_foldText_46 (by decide) ?_
      exact ih _ _  _ hr ls _ _ (lv_sub hl [2, 1, 0] rfl) I KF
def m_X10_foldText (fu : Nat) (σ : zmem) (a1 : Int64) : Option (Int64) := (m_X8_size fu σ 32).bind fun x1 => (m_X10_fold fu σ a1 (x1.toInt64)).bind fun x2 => (l_X10_foldText_16 fu σ fu x2 (0 : Int32)).bind fun x7 => some x7
set_option maxHeartbeats 4000000 in
set_option maxRecDepth 100000 in
theorem c_X10_foldText (l : Launch) (g : zgeo) (fu : Nat) {σ : zmem} {a1 : Int64} {r : Int64} (hr : m_X10_foldText fu σ a1 = some r) : zCt (zQL g r σ) l g yX10_foldText cX10_foldText 6 (some .long) 2 42 [.ref (zA g 0), .long a1] σ := by
  refine zopen (by decide) (Nat.le_of_ble_eq_true rfl) ?_
  intro p e s m below meth c M ls hl I
  have M : zMC RX10 cX10_foldText 6 (some .long) g p m c s ([.ref (zA g 0), .long a1] : List Value).toArray meth := M
  have hl : lv_has ls 6 [(0, .ref (zA g 0)), (1, .long a1)] := hl
  generalize ([.ref (zA g 0), .long a1] : List Value).toArray = args at M ⊢
  have hx := M.1.1
  have hb := M.1.2.1
  unfold m_X10_foldText at hr
  refine lv_lload_n hx hb dX10_foldText_0 rfl (lv_at hl 1 rfl) ?_
  refine lv_aload_n hx hb dX10_foldText_1 rfl (lv_at hl 0 rfl) ?_
  refine zgetR (j := 32) M I zc_0 zfl_X10_42 dX10_foldText_2 rfl ?_
  obtain ⟨x1, e_x1, hr⟩ := zb_some hr
  refine zcallI M I (zrunV (as := []) M I (c_X8_size l g fu zc_32 e_x1) zc_32 zK8.1 (by decide) zlv_X10_175 ⟨Nat.le_of_ble_eq_true rfl, Nat.le_of_ble_eq_true rfl⟩ ⟨Nat.zero_le _, Nat.zero_le _⟩ rfl rfl (Nat.le_of_ble_eq_true rfl) hl.1 dX10_foldText_5) (fun H locs I => ?_)
  refine lv_i2l (v := (x1.toInt64)) hx hb dX10_foldText_8 rfl ?_
  obtain ⟨x2, e_x2, hr⟩ := zb_some hr
  refine zcallL M I (zrunS (as := [.long a1, .long (x1.toInt64)]) M I (c_X10_fold l g fu e_x2) zls_X10_268 ⟨Nat.le_of_ble_eq_true rfl, Nat.le_of_ble_eq_true rfl⟩ ⟨Nat.zero_le _, Nat.zero_le _⟩ rfl rfl (Nat.le_of_ble_eq_true rfl) hl.1 dX10_foldText_9) (fun H locs I => ?_)
  refine lv_lstore_n (lv' := [(3, .long x2), (0, .ref (zA g 0)), (1, .long a1)]) hx hb dX10_foldText_12 rfl hl (by decide) rfl (fun ls hl => ?_)
  refine lv_iconst (v := (0 : Int32)) hx hb dX10_foldText_13 (by decide) ?_
  refine lv_istore (lv' := [(5, .int (0 : Int32)), (3, .long x2), (0, .ref (zA g 0)), (1, .long a1)]) hx hb dX10_foldText_14 hl (by decide) rfl (fun ls hl => ?_)
  obtain ⟨x7, e_x7, hr⟩ := zb_some hr
  refine k_X10_foldText_16 M  fu _ _  _ e_x7 ls _ _ (lv_sub hl [2, 1, 0] rfl) I (fun ls H locs hl I => ?_)
  refine lv_lload_n hx hb dX10_foldText_49 rfl (lv_at hl 0 rfl) ?_
  obtain rfl := Option.some.inj hr
  exact zretL M I dX10_foldText_50
def l_X10_digest_10 (fu : Nat) : Nat → Int64 → Int32 → zmem → Option (Int64 × zmem)
  | 0, _, _, _ => none
  | n + 1, v1, v3, σ => (if (15 : Int32) ≤ v3 then some (v1, σ) else (m_X10_numberOf fu σ v3).bind fun x2 => (m_X10_fold fu x2.2 v1 (x2.1.toInt64)).bind fun x3 => l_X10_digest_10 fu n x3 (v3 + 1) x2.2)
set_option maxHeartbeats 4000000 in
set_option maxRecDepth 100000 in
theorem k_X10_digest_10 {l : Launch} {g : zgeo} {fu : Nat} {p : Program} {e : Env} {s : State} {m : MethodId} {args : Array Value} {below : List Frame} {meth : Method} {c : Code} (M : zMC RX10 cX10_digest 4 (some .long) g p m c s args meth) {Q : State → Prop} : ∀ (n : Nat) (v1 : Int64) (v3 : Int32) (σ : zmem) (o : Int64 × zmem), l_X10_digest_10 fu n v1 v3 σ = some o → ∀ (ls : Array Slot) (H : Heap) (locs : List Loc), lv_has ls 4 [(0, .ref (zA g 0)), (1, .long v1), (3, .int v3)] → zIV g σ (zAA g) s.heap H locs → (∀ (ls : Array Slot) (H : Heap) (locs : List Loc), lv_has ls 4 [(0, .ref (zA g 0)), (1, .long o.1)] → zIV g o.2 (zAA g) s.heap H locs → W p l e (zrm 6 157) s m args below meth c H locs 0 0 Q (F0 m 33 ls [])) → W p l e (zrm 6 157) s m args below meth c H locs 0 0 Q (F0 m 10 ls []) := by
  have hx := M.1.1
  have hb := M.1.2.1
  intro n
  induction n with
  | zero =>
    intro v1 v3 σ o hr ls H locs hl I KF
    have hr : (none : Option (Int64 × zmem)) = some o := hr
    cases hr
  | succ n ih =>
    intro v1 v3 σ o hr ls H locs hl I KF
    rw [l_X10_digest_10] at hr
    refine lv_iload_n hx hb dX10_digest_10 rfl (lv_at hl 2 rfl) ?_
    refine lv_bipush (v := (15 : Int32)) hx hb dX10_digest_11 (by decide) ?_
    refine lv_icmp_ge (tgt := 33) hx hb dX10_digest_13 (by decide) (fun c4 => ?_) (fun c4 => ?_)
    · replace hr := zif_t hr c4
      obtain rfl := Option.some.inj hr
      exact KF ls _ _ (lv_sub hl [0, 1] rfl) I
    · replace hr := zif_f hr c4
      refine lv_lload_n hx hb dX10_digest_16 rfl (lv_at hl 1 rfl) ?_
      refine lv_aload_n hx hb dX10_digest_17 rfl (lv_at hl 0 rfl) ?_
      refine lv_iload_n hx hb dX10_digest_18 rfl (lv_at hl 2 rfl) ?_
      obtain ⟨x2, e_x2, hr⟩ := zb_some hr
      refine zcallI M I (zrunV (as := [.int v3]) M I (c_X10_numberOf l g fu e_x2) zc_0 zK10.1 (by decide) zlv_X10_249 ⟨Nat.le_of_ble_eq_true rfl, Nat.le_of_ble_eq_true rfl⟩ ⟨Nat.zero_le _, Nat.zero_le _⟩ rfl rfl (Nat.le_of_ble_eq_true rfl) hl.1 dX10_digest_19) (fun H locs I => ?_)
      refine lv_i2l (v := (x2.1.toInt64)) hx hb dX10_digest_22 rfl ?_
      obtain ⟨x3, e_x3, hr⟩ := zb_some hr
      refine zcallL M I (zrunS (as := [.long v1, .long (x2.1.toInt64)]) M I (c_X10_fold l g fu e_x3) zls_X10_268 ⟨Nat.le_of_ble_eq_true rfl, Nat.le_of_ble_eq_true rfl⟩ ⟨Nat.zero_le _, Nat.zero_le _⟩ rfl rfl (Nat.le_of_ble_eq_true rfl) hl.1 dX10_digest_23) (fun H locs I => ?_)
      refine lv_lstore_n (lv' := [(1, .long x3), (0, .ref (zA g 0)), (3, .int v3)]) hx hb dX10_digest_26 rfl hl (by decide) rfl (fun ls hl => ?_)
      refine lv_iinc (lv' := [(3, .int (v3 + 1)), (1, .long x3), (0, .ref (zA g 0))]) (k := 2) (v := (v3 + 1)) hx hb dX10_digest_27 hl rfl (zi_1 _) (by decide) rfl (fun ls hl => ?_)
      refine lv_goto (tgt := 10) hx hb dX10_digest_30 (by decide) ?_
      exact ih _ _ _  _ hr ls _ _ (lv_sub hl [2, 1, 0] rfl) I KF
def l_X10_digest_35 (fu : Nat) (σ : zmem) : Nat → Int64 → Int32 → Option (Int64)
  | 0, _, _ => none
  | n + 1, v1, v3 => (if (4 : Int32) ≤ v3 then some v1 else (m_X1_at fu σ 6 v3).bind fun x6 => (m_X10_fold fu σ v1 (x6.toInt64)).bind fun x7 => l_X10_digest_35 fu σ n x7 (v3 + 1))
set_option maxHeartbeats 4000000 in
set_option maxRecDepth 100000 in
theorem k_X10_digest_35 {l : Launch} {g : zgeo} {fu : Nat} {p : Program} {e : Env} {s : State} {m : MethodId} {args : Array Value} {below : List Frame} {meth : Method} {c : Code} (M : zMC RX10 cX10_digest 4 (some .long) g p m c s args meth) {σ : zmem} {Q : State → Prop} : ∀ (n : Nat) (v1 : Int64) (v3 : Int32) (o : Int64), l_X10_digest_35 fu σ n v1 v3 = some o → ∀ (ls : Array Slot) (H : Heap) (locs : List Loc), lv_has ls 4 [(0, .ref (zA g 0)), (1, .long v1), (3, .int v3)] → zIV g σ (zAA g) s.heap H locs → (∀ (ls : Array Slot) (H : Heap) (locs : List Loc), lv_has ls 4 [(0, .ref (zA g 0)), (1, .long o)] → zIV g σ (zAA g) s.heap H locs → W p l e (zrm 6 157) s m args below meth c H locs 0 0 Q (F0 m 63 ls [])) → W p l e (zrm 6 157) s m args below meth c H locs 0 0 Q (F0 m 35 ls []) := by
  have hx := M.1.1
  have hb := M.1.2.1
  intro n
  induction n with
  | zero =>
    intro v1 v3 o hr ls H locs hl I KF
    have hr : (none : Option (Int64)) = some o := hr
    cases hr
  | succ n ih =>
    intro v1 v3 o hr ls H locs hl I KF
    rw [l_X10_digest_35] at hr
    refine lv_iload_n hx hb dX10_digest_35 rfl (lv_at hl 2 rfl) ?_
    refine lv_iconst (v := (4 : Int32)) hx hb dX10_digest_36 (by decide) ?_
    refine lv_icmp_ge (tgt := 63) hx hb dX10_digest_37 (by decide) (fun c8 => ?_) (fun c8 => ?_)
    · replace hr := zif_t hr c8
      obtain rfl := Option.some.inj hr
      exact KF ls _ _ (lv_sub hl [0, 1] rfl) I
    · replace hr := zif_f hr c8
      refine lv_lload_n hx hb dX10_digest_40 rfl (lv_at hl 1 rfl) ?_
      refine lv_aload_n hx hb dX10_digest_41 rfl (lv_at hl 0 rfl) ?_
      refine zgetR (j := 1) M I zc_0 zfl_X10_10 dX10_digest_42 rfl ?_
      refine zgetR (j := 6) M I zc_1 zfl_X10_161 dX10_digest_45 rfl ?_
      refine lv_iload_n hx hb dX10_digest_48 rfl (lv_at hl 2 rfl) ?_
      obtain ⟨x6, e_x6, hr⟩ := zb_some hr
      refine zcallI M I (zrunV (as := [.int v3]) M I (c_X1_at l g fu zc_6 e_x6) zc_6 zK1.1 (by decide) zlv_X10_165 ⟨Nat.le_of_ble_eq_true rfl, Nat.le_of_ble_eq_true rfl⟩ ⟨Nat.zero_le _, Nat.zero_le _⟩ rfl rfl (Nat.le_of_ble_eq_true rfl) hl.1 dX10_digest_49) (fun H locs I => ?_)
      refine lv_i2l (v := (x6.toInt64)) hx hb dX10_digest_52 rfl ?_
      obtain ⟨x7, e_x7, hr⟩ := zb_some hr
      refine zcallL M I (zrunS (as := [.long v1, .long (x6.toInt64)]) M I (c_X10_fold l g fu e_x7) zls_X10_268 ⟨Nat.le_of_ble_eq_true rfl, Nat.le_of_ble_eq_true rfl⟩ ⟨Nat.zero_le _, Nat.zero_le _⟩ rfl rfl (Nat.le_of_ble_eq_true rfl) hl.1 dX10_digest_53) (fun H locs I => ?_)
      refine lv_lstore_n (lv' := [(1, .long x7), (0, .ref (zA g 0)), (3, .int v3)]) hx hb dX10_digest_56 rfl hl (by decide) rfl (fun ls hl => ?_)
      refine lv_iinc (lv' := [(3, .int (v3 + 1)), (1, .long x7), (0, .ref (zA g 0))]) (k := 2) (v := (v3 + 1)) hx hb dX10_digest_57 hl rfl (zi_1 _) (by decide) rfl (fun ls hl => ?_)
      refine lv_goto (tgt := 35) hx hb dX10_digest_60 (by decide) ?_
      exact ih _ _  _ hr ls _ _ (lv_sub hl [2, 1, 0] rfl) I KF
def m_X10_digest (fu : Nat) (σ : zmem) : Option (Int64 × zmem) := (m_X10_refresh fu σ).bind fun x1 => (l_X10_digest_10 fu fu (2609 : Int64) (0 : Int32) x1).bind fun x5 => (l_X10_digest_35 fu x5.2 fu x5.1 (0 : Int32)).bind fun x9 => (m_X10_foldRow fu x5.2 x9 (0 : Int32)).bind fun x10 => (m_X10_foldRow fu x5.2 x10 (1 : Int32)).bind fun x11 => (m_X10_foldAnchors fu x5.2 x11).bind fun x12 => (m_X10_foldGaps fu x5.2 x12).bind fun x13 => (m_X10_costWithSetting fu x5.2 (0 : Int32) (2 : Int32)).bind fun x14 => (m_X10_fold fu x14.2 x13 (x14.1.toInt64)).bind fun x15 => (m_X10_costWithSetting fu x14.2 (3 : Int32) (0 : Int32)).bind fun x16 => (m_X10_fold fu x16.2 x15 (x16.1.toInt64)).bind fun x17 => (m_X6_has fu x16.2 2 (0 : Int32)).bind fun x18 => ((if x18 = 0 then some (x17, x16.2) else (m_X10_costWithSign fu x16.2 (0 : Int32) (0 : Int32) (0 : Int32)).bind fun x26 => (m_X10_fold fu x26.2 x17 (x26.1.toInt64)).bind fun x27 => some (x27, x26.2)) : Option (Int64 × zmem)).bind fun x19 => (m_X10_bestWordLength fu x19.2).bind fun x20 => (m_X10_fold fu x20.2 x19.1 (x20.1.toInt64)).bind fun x21 => (m_X10_shareOfLikeSigns fu x20.2).bind fun x22 => (m_X10_bitsOfShare fu x20.2 x22).bind fun x23 => (m_X10_fold fu x20.2 x21 x23).bind fun x24 => (m_X10_foldText fu x20.2 x24).bind fun x25 => some (x25, x20.2)
set_option maxHeartbeats 4000000 in
set_option maxRecDepth 100000 in
theorem c_X10_digest (l : Launch) (g : zgeo) (fu : Nat) {σ : zmem} {r : Int64 × zmem} (hr : m_X10_digest fu σ = some r) : zCt (zQL g r.1 r.2) l g yX10_digest cX10_digest 4 (some .long) 6 157 [.ref (zA g 0)] σ := by
  refine zopen (by decide) (Nat.le_of_ble_eq_true rfl) ?_
  intro p e s m below meth c M ls hl I
  have M : zMC RX10 cX10_digest 4 (some .long) g p m c s ([.ref (zA g 0)] : List Value).toArray meth := M
  have hl : lv_has ls 4 [(0, .ref (zA g 0))] := hl
  generalize ([.ref (zA g 0)] : List Value).toArray = args at M ⊢
  have hx := M.1.1
  have hb := M.1.2.1
  unfold m_X10_digest at hr
  refine lv_aload_n hx hb dX10_digest_0 rfl (lv_at hl 0 rfl) ?_
  obtain ⟨x1, e_x1, hr⟩ := zb_some hr
  refine zcallU M I (zrunV (as := []) M I (c_X10_refresh l g fu e_x1) zc_0 zK10.1 (by decide) zlv_X10_138 ⟨Nat.le_of_ble_eq_true rfl, Nat.le_of_ble_eq_true rfl⟩ ⟨Nat.zero_le _, Nat.zero_le _⟩ rfl rfl (Nat.le_of_ble_eq_true rfl) hl.1 dX10_digest_1) (fun H locs I => ?_)
  refine lv_ldc2 (own := RX10) (v := 2609) hx hb M.1.2.2.2.1 (M.1.2.2.2.2 _ (zin (i := 618) (by decide +kernel) rfl)) dX10_digest_4 ?_
  refine lv_lstore_n (lv' := [(1, .long (2609 : Int64)), (0, .ref (zA g 0))]) hx hb dX10_digest_7 rfl hl (by decide) rfl (fun ls hl => ?_)
  refine lv_iconst (v := (0 : Int32)) hx hb dX10_digest_8 (by decide) ?_
  refine lv_istore_n (lv' := [(3, .int (0 : Int32)), (1, .long (2609 : Int64)), (0, .ref (zA g 0))]) hx hb dX10_digest_9 rfl hl (by decide) rfl (fun ls hl => ?_)
  obtain ⟨x5, e_x5, hr⟩ := zb_some hr
  refine k_X10_digest_10 M  fu _ _ _  _ e_x5 ls _ _ (lv_sub hl [2, 1, 0] rfl) I (fun ls H locs hl I => ?_)
  refine lv_iconst (v := (0 : Int32)) hx hb dX10_digest_33 (by decide) ?_
  refine lv_istore_n (lv' := [(3, .int (0 : Int32)), (0, .ref (zA g 0)), (1, .long x5.1)]) hx hb dX10_digest_34 rfl hl (by decide) rfl (fun ls hl => ?_)
  obtain ⟨x9, e_x9, hr⟩ := zb_some hr
  refine k_X10_digest_35 M  fu _ _  _ e_x9 ls _ _ (lv_sub hl [1, 2, 0] rfl) I (fun ls H locs hl I => ?_)
  refine lv_aload_n hx hb dX10_digest_63 rfl (lv_at hl 0 rfl) ?_
  refine lv_lload_n hx hb dX10_digest_64 rfl (lv_at hl 1 rfl) ?_
  refine lv_iconst (v := (0 : Int32)) hx hb dX10_digest_65 (by decide) ?_
  obtain ⟨x10, e_x10, hr⟩ := zb_some hr
  refine zcallL M I (zrunV (as := [.long x9, .int (0 : Int32)]) M I (c_X10_foldRow l g fu e_x10) zc_0 zK10.1 (by decide) zlv_X10_272 ⟨Nat.le_of_ble_eq_true rfl, Nat.le_of_ble_eq_true rfl⟩ ⟨Nat.zero_le _, Nat.zero_le _⟩ rfl rfl (Nat.le_of_ble_eq_true rfl) hl.1 dX10_digest_66) (fun H locs I => ?_)
  refine lv_lstore_n (lv' := [(1, .long x10), (0, .ref (zA g 0))]) hx hb dX10_digest_69 rfl hl (by decide) rfl (fun ls hl => ?_)
  refine lv_aload_n hx hb dX10_digest_70 rfl (lv_at hl 1 rfl) ?_
  refine lv_lload_n hx hb dX10_digest_71 rfl (lv_at hl 0 rfl) ?_
  refine lv_iconst (v := (1 : Int32)) hx hb dX10_digest_72 (by decide) ?_
  obtain ⟨x11, e_x11, hr⟩ := zb_some hr
  refine zcallL M I (zrunV (as := [.long x10, .int (1 : Int32)]) M I (c_X10_foldRow l g fu e_x11) zc_0 zK10.1 (by decide) zlv_X10_272 ⟨Nat.le_of_ble_eq_true rfl, Nat.le_of_ble_eq_true rfl⟩ ⟨Nat.zero_le _, Nat.zero_le _⟩ rfl rfl (Nat.le_of_ble_eq_true rfl) hl.1 dX10_digest_73) (fun H locs I => ?_)
  refine lv_lstore_n (lv' := [(1, .long x11), (0, .ref (zA g 0))]) hx hb dX10_digest_76 rfl hl (by decide) rfl (fun ls hl => ?_)
  refine lv_aload_n hx hb dX10_digest_77 rfl (lv_at hl 1 rfl) ?_
  refine lv_lload_n hx hb dX10_digest_78 rfl (lv_at hl 0 rfl) ?_
  obtain ⟨x12, e_x12, hr⟩ := zb_some hr
  refine zcallL M I (zrunV (as := [.long x11]) M I (c_X10_foldAnchors l g fu e_x12) zc_0 zK10.1 (by decide) zlv_X10_276 ⟨Nat.le_of_ble_eq_true rfl, Nat.le_of_ble_eq_true rfl⟩ ⟨Nat.zero_le _, Nat.zero_le _⟩ rfl rfl (Nat.le_of_ble_eq_true rfl) hl.1 dX10_digest_79) (fun H locs I => ?_)
  refine lv_lstore_n (lv' := [(1, .long x12), (0, .ref (zA g 0))]) hx hb dX10_digest_82 rfl hl (by decide) rfl (fun ls hl => ?_)
  refine lv_aload_n hx hb dX10_digest_83 rfl (lv_at hl 1 rfl) ?_
  refine lv_lload_n hx hb dX10_digest_84 rfl (lv_at hl 0 rfl) ?_
  obtain ⟨x13, e_x13, hr⟩ := zb_some hr
  refine zcallL M I (zrunV (as := [.long x12]) M I (c_X10_foldGaps l g fu e_x13) zc_0 zK10.1 (by decide) zlv_X10_280 ⟨Nat.le_of_ble_eq_true rfl, Nat.le_of_ble_eq_true rfl⟩ ⟨Nat.zero_le _, Nat.zero_le _⟩ rfl rfl (Nat.le_of_ble_eq_true rfl) hl.1 dX10_digest_85) (fun H locs I => ?_)
  refine lv_lstore_n (lv' := [(1, .long x13), (0, .ref (zA g 0))]) hx hb dX10_digest_88 rfl hl (by decide) rfl (fun ls hl => ?_)
  refine lv_lload_n hx hb dX10_digest_89 rfl (lv_at hl 0 rfl) ?_
  refine lv_aload_n hx hb dX10_digest_90 rfl (lv_at hl 1 rfl) ?_
  refine lv_iconst (v := (0 : Int32)) hx hb dX10_digest_91 (by decide) ?_
  refine lv_iconst (v := (2 : Int32)) hx hb dX10_digest_92 (by decide) ?_
  obtain ⟨x14, e_x14, hr⟩ := zb_some hr
  refine zcallI M I (zrunV (as := [.int (0 : Int32), .int (2 : Int32)]) M I (c_X10_costWithSetting l g fu e_x14) zc_0 zK10.1 (by decide) zlv_X10_252 ⟨Nat.le_of_ble_eq_true rfl, Nat.le_of_ble_eq_true rfl⟩ ⟨Nat.zero_le _, Nat.zero_le _⟩ rfl rfl (Nat.le_of_ble_eq_true rfl) hl.1 dX10_digest_93) (fun H locs I => ?_)
  refine lv_i2l (v := (x14.1.toInt64)) hx hb dX10_digest_96 rfl ?_
  obtain ⟨x15, e_x15, hr⟩ := zb_some hr
  refine zcallL M I (zrunS (as := [.long x13, .long (x14.1.toInt64)]) M I (c_X10_fold l g fu e_x15) zls_X10_268 ⟨Nat.le_of_ble_eq_true rfl, Nat.le_of_ble_eq_true rfl⟩ ⟨Nat.zero_le _, Nat.zero_le _⟩ rfl rfl (Nat.le_of_ble_eq_true rfl) hl.1 dX10_digest_97) (fun H locs I => ?_)
  refine lv_lstore_n (lv' := [(1, .long x15), (0, .ref (zA g 0))]) hx hb dX10_digest_100 rfl hl (by decide) rfl (fun ls hl => ?_)
  refine lv_lload_n hx hb dX10_digest_101 rfl (lv_at hl 0 rfl) ?_
  refine lv_aload_n hx hb dX10_digest_102 rfl (lv_at hl 1 rfl) ?_
  refine lv_iconst (v := (3 : Int32)) hx hb dX10_digest_103 (by decide) ?_
  refine lv_iconst (v := (0 : Int32)) hx hb dX10_digest_104 (by decide) ?_
  obtain ⟨x16, e_x16, hr⟩ := zb_some hr
  refine zcallI M I (zrunV (as := [.int (3 : Int32), .int (0 : Int32)]) M I (c_X10_costWithSetting l g fu e_x16) zc_0 zK10.1 (by decide) zlv_X10_252 ⟨Nat.le_of_ble_eq_true rfl, Nat.le_of_ble_eq_true rfl⟩ ⟨Nat.zero_le _, Nat.zero_le _⟩ rfl rfl (Nat.le_of_ble_eq_true rfl) hl.1 dX10_digest_105) (fun H locs I => ?_)
  refine lv_i2l (v := (x16.1.toInt64)) hx hb dX10_digest_108 rfl ?_
  obtain ⟨x17, e_x17, hr⟩ := zb_some hr
  refine zcallL M I (zrunS (as := [.long x15, .long (x16.1.toInt64)]) M I (c_X10_fold l g fu e_x17) zls_X10_268 ⟨Nat.le_of_ble_eq_true rfl, Nat.le_of_ble_eq_true rfl⟩ ⟨Nat.zero_le _, Nat.zero_le _⟩ rfl rfl (Nat.le_of_ble_eq_true rfl) hl.1 dX10_digest_109) (fun H locs I => ?_)
  refine lv_lstore_n (lv' := [(1, .long x17), (0, .ref (zA g 0))]) hx hb dX10_digest_112 rfl hl (by decide) rfl (fun ls hl => ?_)
  refine lv_aload_n hx hb dX10_digest_113 rfl (lv_at hl 1 rfl) ?_
  refine zgetR (j := 1) M I zc_0 zfl_X10_10 dX10_digest_114 rfl ?_
  refine zgetR (j := 2) M I zc_1 zfl_X10_283 dX10_digest_117 rfl ?_
  refine lv_iconst (v := (0 : Int32)) hx hb dX10_digest_120 (by decide) ?_
  obtain ⟨x18, e_x18, hr⟩ := zb_some hr
  refine zcallI M I (zrunV (as := [.int (0 : Int32)]) M I (c_X6_has l g fu zc_2 e_x18) zc_2 zK6.1 (by decide) zlv_X10_287 ⟨Nat.le_of_ble_eq_true rfl, Nat.le_of_ble_eq_true rfl⟩ ⟨Nat.zero_le _, Nat.zero_le _⟩ rfl rfl (Nat.le_of_ble_eq_true rfl) hl.1 dX10_digest_121) (fun H locs I => ?_)
  obtain ⟨x19, e_x19, hr⟩ := zb_some hr
  have K_x19 : ∀ (ls : Array Slot) (H : Heap) (locs : List Loc), lv_has ls 4 [(0, .ref (zA g 0)), (1, .long x19.1)] → zIV g x19.2 (zAA g) s.heap H locs → W p l e (zrm 6 157) s m args below meth c H locs 0 0 (MQ below (zQL g r.1 r.2) args s 0 0 (zAA g)) (F0 m 140 ls []) := by
    intro ls H locs hl I
    refine lv_lload_n hx hb dX10_digest_140 rfl (lv_at hl 1 rfl) ?_
    refine lv_aload_n hx hb dX10_digest_141 rfl (lv_at hl 0 rfl) ?_
    obtain ⟨x20, e_x20, hr⟩ := zb_some hr
    refine zcallI M I (zrunV (as := []) M I (c_X10_bestWordLength l g fu e_x20) zc_0 zK10.1 (by decide) zlv_X10_259 ⟨Nat.le_of_ble_eq_true rfl, Nat.le_of_ble_eq_true rfl⟩ ⟨Nat.zero_le _, Nat.zero_le _⟩ rfl rfl (Nat.le_of_ble_eq_true rfl) hl.1 dX10_digest_142) (fun H locs I => ?_)
    refine lv_i2l (v := (x20.1.toInt64)) hx hb dX10_digest_145 rfl ?_
    obtain ⟨x21, e_x21, hr⟩ := zb_some hr
    refine zcallL M I (zrunS (as := [.long x19.1, .long (x20.1.toInt64)]) M I (c_X10_fold l g fu e_x21) zls_X10_268 ⟨Nat.le_of_ble_eq_true rfl, Nat.le_of_ble_eq_true rfl⟩ ⟨Nat.zero_le _, Nat.zero_le _⟩ rfl rfl (Nat.le_of_ble_eq_true rfl) hl.1 dX10_digest_146) (fun H locs I => ?_)
    refine lv_lstore_n (lv' := [(1, .long x21), (0, .ref (zA g 0))]) hx hb dX10_digest_149 rfl hl (by decide) rfl (fun ls hl => ?_)
    refine lv_lload_n hx hb dX10_digest_150 rfl (lv_at hl 0 rfl) ?_
    refine lv_aload_n hx hb dX10_digest_151 rfl (lv_at hl 1 rfl) ?_
    obtain ⟨x22, e_x22, hr⟩ := zb_some hr
    refine zcallD M I (zrunV (as := []) M I (c_X10_shareOfLikeSigns l g fu e_x22) zc_0 zK10.1 (by decide) zlv_X10_262 ⟨Nat.le_of_ble_eq_true rfl, Nat.le_of_ble_eq_true rfl⟩ ⟨Nat.zero_le _, Nat.zero_le _⟩ rfl rfl (Nat.le_of_ble_eq_true rfl) hl.1 dX10_digest_152) (fun H locs I => ?_)
    obtain ⟨x23, e_x23, hr⟩ := zb_some hr
    refine zcallL M I (zrunS (as := [.double x22]) M I (c_X10_bitsOfShare l g fu e_x23) zls_X10_290 ⟨Nat.le_of_ble_eq_true rfl, Nat.le_of_ble_eq_true rfl⟩ ⟨Nat.zero_le _, Nat.zero_le _⟩ rfl rfl (Nat.le_of_ble_eq_true rfl) hl.1 dX10_digest_155) (fun H locs I => ?_)
    obtain ⟨x24, e_x24, hr⟩ := zb_some hr
    refine zcallL M I (zrunS (as := [.long x21, .long x23]) M I (c_X10_fold l g fu e_x24) zls_X10_268 ⟨Nat.le_of_ble_eq_true rfl, Nat.le_of_ble_eq_true rfl⟩ ⟨Nat.zero_le _, Nat.zero_le _⟩ rfl rfl (Nat.le_of_ble_eq_true rfl) hl.1 dX10_digest_158) (fun H locs I => ?_)
    refine lv_lstore_n (lv' := [(1, .long x24), (0, .ref (zA g 0))]) hx hb dX10_digest_161 rfl hl (by decide) rfl (fun ls hl => ?_)
    refine lv_aload_n hx hb dX10_digest_162 rfl (lv_at hl 1 rfl) ?_
    refine lv_lload_n hx hb dX10_digest_163 rfl (lv_at hl 0 rfl) ?_
    obtain ⟨x25, e_x25, hr⟩ := zb_some hr
    refine zcallL M I (zrunV (as := [.long x24]) M I (c_X10_foldText l g fu e_x25) zc_0 zK10.1 (by decide) zlv_X10_294 ⟨Nat.le_of_ble_eq_true rfl, Nat.le_of_ble_eq_true rfl⟩ ⟨Nat.zero_le _, Nat.zero_le _⟩ rfl rfl (Nat.le_of_ble_eq_true rfl) hl.1 dX10_digest_164) (fun H locs I => ?_)
    obtain rfl := Option.some.inj hr
    exact zretL M I dX10_digest_167
  refine lv_if_eq (tgt := 140) hx hb dX10_digest_124 (by decide) (fun c28 => ?_) (fun c28 => ?_)
  · replace e_x19 := zif_t e_x19 c28
    obtain rfl := Option.some.inj e_x19
    exact K_x19 ls _ _ (lv_sub hl [1, 0] rfl) I
  · replace e_x19 := zif_f e_x19 c28
    refine lv_lload_n hx hb dX10_digest_127 rfl (lv_at hl 0 rfl) ?_
    refine lv_aload_n hx hb dX10_digest_128 rfl (lv_at hl 1 rfl) ?_
    refine lv_iconst (v := (0 : Int32)) hx hb dX10_digest_129 (by decide) ?_
    refine lv_iconst (v := (0 : Int32)) hx hb dX10_digest_130 (by decide) ?_
    refine lv_iconst (v := (0 : Int32)) hx hb dX10_digest_131 (by decide) ?_
    obtain ⟨x26, e_x26, e_x19⟩ := zb_some e_x19
    refine zcallI M I (zrunV (as := [.int (0 : Int32), .int (0 : Int32), .int (0 : Int32)]) M I (c_X10_costWithSign l g fu e_x26) zc_0 zK10.1 (by decide) zlv_X10_255 ⟨Nat.le_of_ble_eq_true rfl, Nat.le_of_ble_eq_true rfl⟩ ⟨Nat.zero_le _, Nat.zero_le _⟩ rfl rfl (Nat.le_of_ble_eq_true rfl) hl.1 dX10_digest_132) (fun H locs I => ?_)
    refine lv_i2l (v := (x26.1.toInt64)) hx hb dX10_digest_135 rfl ?_
    obtain ⟨x27, e_x27, e_x19⟩ := zb_some e_x19
    refine zcallL M I (zrunS (as := [.long x17, .long (x26.1.toInt64)]) M I (c_X10_fold l g fu e_x27) zls_X10_268 ⟨Nat.le_of_ble_eq_true rfl, Nat.le_of_ble_eq_true rfl⟩ ⟨Nat.zero_le _, Nat.zero_le _⟩ rfl rfl (Nat.le_of_ble_eq_true rfl) hl.1 dX10_digest_136) (fun H locs I => ?_)
    refine lv_lstore_n (lv' := [(1, .long x27), (0, .ref (zA g 0))]) hx hb dX10_digest_139 rfl hl (by decide) rfl (fun ls hl => ?_)
    obtain rfl := Option.some.inj e_x19
    exact K_x19 ls _ _ (lv_sub hl [1, 0] rfl) I
