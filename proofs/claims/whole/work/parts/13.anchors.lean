def l_X0_times_5 (fu : Nat) (σ : zmem) (i0 : Nat) (a1 : Int32) (a2 : Int32) : Nat → Int32 → Int32 → Option (Int32)
  | 0, _, _ => none
  | n + 1, v3, v4 => (if a1 ≤ v4 then some v3 else (m_X1_at fu σ i0 v4).bind fun x1 => ((if ¬ x1 = a2 then some v3 else some (v3 + 1)) : Option (Int32)).bind fun x2 => l_X0_times_5 fu σ i0 a1 a2 n x2 (v4 + 1))
set_option maxHeartbeats 4000000 in
set_option maxRecDepth 100000 in
theorem k_X0_times_5 {l : Launch} {g : zgeo} {fu : Nat} {p : Program} {e : Env} {s : State} {m : MethodId} {args : Array Value} {below : List Frame} {meth : Method} {c : Code} (M : zMC RX0 cX0_times 5 (some .int) g p m c s args meth) {σ : zmem} {i0 : Nat} {a1 : Int32} {a2 : Int32} (h0 : zkd i0 = (1, 0)) {Q : State → Prop} : ∀ (n : Nat) (v3 : Int32) (v4 : Int32) (o : Int32), l_X0_times_5 fu σ i0 a1 a2 n v3 v4 = some o → ∀ (ls : Array Slot) (H : Heap) (locs : List Loc), lv_has ls 5 [(0, .ref (zA g i0)), (1, .int a1), (2, .int a2), (3, .int v3), (4, .int v4)] → zIV g σ (zAA g) s.heap H locs → (∀ (ls : Array Slot) (H : Heap) (locs : List Loc), lv_has ls 5 [(3, .int o)] → zIV g σ (zAA g) s.heap H locs → W p l e (zrm 1 21) s m args below meth c H locs 0 0 Q (F0 m 30 ls [])) → W p l e (zrm 1 21) s m args below meth c H locs 0 0 Q (F0 m 5 ls []) := by
  have hx := M.1.1
  have hb := M.1.2.1
  intro n
  induction n with
  | zero =>
    intro v3 v4 o hr ls H locs hl I KF
    have hr : (none : Option (Int32)) = some o := hr
    cases hr
  | succ n ih =>
    intro v3 v4 o hr ls H locs hl I KF
    rw [l_X0_times_5] at hr
    refine lv_iload hx hb dX0_times_5 (lv_at hl 4 rfl) ?_
    refine lv_iload_n hx hb dX0_times_7 rfl (lv_at hl 1 rfl) ?_
    refine lv_icmp_ge (tgt := 30) hx hb dX0_times_8 (by decide) (fun c4 => ?_) (fun c4 => ?_)
    · replace hr := zif_t hr c4
      obtain rfl := Option.some.inj hr
      exact KF ls _ _ (lv_sub hl [3] rfl) I
    · replace hr := zif_f hr c4
      refine lv_aload_n hx hb dX0_times_11 rfl (lv_at hl 0 rfl) ?_
      refine lv_iload hx hb dX0_times_12 (lv_at hl 4 rfl) ?_
      obtain ⟨x1, e_x1, hr⟩ := zb_some hr
      refine zcallI M I (zrunV (as := [.int v4]) M I (c_X1_at l g fu h0 e_x1) h0 zK1.1 (by decide) zlv_X0_41 ⟨Nat.le_of_ble_eq_true rfl, Nat.le_of_ble_eq_true rfl⟩ ⟨Nat.zero_le _, Nat.zero_le _⟩ rfl rfl (Nat.le_of_ble_eq_true rfl) hl.1 dX0_times_14) (fun H locs I => ?_)
      refine lv_iload_n hx hb dX0_times_17 rfl (lv_at hl 2 rfl) ?_
      obtain ⟨x2, e_x2, hr⟩ := zb_some hr
      have K_x2 : ∀ (ls : Array Slot) (H : Heap) (locs : List Loc), lv_has ls 5 [(0, .ref (zA g i0)), (1, .int a1), (2, .int a2), (3, .int x2), (4, .int v4)] → zIV g σ (zAA g) s.heap H locs → W p l e (zrm 1 21) s m args below meth c H locs 0 0 Q (F0 m 24 ls []) := by
        intro ls H locs hl I
        refine lv_iinc (lv' := [(4, .int (v4 + 1)), (0, .ref (zA g i0)), (1, .int a1), (2, .int a2), (3, .int x2)]) (k := 4) (v := (v4 + 1)) hx hb dX0_times_24 hl rfl (zi_1 _) (by decide) rfl (fun ls hl => ?_)
        refine lv_goto (tgt := 5) hx hb dX0_times_27 (by decide) ?_
        exact ih _ _  _ hr ls _ _ (lv_sub hl [1, 2, 3, 4, 0] rfl) I KF
      refine lv_icmp_ne (tgt := 24) hx hb dX0_times_18 (by decide) (fun c3 => ?_) (fun c3 => ?_)
      · replace e_x2 := zif_t e_x2 c3
        obtain rfl := Option.some.inj e_x2
        exact K_x2 ls _ _ hl I
      · replace e_x2 := zif_f e_x2 (fun hq => hq c3)
        refine lv_iinc (lv' := [(3, .int (v3 + 1)), (0, .ref (zA g i0)), (1, .int a1), (2, .int a2), (4, .int v4)]) (k := 3) (v := (v3 + 1)) hx hb dX0_times_21 hl rfl (zi_1 _) (by decide) rfl (fun ls hl => ?_)
        obtain rfl := Option.some.inj e_x2
        exact K_x2 ls _ _ (lv_sub hl [1, 2, 3, 0, 4] rfl) I
def m_X0_times (fu : Nat) (σ : zmem) (i0 : Nat) (a1 : Int32) (a2 : Int32) : Option (Int32) := (l_X0_times_5 fu σ i0 a1 a2 fu (0 : Int32) (0 : Int32)).bind fun x5 => some x5
set_option maxHeartbeats 4000000 in
set_option maxRecDepth 100000 in
theorem c_X0_times (l : Launch) (g : zgeo) (fu : Nat) {σ : zmem} {i0 : Nat} {a1 : Int32} {a2 : Int32} {r : Int32} (h0 : zkd i0 = (1, 0)) (hr : m_X0_times fu σ i0 a1 a2 = some r) : zCt (zQI g r σ) l g yX0_times cX0_times 5 (some .int) 1 21 [.ref (zA g i0), .int a1, .int a2] σ := by
  refine zopen (by decide) (Nat.le_of_ble_eq_true rfl) ?_
  intro p e s m below meth c M ls hl I
  have M : zMC RX0 cX0_times 5 (some .int) g p m c s ([.ref (zA g i0), .int a1, .int a2] : List Value).toArray meth := M
  have hl : lv_has ls 5 [(0, .ref (zA g i0)), (1, .int a1), (2, .int a2)] := hl
  generalize ([.ref (zA g i0), .int a1, .int a2] : List Value).toArray = args at M ⊢
  have hx := M.1.1
  have hb := M.1.2.1
  unfold m_X0_times at hr
  refine lv_iconst (v := (0 : Int32)) hx hb dX0_times_0 (by decide) ?_
  refine lv_istore_n (lv' := [(3, .int (0 : Int32)), (0, .ref (zA g i0)), (1, .int a1), (2, .int a2)]) hx hb dX0_times_1 rfl hl (by decide) rfl (fun ls hl => ?_)
  refine lv_iconst (v := (0 : Int32)) hx hb dX0_times_2 (by decide) ?_
  refine lv_istore (lv' := [(4, .int (0 : Int32)), (3, .int (0 : Int32)), (0, .ref (zA g i0)), (1, .int a1), (2, .int a2)]) hx hb dX0_times_3 hl (by decide) rfl (fun ls hl => ?_)
  obtain ⟨x5, e_x5, hr⟩ := zb_some hr
  refine k_X0_times_5 M h0 fu _ _  _ e_x5 ls _ _ (lv_sub hl [2, 3, 4, 1, 0] rfl) I (fun ls H locs hl I => ?_)
  refine lv_iload_n hx hb dX0_times_30 rfl (lv_at hl 0 rfl) ?_
  obtain rfl := Option.some.inj hr
  exact zretI M I dX0_times_31
def l_X0_firstPlace_2 (fu : Nat) (σ : zmem) (i0 : Nat) (a1 : Int32) (a2 : Int32) : Nat → Int32 → Option ((Int32) ⊕ (Unit))
  | 0, _ => none
  | n + 1, v3 => (if a1 ≤ v3 then some (.inr ()) else (m_X1_at fu σ i0 v3).bind fun x1 => (if ¬ x1 = a2 then l_X0_firstPlace_2 fu σ i0 a1 a2 n (v3 + 1) else some (.inl v3)))
set_option maxHeartbeats 4000000 in
set_option maxRecDepth 100000 in
theorem k_X0_firstPlace_2 {l : Launch} {g : zgeo} {fu : Nat} {p : Program} {e : Env} {s : State} {m : MethodId} {args : Array Value} {below : List Frame} {meth : Method} {c : Code} (M : zMC RX0 cX0_firstPlace 4 (some .int) g p m c s args meth) {σ : zmem} {i0 : Nat} {a1 : Int32} {a2 : Int32} (h0 : zkd i0 = (1, 0)) {r : Int32} : ∀ (n : Nat) (v3 : Int32) (o : (Int32) ⊕ (Unit)), l_X0_firstPlace_2 fu σ i0 a1 a2 n v3 = some o → ∀ (ls : Array Slot) (H : Heap) (locs : List Loc), lv_has ls 4 [(0, .ref (zA g i0)), (1, .int a1), (2, .int a2), (3, .int v3)] → zIV g σ (zAA g) s.heap H locs → (∀ q, o = .inl q → q = r) → (∀ w, o = .inr w → (∀ (ls : Array Slot) (H : Heap) (locs : List Loc), lv_has ls 4 [] → zIV g σ (zAA g) s.heap H locs → W p l e (zrm 1 21) s m args below meth c H locs 0 0 (MQ below (zQI g r σ) args s 0 0 (zAA g)) (F0 m 24 ls []))) → W p l e (zrm 1 21) s m args below meth c H locs 0 0 (MQ below (zQI g r σ) args s 0 0 (zAA g)) (F0 m 2 ls []) := by
  have hx := M.1.1
  have hb := M.1.2.1
  intro n
  induction n with
  | zero =>
    intro v3 o hr ls H locs hl I KR KF
    have hr : (none : Option ((Int32) ⊕ (Unit))) = some o := hr
    cases hr
  | succ n ih =>
    intro v3 o hr ls H locs hl I KR KF
    rw [l_X0_firstPlace_2] at hr
    refine lv_iload_n hx hb dX0_firstPlace_2 rfl (lv_at hl 3 rfl) ?_
    refine lv_iload_n hx hb dX0_firstPlace_3 rfl (lv_at hl 1 rfl) ?_
    refine lv_icmp_ge (tgt := 24) hx hb dX0_firstPlace_4 (by decide) (fun c3 => ?_) (fun c3 => ?_)
    · replace hr := zif_t hr c3
      exact KF _ (Option.some.inj hr).symm ls _ _ (lv_sub hl [] rfl) I
    · replace hr := zif_f hr c3
      refine lv_aload_n hx hb dX0_firstPlace_7 rfl (lv_at hl 0 rfl) ?_
      refine lv_iload_n hx hb dX0_firstPlace_8 rfl (lv_at hl 3 rfl) ?_
      obtain ⟨x1, e_x1, hr⟩ := zb_some hr
      refine zcallI M I (zrunV (as := [.int v3]) M I (c_X1_at l g fu h0 e_x1) h0 zK1.1 (by decide) zlv_X0_41 ⟨Nat.le_of_ble_eq_true rfl, Nat.le_of_ble_eq_true rfl⟩ ⟨Nat.zero_le _, Nat.zero_le _⟩ rfl rfl (Nat.le_of_ble_eq_true rfl) hl.1 dX0_firstPlace_9) (fun H locs I => ?_)
      refine lv_iload_n hx hb dX0_firstPlace_12 rfl (lv_at hl 2 rfl) ?_
      refine lv_icmp_ne (tgt := 18) hx hb dX0_firstPlace_13 (by decide) (fun c2 => ?_) (fun c2 => ?_)
      · replace hr := zif_t hr c2
        refine lv_iinc (lv' := [(3, .int (v3 + 1)), (0, .ref (zA g i0)), (1, .int a1), (2, .int a2)]) (k := 3) (v := (v3 + 1)) hx hb dX0_firstPlace_18 hl rfl (zi_1 _) (by decide) rfl (fun ls hl => ?_)
        refine lv_goto (tgt := 2) hx hb dX0_firstPlace_21 (by decide) ?_
        exact ih _  _ hr ls _ _ (lv_sub hl [1, 2, 3, 0] rfl) I KR KF
      · replace hr := zif_f hr (fun hq => hq c2)
        refine lv_iload_n hx hb dX0_firstPlace_16 rfl (lv_at hl 3 rfl) ?_
        obtain rfl := KR _ (Option.some.inj hr).symm
        exact zretI M I dX0_firstPlace_17
def m_X0_firstPlace (fu : Nat) (σ : zmem) (i0 : Nat) (a1 : Int32) (a2 : Int32) : Option (Int32) := (l_X0_firstPlace_2 fu σ i0 a1 a2 fu (0 : Int32)).bind fun x4 => (match x4 with | .inl q => some q | .inr w5 => some (-1 : Int32))
set_option maxHeartbeats 4000000 in
set_option maxRecDepth 100000 in
theorem c_X0_firstPlace (l : Launch) (g : zgeo) (fu : Nat) {σ : zmem} {i0 : Nat} {a1 : Int32} {a2 : Int32} {r : Int32} (h0 : zkd i0 = (1, 0)) (hr : m_X0_firstPlace fu σ i0 a1 a2 = some r) : zCt (zQI g r σ) l g yX0_firstPlace cX0_firstPlace 4 (some .int) 1 21 [.ref (zA g i0), .int a1, .int a2] σ := by
  refine zopen (by decide) (Nat.le_of_ble_eq_true rfl) ?_
  intro p e s m below meth c M ls hl I
  have M : zMC RX0 cX0_firstPlace 4 (some .int) g p m c s ([.ref (zA g i0), .int a1, .int a2] : List Value).toArray meth := M
  have hl : lv_has ls 4 [(0, .ref (zA g i0)), (1, .int a1), (2, .int a2)] := hl
  generalize ([.ref (zA g i0), .int a1, .int a2] : List Value).toArray = args at M ⊢
  have hx := M.1.1
  have hb := M.1.2.1
  unfold m_X0_firstPlace at hr
  refine lv_iconst (v := (0 : Int32)) hx hb dX0_firstPlace_0 (by decide) ?_
  refine lv_istore_n (lv' := [(3, .int (0 : Int32)), (0, .ref (zA g i0)), (1, .int a1), (2, .int a2)]) hx hb dX0_firstPlace_1 rfl hl (by decide) rfl (fun ls hl => ?_)
  obtain ⟨x4, e_x4, hr⟩ := zb_some hr
  refine k_X0_firstPlace_2 M h0 fu _  _ e_x4 ls _ _ (lv_sub hl [1, 2, 3, 0] rfl) I (fun q hq => ?_) (fun w5 hq ls H locs hl I => ?_)
  · subst hq
    exact Option.some.inj hr
  · subst hq
    dsimp only at hr
    refine lv_iconst (v := (-1 : Int32)) hx hb dX0_firstPlace_24 (by decide) ?_
    obtain rfl := Option.some.inj hr
    exact zretI M I dX0_firstPlace_25
def l_X0_find_55 (fu : Nat) (i0 : Nat) (i1 : Nat) (a2 : Int32) (a3 : Int32) (a4 : Int32) : Nat → Int32 → zmem → Option (zmem)
  | 0, _, _ => none
  | n + 1, v5, σ => (if a3 ≤ v5 then some σ else (m_X1_at fu σ (i0 + 5) v5).bind fun x4 => ((if a2 = 0 then some (0 : Int32) else (m_X6_wordAt fu σ (i1 + 1) v5 (σ.1 i0 3) (1 : Int32)).bind fun x15 => (if ¬ x4 = x15 then some (0 : Int32) else some (1 : Int32))) : Option (Int32)).bind fun x5 => ((if ¬ x5 = 0 then some σ else (m_X0_times fu σ (i0 + 5) a3 x4).bind fun x7 => (if ¬ x7 = (1 : Int32) then some σ else (m_X0_times fu σ (i0 + 7) a4 x4).bind fun x8 => (if ¬ x8 = (1 : Int32) then some σ else (m_X1_store fu σ (i0 + 1) (σ.1 i0 2) v5).bind fun x9 => (m_X0_firstPlace fu x9 (i0 + 7) a4 x4).bind fun x10 => (m_X1_store fu x9 (i0 + 3) (x9.1 i0 2) x10).bind fun x11 => some (zst x11 i0 2 ((x11.1 i0 2) + (1 : Int32)))))) : Option (zmem)).bind fun x6 => l_X0_find_55 fu i0 i1 a2 a3 a4 n (v5 + 1) x6)
set_option maxHeartbeats 4000000 in
set_option maxRecDepth 100000 in
theorem k_X0_find_55 {l : Launch} {g : zgeo} {fu : Nat} {p : Program} {e : Env} {s : State} {m : MethodId} {args : Array Value} {below : List Frame} {meth : Method} {c : Code} (M : zMC RX0 cX0_find 8 none g p m c s args meth) {i0 : Nat} {i1 : Nat} {a2 : Int32} {a3 : Int32} {a4 : Int32} (h0 : zkd i0 = (0, 0)) (h1 : zkd i1 = (7, 0)) {Q : State → Prop} : ∀ (n : Nat) (v5 : Int32) (σ : zmem) (o : zmem), l_X0_find_55 fu i0 i1 a2 a3 a4 n v5 σ = some o → ∀ (ls : Array Slot) (H : Heap) (locs : List Loc), lv_has ls 8 [(0, .ref (zA g i0)), (1, .ref (zA g i1)), (2, .int a2), (3, .int a3), (4, .int a4), (5, .int v5)] → zIV g σ (zAA g) s.heap H locs → (∀ (ls : Array Slot) (H : Heap) (locs : List Loc), lv_has ls 8 [] → zIV g o (zAA g) s.heap H locs → W p l e (zrm 3 72) s m args below meth c H locs 0 0 Q (F0 m 187 ls [])) → W p l e (zrm 3 72) s m args below meth c H locs 0 0 Q (F0 m 55 ls []) := by
  have hx := M.1.1
  have hb := M.1.2.1
  intro n
  induction n with
  | zero =>
    intro v5 σ o hr ls H locs hl I KF
    have hr : (none : Option (zmem)) = some o := hr
    cases hr
  | succ n ih =>
    intro v5 σ o hr ls H locs hl I KF
    rw [l_X0_find_55] at hr
    refine lv_iload hx hb dX0_find_55 (lv_at hl 5 rfl) ?_
    refine lv_iload_n hx hb dX0_find_57 rfl (lv_at hl 3 rfl) ?_
    refine lv_icmp_ge (tgt := 187) hx hb dX0_find_58 (by decide) (fun c18 => ?_) (fun c18 => ?_)
    · replace hr := zif_t hr c18
      obtain rfl := Option.some.inj hr
      exact KF ls _ _ (lv_sub hl [] rfl) I
    · replace hr := zif_f hr c18
      refine lv_aload_n hx hb dX0_find_61 rfl (lv_at hl 0 rfl) ?_
      refine zgetR (j := (i0 + 5)) M I h0 zfl_X0_30 dX0_find_62 rfl ?_
      refine lv_iload hx hb dX0_find_65 (lv_at hl 5 rfl) ?_
      obtain ⟨x4, e_x4, hr⟩ := zb_some hr
      refine zcallI M I (zrunV (as := [.int v5]) M I (c_X1_at l g fu (zs_0_4 h0) e_x4) (zs_0_4 h0) zK1.1 (by decide) zlv_X0_41 ⟨Nat.le_of_ble_eq_true rfl, Nat.le_of_ble_eq_true rfl⟩ ⟨Nat.zero_le _, Nat.zero_le _⟩ rfl rfl (Nat.le_of_ble_eq_true rfl) hl.1 dX0_find_67) (fun H locs I => ?_)
      refine lv_istore (lv' := [(6, .int x4), (0, .ref (zA g i0)), (1, .ref (zA g i1)), (2, .int a2), (3, .int a3), (4, .int a4), (5, .int v5)]) hx hb dX0_find_70 hl (by decide) rfl (fun ls hl => ?_)
      refine lv_iload_n hx hb dX0_find_72 rfl (lv_at hl 3 rfl) ?_
      obtain ⟨x5, e_x5, hr⟩ := zb_some hr
      have K_x5 : ∀ (ls : Array Slot) (H : Heap) (locs : List Loc), lv_has ls 8 [(0, .ref (zA g i0)), (1, .ref (zA g i1)), (2, .int a2), (3, .int a3), (4, .int a4), (5, .int v5), (6, .int x4)] → zIV g σ (zAA g) s.heap H locs → W p l e (zrm 3 72) s m args below meth c H locs 0 0 Q (F0 m 100 ls [.int x5]) := by
        intro ls H locs hl I
        refine lv_istore (lv' := [(7, .int x5), (0, .ref (zA g i0)), (1, .ref (zA g i1)), (2, .int a2), (3, .int a3), (4, .int a4), (5, .int v5), (6, .int x4)]) hx hb dX0_find_100 hl (by decide) rfl (fun ls hl => ?_)
        refine lv_iload hx hb dX0_find_102 (lv_at hl 0 rfl) ?_
        obtain ⟨x6, e_x6, hr⟩ := zb_some hr
        have K_x6 : ∀ (ls : Array Slot) (H : Heap) (locs : List Loc), lv_has ls 8 [(0, .ref (zA g i0)), (1, .ref (zA g i1)), (2, .int a2), (3, .int a3), (4, .int a4), (5, .int v5)] → zIV g x6 (zAA g) s.heap H locs → W p l e (zrm 3 72) s m args below meth c H locs 0 0 Q (F0 m 181 ls []) := by
          intro ls H locs hl I
          refine lv_iinc (lv' := [(5, .int (v5 + 1)), (0, .ref (zA g i0)), (1, .ref (zA g i1)), (2, .int a2), (3, .int a3), (4, .int a4)]) (k := 5) (v := (v5 + 1)) hx hb dX0_find_181 hl rfl (zi_1 _) (by decide) rfl (fun ls hl => ?_)
          refine lv_goto (tgt := 55) hx hb dX0_find_184 (by decide) ?_
          exact ih _ _  _ hr ls _ _ (lv_sub hl [1, 2, 3, 4, 5, 0] rfl) I KF
        refine lv_if_ne (tgt := 181) hx hb dX0_find_104 (by decide) (fun c14 => ?_) (fun c14 => ?_)
        · replace e_x6 := zif_t e_x6 c14
          obtain rfl := Option.some.inj e_x6
          exact K_x6 ls _ _ (lv_sub hl [1, 2, 3, 4, 5, 6] rfl) I
        · replace e_x6 := zif_f e_x6 (fun hq => hq c14)
          refine lv_aload_n hx hb dX0_find_107 rfl (lv_at hl 1 rfl) ?_
          refine zgetR (j := (i0 + 5)) M I h0 zfl_X0_30 dX0_find_108 rfl ?_
          refine lv_iload_n hx hb dX0_find_111 rfl (lv_at hl 4 rfl) ?_
          refine lv_iload hx hb dX0_find_112 (lv_at hl 7 rfl) ?_
          obtain ⟨x7, e_x7, e_x6⟩ := zb_some e_x6
          refine zcallI M I (zrunS (as := [.ref (zA g (i0 + 5)), .int a3, .int x4]) M I (c_X0_times l g fu (zs_0_4 h0) e_x7) zls_X0_62 ⟨Nat.le_of_ble_eq_true rfl, Nat.le_of_ble_eq_true rfl⟩ ⟨Nat.zero_le _, Nat.zero_le _⟩ rfl rfl (Nat.le_of_ble_eq_true rfl) hl.1 dX0_find_114) (fun H locs I => ?_)
          refine lv_iconst (v := (1 : Int32)) hx hb dX0_find_117 (by decide) ?_
          refine lv_icmp_ne (tgt := 181) hx hb dX0_find_118 (by decide) (fun c13 => ?_) (fun c13 => ?_)
          · replace e_x6 := zif_t e_x6 c13
            obtain rfl := Option.some.inj e_x6
            exact K_x6 ls _ _ (lv_sub hl [1, 2, 3, 4, 5, 6] rfl) I
          · replace e_x6 := zif_f e_x6 (fun hq => hq c13)
            refine lv_aload_n hx hb dX0_find_121 rfl (lv_at hl 1 rfl) ?_
            refine zgetR (j := (i0 + 7)) M I h0 zfl_X0_33 dX0_find_122 rfl ?_
            refine lv_iload hx hb dX0_find_125 (lv_at hl 5 rfl) ?_
            refine lv_iload hx hb dX0_find_127 (lv_at hl 7 rfl) ?_
            obtain ⟨x8, e_x8, e_x6⟩ := zb_some e_x6
            refine zcallI M I (zrunS (as := [.ref (zA g (i0 + 7)), .int a4, .int x4]) M I (c_X0_times l g fu (zs_0_5 h0) e_x8) zls_X0_62 ⟨Nat.le_of_ble_eq_true rfl, Nat.le_of_ble_eq_true rfl⟩ ⟨Nat.zero_le _, Nat.zero_le _⟩ rfl rfl (Nat.le_of_ble_eq_true rfl) hl.1 dX0_find_129) (fun H locs I => ?_)
            refine lv_iconst (v := (1 : Int32)) hx hb dX0_find_132 (by decide) ?_
            refine lv_icmp_ne (tgt := 181) hx hb dX0_find_133 (by decide) (fun c12 => ?_) (fun c12 => ?_)
            · replace e_x6 := zif_t e_x6 c12
              obtain rfl := Option.some.inj e_x6
              exact K_x6 ls _ _ (lv_sub hl [1, 2, 3, 4, 5, 6] rfl) I
            · replace e_x6 := zif_f e_x6 (fun hq => hq c12)
              refine lv_aload_n hx hb dX0_find_136 rfl (lv_at hl 1 rfl) ?_
              refine zgetR (j := (i0 + 1)) M I h0 zfl_X0_14 dX0_find_137 rfl ?_
              refine lv_aload_n hx hb dX0_find_140 rfl (lv_at hl 1 rfl) ?_
              refine zgetI M I h0 zfl_X0_23 dX0_find_141 ?_
              refine lv_iload hx hb dX0_find_144 (lv_at hl 6 rfl) ?_
              obtain ⟨x9, e_x9, e_x6⟩ := zb_some e_x6
              refine zcallU M I (zrunV (as := [.int (σ.1 i0 2), .int v5]) M I (c_X1_store l g fu (zs_0_0 h0) e_x9) (zs_0_0 h0) zK1.1 (by decide) zlv_X0_66 ⟨Nat.le_of_ble_eq_true rfl, Nat.le_of_ble_eq_true rfl⟩ ⟨Nat.zero_le _, Nat.zero_le _⟩ rfl rfl (Nat.le_of_ble_eq_true rfl) hl.1 dX0_find_146) (fun H locs I => ?_)
              refine lv_aload_n hx hb dX0_find_149 rfl (lv_at hl 1 rfl) ?_
              refine zgetR (j := (i0 + 3)) M I h0 zfl_X0_20 dX0_find_150 rfl ?_
              refine lv_aload_n hx hb dX0_find_153 rfl (lv_at hl 1 rfl) ?_
              refine zgetI M I h0 zfl_X0_23 dX0_find_154 ?_
              refine lv_aload_n hx hb dX0_find_157 rfl (lv_at hl 1 rfl) ?_
              refine zgetR (j := (i0 + 7)) M I h0 zfl_X0_33 dX0_find_158 rfl ?_
              refine lv_iload hx hb dX0_find_161 (lv_at hl 5 rfl) ?_
              refine lv_iload hx hb dX0_find_163 (lv_at hl 7 rfl) ?_
              obtain ⟨x10, e_x10, e_x6⟩ := zb_some e_x6
              refine zcallI M I (zrunS (as := [.ref (zA g (i0 + 7)), .int a4, .int x4]) M I (c_X0_firstPlace l g fu (zs_0_5 h0) e_x10) zls_X0_70 ⟨Nat.le_of_ble_eq_true rfl, Nat.le_of_ble_eq_true rfl⟩ ⟨Nat.zero_le _, Nat.zero_le _⟩ rfl rfl (Nat.le_of_ble_eq_true rfl) hl.1 dX0_find_165) (fun H locs I => ?_)
              obtain ⟨x11, e_x11, e_x6⟩ := zb_some e_x6
              refine zcallU M I (zrunV (as := [.int (x9.1 i0 2), .int x10]) M I (c_X1_store l g fu (zs_0_1 h0) e_x11) (zs_0_1 h0) zK1.1 (by decide) zlv_X0_66 ⟨Nat.le_of_ble_eq_true rfl, Nat.le_of_ble_eq_true rfl⟩ ⟨Nat.zero_le _, Nat.zero_le _⟩ rfl rfl (Nat.le_of_ble_eq_true rfl) hl.1 dX0_find_168) (fun H locs I => ?_)
              refine lv_aload_n hx hb dX0_find_171 rfl (lv_at hl 1 rfl) ?_
              refine lv_dup hx hb dX0_find_172 rfl ?_
              refine zgetI M I h0 zfl_X0_23 dX0_find_173 ?_
              refine lv_iconst (v := (1 : Int32)) hx hb dX0_find_176 (by decide) ?_
              refine lv_iadd hx hb dX0_find_177 ?_
              refine zputI M I h0 zfw_X0_23 dX0_find_178 (fun H locs I => ?_)
              obtain rfl := Option.some.inj e_x6
              exact K_x6 ls _ _ (lv_sub hl [1, 2, 3, 4, 5, 6] rfl) I
      refine lv_if_eq (tgt := 99) hx hb dX0_find_73 (by decide) (fun c17 => ?_) (fun c17 => ?_)
      · replace e_x5 := zif_t e_x5 c17
        refine lv_iconst (v := (0 : Int32)) hx hb dX0_find_99 (by decide) ?_
        obtain rfl := Option.some.inj e_x5
        exact K_x5 ls _ _ (lv_sub hl [1, 2, 3, 4, 5, 6, 0] rfl) I
      · replace e_x5 := zif_f e_x5 c17
        refine lv_iload hx hb dX0_find_76 (lv_at hl 0 rfl) ?_
        refine lv_aload_n hx hb dX0_find_78 rfl (lv_at hl 2 rfl) ?_
        refine zgetR (j := (i1 + 1)) M I h1 zfl_X0_45 dX0_find_79 rfl ?_
        refine lv_iload hx hb dX0_find_82 (lv_at hl 6 rfl) ?_
        refine lv_aload_n hx hb dX0_find_84 rfl (lv_at hl 1 rfl) ?_
        refine zgetI M I h0 zfl_X0_27 dX0_find_85 ?_
        refine lv_iconst (v := (1 : Int32)) hx hb dX0_find_88 (by decide) ?_
        obtain ⟨x15, e_x15, e_x5⟩ := zb_some e_x5
        refine zcallI M I (zrunV (as := [.int v5, .int (σ.1 i0 3), .int (1 : Int32)]) M I (c_X6_wordAt l g fu (zs_7_0 h1) e_x15) (zs_7_0 h1) zK6.1 (by decide) zlv_X0_58 ⟨Nat.le_of_ble_eq_true rfl, Nat.le_of_ble_eq_true rfl⟩ ⟨Nat.zero_le _, Nat.zero_le _⟩ rfl rfl (Nat.le_of_ble_eq_true rfl) hl.1 dX0_find_89) (fun H locs I => ?_)
        refine lv_icmp_ne (tgt := 99) hx hb dX0_find_92 (by decide) (fun c16 => ?_) (fun c16 => ?_)
        · replace e_x5 := zif_t e_x5 c16
          refine lv_iconst (v := (0 : Int32)) hx hb dX0_find_99 (by decide) ?_
          obtain rfl := Option.some.inj e_x5
          exact K_x5 ls _ _ (lv_sub hl [1, 2, 3, 4, 5, 6, 0] rfl) I
        · replace e_x5 := zif_f e_x5 (fun hq => hq c16)
          refine lv_iconst (v := (1 : Int32)) hx hb dX0_find_95 (by decide) ?_
          refine lv_goto (tgt := 100) hx hb dX0_find_96 (by decide) ?_
          obtain rfl := Option.some.inj e_x5
          exact K_x5 ls _ _ (lv_sub hl [1, 2, 3, 4, 5, 6, 0] rfl) I
def m_X0_find (fu : Nat) (σ : zmem) (i0 : Nat) (i1 : Nat) (a2 : Int32) : Option (zmem) := (m_X1_at fu σ (i1 + 5) (0 : Int32)).bind fun x1 => (m_X6_listWords fu (zst σ i0 3 x1) (i1 + 1) (i0 + 5) ((zst σ i0 3 x1).1 i0 3) (0 : Int32)).bind fun x2 => (m_X6_listWords fu x2.2 (i1 + 3) (i0 + 7) (x2.2.1 i0 3) a2).bind fun x3 => (l_X0_find_55 fu i0 i1 a2 x2.1 x3.1 fu (0 : Int32) (zst x3.2 i0 2 (0 : Int32))).bind fun x19 => some x19
set_option maxHeartbeats 4000000 in
set_option maxRecDepth 100000 in
theorem c_X0_find (l : Launch) (g : zgeo) (fu : Nat) {σ : zmem} {i0 : Nat} {i1 : Nat} {a2 : Int32} {r : zmem} (h0 : zkd i0 = (0, 0)) (h1 : zkd i1 = (7, 0)) (hr : m_X0_find fu σ i0 i1 a2 = some r) : zCt (zQV g r) l g yX0_find cX0_find 8 none 3 72 [.ref (zA g i0), .ref (zA g i1), .int a2] σ := by
  refine zopen (by decide) (Nat.le_of_ble_eq_true rfl) ?_
  intro p e s m below meth c M ls hl I
  have M : zMC RX0 cX0_find 8 none g p m c s ([.ref (zA g i0), .ref (zA g i1), .int a2] : List Value).toArray meth := M
  have hl : lv_has ls 8 [(0, .ref (zA g i0)), (1, .ref (zA g i1)), (2, .int a2)] := hl
  generalize ([.ref (zA g i0), .ref (zA g i1), .int a2] : List Value).toArray = args at M ⊢
  have hx := M.1.1
  have hb := M.1.2.1
  unfold m_X0_find at hr
  refine lv_aload_n hx hb dX0_find_0 rfl (lv_at hl 0 rfl) ?_
  refine lv_aload_n hx hb dX0_find_1 rfl (lv_at hl 1 rfl) ?_
  refine zgetR (j := (i1 + 5)) M I h1 zfl_X0_36 dX0_find_2 rfl ?_
  refine lv_iconst (v := (0 : Int32)) hx hb dX0_find_5 (by decide) ?_
  obtain ⟨x1, e_x1, hr⟩ := zb_some hr
  refine zcallI M I (zrunV (as := [.int (0 : Int32)]) M I (c_X1_at l g fu (zs_7_2 h1) e_x1) (zs_7_2 h1) zK1.1 (by decide) zlv_X0_41 ⟨Nat.le_of_ble_eq_true rfl, Nat.le_of_ble_eq_true rfl⟩ ⟨Nat.zero_le _, Nat.zero_le _⟩ rfl rfl (Nat.le_of_ble_eq_true rfl) hl.1 dX0_find_6) (fun H locs I => ?_)
  refine zputI M I h0 zfw_X0_27 dX0_find_9 (fun H locs I => ?_)
  refine lv_aload_n hx hb dX0_find_12 rfl (lv_at hl 1 rfl) ?_
  refine zgetR (j := (i1 + 1)) M I h1 zfl_X0_45 dX0_find_13 rfl ?_
  refine lv_aload_n hx hb dX0_find_16 rfl (lv_at hl 0 rfl) ?_
  refine zgetR (j := (i0 + 5)) M I h0 zfl_X0_30 dX0_find_17 rfl ?_
  refine lv_aload_n hx hb dX0_find_20 rfl (lv_at hl 0 rfl) ?_
  refine zgetI M I h0 zfl_X0_27 dX0_find_21 ?_
  refine lv_iconst (v := (0 : Int32)) hx hb dX0_find_24 (by decide) ?_
  obtain ⟨x2, e_x2, hr⟩ := zb_some hr
  refine zcallI M I (zrunV (as := [.ref (zA g (i0 + 5)), .int ((zst σ i0 3 x1).1 i0 3), .int (0 : Int32)]) M I (c_X6_listWords l g fu (zs_7_0 h1) (zs_0_4 h0) e_x2) (zs_7_0 h1) zK6.1 (by decide) zlv_X0_49 ⟨Nat.le_of_ble_eq_true rfl, Nat.le_of_ble_eq_true rfl⟩ ⟨Nat.zero_le _, Nat.zero_le _⟩ rfl rfl (Nat.le_of_ble_eq_true rfl) hl.1 dX0_find_25) (fun H locs I => ?_)
  refine lv_istore_n (lv' := [(3, .int x2.1), (0, .ref (zA g i0)), (1, .ref (zA g i1)), (2, .int a2)]) hx hb dX0_find_28 rfl hl (by decide) rfl (fun ls hl => ?_)
  refine lv_aload_n hx hb dX0_find_29 rfl (lv_at hl 2 rfl) ?_
  refine zgetR (j := (i1 + 3)) M I h1 zfl_X0_55 dX0_find_30 rfl ?_
  refine lv_aload_n hx hb dX0_find_33 rfl (lv_at hl 1 rfl) ?_
  refine zgetR (j := (i0 + 7)) M I h0 zfl_X0_33 dX0_find_34 rfl ?_
  refine lv_aload_n hx hb dX0_find_37 rfl (lv_at hl 1 rfl) ?_
  refine zgetI M I h0 zfl_X0_27 dX0_find_38 ?_
  refine lv_iload_n hx hb dX0_find_41 rfl (lv_at hl 3 rfl) ?_
  obtain ⟨x3, e_x3, hr⟩ := zb_some hr
  refine zcallI M I (zrunV (as := [.ref (zA g (i0 + 7)), .int (x2.2.1 i0 3), .int a2]) M I (c_X6_listWords l g fu (zs_7_1 h1) (zs_0_5 h0) e_x3) (zs_7_1 h1) zK6.1 (by decide) zlv_X0_49 ⟨Nat.le_of_ble_eq_true rfl, Nat.le_of_ble_eq_true rfl⟩ ⟨Nat.zero_le _, Nat.zero_le _⟩ rfl rfl (Nat.le_of_ble_eq_true rfl) hl.1 dX0_find_42) (fun H locs I => ?_)
  refine lv_istore (lv' := [(4, .int x3.1), (3, .int x2.1), (0, .ref (zA g i0)), (1, .ref (zA g i1)), (2, .int a2)]) hx hb dX0_find_45 hl (by decide) rfl (fun ls hl => ?_)
  refine lv_aload_n hx hb dX0_find_47 rfl (lv_at hl 2 rfl) ?_
  refine lv_iconst (v := (0 : Int32)) hx hb dX0_find_48 (by decide) ?_
  refine zputI M I h0 zfw_X0_23 dX0_find_49 (fun H locs I => ?_)
  refine lv_iconst (v := (0 : Int32)) hx hb dX0_find_52 (by decide) ?_
  refine lv_istore (lv' := [(5, .int (0 : Int32)), (4, .int x3.1), (3, .int x2.1), (0, .ref (zA g i0)), (1, .ref (zA g i1)), (2, .int a2)]) hx hb dX0_find_53 hl (by decide) rfl (fun ls hl => ?_)
  obtain ⟨x19, e_x19, hr⟩ := zb_some hr
  refine k_X0_find_55 M h0 h1 fu _ _  _ e_x19 ls _ _ (lv_sub hl [3, 4, 5, 2, 1, 0] rfl) I (fun ls H locs hl I => ?_)
  obtain rfl := Option.some.inj hr
  exact zretV M I dX0_find_187
def m_X0_fit (fu : Nat) (σ : zmem) (i0 : Nat) (a1 : Int32) (a2 : Int32) : Option (Int32) := (m_X1_at fu σ (i0 + 1) a2).bind fun x1 => (m_X1_at fu σ (i0 + 1) a1).bind fun x2 => (m_X1_at fu σ (i0 + 3) a2).bind fun x3 => (m_X1_at fu σ (i0 + 3) a1).bind fun x4 => (if (x1 - x2) ≤ 0 then some (0 : Int32) else (if 0 < (x3 - x4) then (if (x1 - x2) = (x3 - x4) then some (1 : Int32) else (if (x1 - x2) < (σ.1 i0 3) then some (0 : Int32) else (if (x3 - x4) < (σ.1 i0 3) then some (0 : Int32) else some (1 : Int32)))) else some (0 : Int32)))
set_option maxHeartbeats 4000000 in
set_option maxRecDepth 100000 in
theorem c_X0_fit (l : Launch) (g : zgeo) (fu : Nat) {σ : zmem} {i0 : Nat} {a1 : Int32} {a2 : Int32} {r : Int32} (h0 : zkd i0 = (0, 0)) (hr : m_X0_fit fu σ i0 a1 a2 = some r) : zCt (zQI g r σ) l g yX0_fit cX0_fit 5 (some .boolean) 1 21 [.ref (zA g i0), .int a1, .int a2] σ := by
  refine zopen (by decide) (Nat.le_of_ble_eq_true rfl) ?_
  intro p e s m below meth c M ls hl I
  have M : zMC RX0 cX0_fit 5 (some .boolean) g p m c s ([.ref (zA g i0), .int a1, .int a2] : List Value).toArray meth := M
  have hl : lv_has ls 5 [(0, .ref (zA g i0)), (1, .int a1), (2, .int a2)] := hl
  generalize ([.ref (zA g i0), .int a1, .int a2] : List Value).toArray = args at M ⊢
  have hx := M.1.1
  have hb := M.1.2.1
  unfold m_X0_fit at hr
  refine lv_aload_n hx hb dX0_fit_0 rfl (lv_at hl 0 rfl) ?_
  refine zgetR (j := (i0 + 1)) M I h0 zfl_X0_14 dX0_fit_1 rfl ?_
  refine lv_iload_n hx hb dX0_fit_4 rfl (lv_at hl 2 rfl) ?_
  obtain ⟨x1, e_x1, hr⟩ := zb_some hr
  refine zcallI M I (zrunV (as := [.int a2]) M I (c_X1_at l g fu (zs_0_0 h0) e_x1) (zs_0_0 h0) zK1.1 (by decide) zlv_X0_41 ⟨Nat.le_of_ble_eq_true rfl, Nat.le_of_ble_eq_true rfl⟩ ⟨Nat.zero_le _, Nat.zero_le _⟩ rfl rfl (Nat.le_of_ble_eq_true rfl) hl.1 dX0_fit_5) (fun H locs I => ?_)
  refine lv_aload_n hx hb dX0_fit_8 rfl (lv_at hl 0 rfl) ?_
  refine zgetR (j := (i0 + 1)) M I h0 zfl_X0_14 dX0_fit_9 rfl ?_
  refine lv_iload_n hx hb dX0_fit_12 rfl (lv_at hl 1 rfl) ?_
  obtain ⟨x2, e_x2, hr⟩ := zb_some hr
  refine zcallI M I (zrunV (as := [.int a1]) M I (c_X1_at l g fu (zs_0_0 h0) e_x2) (zs_0_0 h0) zK1.1 (by decide) zlv_X0_41 ⟨Nat.le_of_ble_eq_true rfl, Nat.le_of_ble_eq_true rfl⟩ ⟨Nat.zero_le _, Nat.zero_le _⟩ rfl rfl (Nat.le_of_ble_eq_true rfl) hl.1 dX0_fit_13) (fun H locs I => ?_)
  refine lv_isub hx hb dX0_fit_16 ?_
  refine lv_istore_n (lv' := [(3, .int (x1 - x2)), (0, .ref (zA g i0)), (1, .int a1), (2, .int a2)]) hx hb dX0_fit_17 rfl hl (by decide) rfl (fun ls hl => ?_)
  refine lv_aload_n hx hb dX0_fit_18 rfl (lv_at hl 1 rfl) ?_
  refine zgetR (j := (i0 + 3)) M I h0 zfl_X0_20 dX0_fit_19 rfl ?_
  refine lv_iload_n hx hb dX0_fit_22 rfl (lv_at hl 3 rfl) ?_
  obtain ⟨x3, e_x3, hr⟩ := zb_some hr
  refine zcallI M I (zrunV (as := [.int a2]) M I (c_X1_at l g fu (zs_0_1 h0) e_x3) (zs_0_1 h0) zK1.1 (by decide) zlv_X0_41 ⟨Nat.le_of_ble_eq_true rfl, Nat.le_of_ble_eq_true rfl⟩ ⟨Nat.zero_le _, Nat.zero_le _⟩ rfl rfl (Nat.le_of_ble_eq_true rfl) hl.1 dX0_fit_23) (fun H locs I => ?_)
  refine lv_aload_n hx hb dX0_fit_26 rfl (lv_at hl 1 rfl) ?_
  refine zgetR (j := (i0 + 3)) M I h0 zfl_X0_20 dX0_fit_27 rfl ?_
  refine lv_iload_n hx hb dX0_fit_30 rfl (lv_at hl 2 rfl) ?_
  obtain ⟨x4, e_x4, hr⟩ := zb_some hr
  refine zcallI M I (zrunV (as := [.int a1]) M I (c_X1_at l g fu (zs_0_1 h0) e_x4) (zs_0_1 h0) zK1.1 (by decide) zlv_X0_41 ⟨Nat.le_of_ble_eq_true rfl, Nat.le_of_ble_eq_true rfl⟩ ⟨Nat.zero_le _, Nat.zero_le _⟩ rfl rfl (Nat.le_of_ble_eq_true rfl) hl.1 dX0_fit_31) (fun H locs I => ?_)
  refine lv_isub hx hb dX0_fit_34 ?_
  refine lv_istore (lv' := [(4, .int (x3 - x4)), (3, .int (x1 - x2)), (0, .ref (zA g i0)), (1, .int a1), (2, .int a2)]) hx hb dX0_fit_35 hl (by decide) rfl (fun ls hl => ?_)
  refine lv_iload_n hx hb dX0_fit_37 rfl (lv_at hl 1 rfl) ?_
  refine lv_if_le (tgt := 46) hx hb dX0_fit_38 (by decide) (fun c9 => ?_) (fun c9 => ?_)
  · replace hr := zif_t hr c9
    refine lv_iconst (v := (0 : Int32)) hx hb dX0_fit_46 (by decide) ?_
    obtain rfl := Option.some.inj hr
    exact zretZ M I (Or.inl rfl) dX0_fit_47
  · replace hr := zif_f hr c9
    refine lv_iload hx hb dX0_fit_41 (lv_at hl 0 rfl) ?_
    refine lv_if_gt (tgt := 48) hx hb dX0_fit_43 (by decide) (fun c8 => ?_) (fun c8 => ?_)
    · replace hr := zif_t hr c8
      refine lv_iload_n hx hb dX0_fit_48 rfl (lv_at hl 1 rfl) ?_
      refine lv_iload hx hb dX0_fit_49 (lv_at hl 0 rfl) ?_
      refine lv_icmp_eq (tgt := 71) hx hb dX0_fit_51 (by decide) (fun c7 => ?_) (fun c7 => ?_)
      · replace hr := zif_t hr c7
        refine lv_iconst (v := (1 : Int32)) hx hb dX0_fit_71 (by decide) ?_
        refine lv_goto (tgt := 76) hx hb dX0_fit_72 (by decide) ?_
        obtain rfl := Option.some.inj hr
        exact zretZ M I (Or.inr rfl) dX0_fit_76
      · replace hr := zif_f hr c7
        refine lv_iload_n hx hb dX0_fit_54 rfl (lv_at hl 1 rfl) ?_
        refine lv_aload_n hx hb dX0_fit_55 rfl (lv_at hl 2 rfl) ?_
        refine zgetI M I h0 zfl_X0_27 dX0_fit_56 ?_
        refine lv_icmp_lt (tgt := 75) hx hb dX0_fit_59 (by decide) (fun c6 => ?_) (fun c6 => ?_)
        · replace hr := zif_t hr c6
          refine lv_iconst (v := (0 : Int32)) hx hb dX0_fit_75 (by decide) ?_
          obtain rfl := Option.some.inj hr
          exact zretZ M I (Or.inl rfl) dX0_fit_76
        · replace hr := zif_f hr c6
          refine lv_iload hx hb dX0_fit_62 (lv_at hl 0 rfl) ?_
          refine lv_aload_n hx hb dX0_fit_64 rfl (lv_at hl 2 rfl) ?_
          refine zgetI M I h0 zfl_X0_27 dX0_fit_65 ?_
          refine lv_icmp_lt (tgt := 75) hx hb dX0_fit_68 (by decide) (fun c5 => ?_) (fun c5 => ?_)
          · replace hr := zif_t hr c5
            refine lv_iconst (v := (0 : Int32)) hx hb dX0_fit_75 (by decide) ?_
            obtain rfl := Option.some.inj hr
            exact zretZ M I (Or.inl rfl) dX0_fit_76
          · replace hr := zif_f hr c5
            refine lv_iconst (v := (1 : Int32)) hx hb dX0_fit_71 (by decide) ?_
            refine lv_goto (tgt := 76) hx hb dX0_fit_72 (by decide) ?_
            obtain rfl := Option.some.inj hr
            exact zretZ M I (Or.inr rfl) dX0_fit_76
    · replace hr := zif_f hr c8
      refine lv_iconst (v := (0 : Int32)) hx hb dX0_fit_46 (by decide) ?_
      obtain rfl := Option.some.inj hr
      exact zretZ M I (Or.inl rfl) dX0_fit_47
def l_X2_countUpTo_15 (fu : Nat) (σ : zmem) (i0 : Nat) (i1 : Nat) (a2 : Int32) : Nat → Int32 → Int32 → Option (Int32)
  | 0, _, _ => none
  | n + 1, v3, v4 => (if a2 ≤ v4 then some v3 else (m_X0_fit fu σ i1 v4 a2).bind fun x1 => ((if x1 = 0 then some v3 else (m_X1_at fu σ (i0 + 5) v4).bind fun x3 => some (zmax v3 x3)) : Option (Int32)).bind fun x2 => l_X2_countUpTo_15 fu σ i0 i1 a2 n x2 (v4 + 1))
set_option maxHeartbeats 4000000 in
set_option maxRecDepth 100000 in
theorem k_X2_countUpTo_15 {l : Launch} {g : zgeo} {fu : Nat} {p : Program} {e : Env} {s : State} {m : MethodId} {args : Array Value} {below : List Frame} {meth : Method} {c : Code} (M : zMC RX2 cX2_countUpTo 5 none g p m c s args meth) {σ : zmem} {i0 : Nat} {i1 : Nat} {a2 : Int32} (h0 : zkd i0 = (2, 0)) (h1 : zkd i1 = (0, 0)) {Q : State → Prop} : ∀ (n : Nat) (v3 : Int32) (v4 : Int32) (o : Int32), l_X2_countUpTo_15 fu σ i0 i1 a2 n v3 v4 = some o → ∀ (ls : Array Slot) (H : Heap) (locs : List Loc), lv_has ls 5 [(0, .ref (zA g i0)), (1, .ref (zA g i1)), (2, .int a2), (3, .int v3), (4, .int v4)] → zIV g σ (zAA g) s.heap H locs → (∀ (ls : Array Slot) (H : Heap) (locs : List Loc), lv_has ls 5 [(0, .ref (zA g i0)), (1, .ref (zA g i1)), (2, .int a2), (3, .int o)] → zIV g σ (zAA g) s.heap H locs → W p l e (zrm 2 45) s m args below meth c H locs 0 0 Q (F0 m 51 ls [])) → W p l e (zrm 2 45) s m args below meth c H locs 0 0 Q (F0 m 15 ls []) := by
  have hx := M.1.1
  have hb := M.1.2.1
  intro n
  induction n with
  | zero =>
    intro v3 v4 o hr ls H locs hl I KF
    have hr : (none : Option (Int32)) = some o := hr
    cases hr
  | succ n ih =>
    intro v3 v4 o hr ls H locs hl I KF
    rw [l_X2_countUpTo_15] at hr
    refine lv_iload hx hb dX2_countUpTo_15 (lv_at hl 4 rfl) ?_
    refine lv_iload_n hx hb dX2_countUpTo_17 rfl (lv_at hl 2 rfl) ?_
    refine lv_icmp_ge (tgt := 51) hx hb dX2_countUpTo_18 (by decide) (fun c5 => ?_) (fun c5 => ?_)
    · replace hr := zif_t hr c5
      obtain rfl := Option.some.inj hr
      exact KF ls _ _ (lv_sub hl [0, 1, 2, 3] rfl) I
    · replace hr := zif_f hr c5
      refine lv_aload_n hx hb dX2_countUpTo_21 rfl (lv_at hl 1 rfl) ?_
      refine lv_iload hx hb dX2_countUpTo_22 (lv_at hl 4 rfl) ?_
      refine lv_iload_n hx hb dX2_countUpTo_24 rfl (lv_at hl 2 rfl) ?_
      obtain ⟨x1, e_x1, hr⟩ := zb_some hr
      refine zcallI M I (zrunV (as := [.int v4, .int a2]) M I (c_X0_fit l g fu h1 e_x1) h1 zK0.1 (by decide) zlv_X2_46 ⟨Nat.le_of_ble_eq_true rfl, Nat.le_of_ble_eq_true rfl⟩ ⟨Nat.zero_le _, Nat.zero_le _⟩ rfl rfl (Nat.le_of_ble_eq_true rfl) hl.1 dX2_countUpTo_25) (fun H locs I => ?_)
      obtain ⟨x2, e_x2, hr⟩ := zb_some hr
      have K_x2 : ∀ (ls : Array Slot) (H : Heap) (locs : List Loc), lv_has ls 5 [(0, .ref (zA g i0)), (1, .ref (zA g i1)), (2, .int a2), (3, .int x2), (4, .int v4)] → zIV g σ (zAA g) s.heap H locs → W p l e (zrm 2 45) s m args below meth c H locs 0 0 Q (F0 m 45 ls []) := by
        intro ls H locs hl I
        refine lv_iinc (lv' := [(4, .int (v4 + 1)), (0, .ref (zA g i0)), (1, .ref (zA g i1)), (2, .int a2), (3, .int x2)]) (k := 4) (v := (v4 + 1)) hx hb dX2_countUpTo_45 hl rfl (zi_1 _) (by decide) rfl (fun ls hl => ?_)
        refine lv_goto (tgt := 15) hx hb dX2_countUpTo_48 (by decide) ?_
        exact ih _ _  _ hr ls _ _ (lv_sub hl [1, 2, 3, 4, 0] rfl) I KF
      refine lv_if_eq (tgt := 45) hx hb dX2_countUpTo_28 (by decide) (fun c4 => ?_) (fun c4 => ?_)
      · replace e_x2 := zif_t e_x2 c4
        obtain rfl := Option.some.inj e_x2
        exact K_x2 ls _ _ hl I
      · replace e_x2 := zif_f e_x2 c4
        refine lv_iload_n hx hb dX2_countUpTo_31 rfl (lv_at hl 3 rfl) ?_
        refine lv_aload_n hx hb dX2_countUpTo_32 rfl (lv_at hl 0 rfl) ?_
        refine zgetR (j := (i0 + 5)) M I h0 zfl_X2_23 dX2_countUpTo_33 rfl ?_
        refine lv_iload hx hb dX2_countUpTo_36 (lv_at hl 4 rfl) ?_
        obtain ⟨x3, e_x3, e_x2⟩ := zb_some e_x2
        refine zcallI M I (zrunV (as := [.int v4]) M I (c_X1_at l g fu (zs_2_2 h0) e_x3) (zs_2_2 h0) zK1.1 (by decide) zlv_X2_50 ⟨Nat.le_of_ble_eq_true rfl, Nat.le_of_ble_eq_true rfl⟩ ⟨Nat.zero_le _, Nat.zero_le _⟩ rfl rfl (Nat.le_of_ble_eq_true rfl) hl.1 dX2_countUpTo_38) (fun H locs I => ?_)
        refine va_mmax (own := RX2) hx hb (M.1.2.2.1.trans hl.1.symm) M.1.2.2.2.1 (M.1.2.2.2.2 _ (zin (i := 463) (by decide +kernel) rfl)) (M.1.2.2.2.2 _ (zin (i := 434) (by decide +kernel) rfl)) (M.1.2.2.2.2 _ (zin (i := 86) (by decide +kernel) rfl)) (M.1.2.2.2.2 _ (zin (i := 435) (by decide +kernel) rfl)) (Nat.le_of_ble_eq_true rfl) (Nat.le_of_ble_eq_true rfl) (Nat.zero_le _) (Nat.zero_le _) dX2_countUpTo_41 ?_
        refine lv_istore_n (lv' := [(3, .int (zmax v3 x3)), (0, .ref (zA g i0)), (1, .ref (zA g i1)), (2, .int a2), (4, .int v4)]) hx hb dX2_countUpTo_44 rfl hl (by decide) rfl (fun ls hl => ?_)
        obtain rfl := Option.some.inj e_x2
        exact K_x2 ls _ _ (lv_sub hl [1, 2, 3, 0, 4] rfl) I
def l_X2_countUpTo_2 (fu : Nat) (i0 : Nat) (i1 : Nat) : Nat → Int32 → zmem → Option (zmem)
  | 0, _, _ => none
  | n + 1, v2, σ => (if (σ.1 i1 2) ≤ v2 then some σ else (l_X2_countUpTo_15 fu σ i0 i1 v2 fu (0 : Int32) (0 : Int32)).bind fun x6 => (m_X1_store fu σ (i0 + 5) v2 (x6 + (1 : Int32))).bind fun x7 => l_X2_countUpTo_2 fu i0 i1 n (v2 + 1) x7)
set_option maxHeartbeats 4000000 in
set_option maxRecDepth 100000 in
theorem k_X2_countUpTo_2 {l : Launch} {g : zgeo} {fu : Nat} {p : Program} {e : Env} {s : State} {m : MethodId} {args : Array Value} {below : List Frame} {meth : Method} {c : Code} (M : zMC RX2 cX2_countUpTo 5 none g p m c s args meth) {i0 : Nat} {i1 : Nat} (h0 : zkd i0 = (2, 0)) (h1 : zkd i1 = (0, 0)) {Q : State → Prop} : ∀ (n : Nat) (v2 : Int32) (σ : zmem) (o : zmem), l_X2_countUpTo_2 fu i0 i1 n v2 σ = some o → ∀ (ls : Array Slot) (H : Heap) (locs : List Loc), lv_has ls 5 [(0, .ref (zA g i0)), (1, .ref (zA g i1)), (2, .int v2)] → zIV g σ (zAA g) s.heap H locs → (∀ (ls : Array Slot) (H : Heap) (locs : List Loc), lv_has ls 5 [] → zIV g o (zAA g) s.heap H locs → W p l e (zrm 2 45) s m args below meth c H locs 0 0 Q (F0 m 68 ls [])) → W p l e (zrm 2 45) s m args below meth c H locs 0 0 Q (F0 m 2 ls []) := by
  have hx := M.1.1
  have hb := M.1.2.1
  intro n
  induction n with
  | zero =>
    intro v2 σ o hr ls H locs hl I KF
    have hr : (none : Option (zmem)) = some o := hr
    cases hr
  | succ n ih =>
    intro v2 σ o hr ls H locs hl I KF
    rw [l_X2_countUpTo_2] at hr
    refine lv_iload_n hx hb dX2_countUpTo_2 rfl (lv_at hl 2 rfl) ?_
    refine lv_aload_n hx hb dX2_countUpTo_3 rfl (lv_at hl 1 rfl) ?_
    refine zgetI M I h1 zfl_X2_43 dX2_countUpTo_4 ?_
    refine lv_icmp_ge (tgt := 68) hx hb dX2_countUpTo_7 (by decide) (fun c8 => ?_) (fun c8 => ?_)
    · replace hr := zif_t hr c8
      obtain rfl := Option.some.inj hr
      exact KF ls _ _ (lv_sub hl [] rfl) I
    · replace hr := zif_f hr c8
      refine lv_iconst (v := (0 : Int32)) hx hb dX2_countUpTo_10 (by decide) ?_
      refine lv_istore_n (lv' := [(3, .int (0 : Int32)), (0, .ref (zA g i0)), (1, .ref (zA g i1)), (2, .int v2)]) hx hb dX2_countUpTo_11 rfl hl (by decide) rfl (fun ls hl => ?_)
      refine lv_iconst (v := (0 : Int32)) hx hb dX2_countUpTo_12 (by decide) ?_
      refine lv_istore (lv' := [(4, .int (0 : Int32)), (3, .int (0 : Int32)), (0, .ref (zA g i0)), (1, .ref (zA g i1)), (2, .int v2)]) hx hb dX2_countUpTo_13 hl (by decide) rfl (fun ls hl => ?_)
      obtain ⟨x6, e_x6, hr⟩ := zb_some hr
      refine k_X2_countUpTo_15 M h0 h1 fu _ _  _ e_x6 ls _ _ (lv_sub hl [2, 3, 4, 1, 0] rfl) I (fun ls H locs hl I => ?_)
      refine lv_aload_n hx hb dX2_countUpTo_51 rfl (lv_at hl 0 rfl) ?_
      refine zgetR (j := (i0 + 5)) M I h0 zfl_X2_23 dX2_countUpTo_52 rfl ?_
      refine lv_iload_n hx hb dX2_countUpTo_55 rfl (lv_at hl 2 rfl) ?_
      refine lv_iload_n hx hb dX2_countUpTo_56 rfl (lv_at hl 3 rfl) ?_
      refine lv_iconst (v := (1 : Int32)) hx hb dX2_countUpTo_57 (by decide) ?_
      refine lv_iadd hx hb dX2_countUpTo_58 ?_
      obtain ⟨x7, e_x7, hr⟩ := zb_some hr
      refine zcallU M I (zrunV (as := [.int v2, .int (x6 + (1 : Int32))]) M I (c_X1_store l g fu (zs_2_2 h0) e_x7) (zs_2_2 h0) zK1.1 (by decide) zlv_X2_60 ⟨Nat.le_of_ble_eq_true rfl, Nat.le_of_ble_eq_true rfl⟩ ⟨Nat.zero_le _, Nat.zero_le _⟩ rfl rfl (Nat.le_of_ble_eq_true rfl) hl.1 dX2_countUpTo_59) (fun H locs I => ?_)
      refine lv_iinc (lv' := [(2, .int (v2 + 1)), (0, .ref (zA g i0)), (1, .ref (zA g i1)), (3, .int x6)]) (k := 2) (v := (v2 + 1)) hx hb dX2_countUpTo_62 hl rfl (zi_1 _) (by decide) rfl (fun ls hl => ?_)
      refine lv_goto (tgt := 2) hx hb dX2_countUpTo_65 (by decide) ?_
      exact ih _ _  _ hr ls _ _ (lv_sub hl [1, 2, 0] rfl) I KF
def m_X2_countUpTo (fu : Nat) (σ : zmem) (i0 : Nat) (i1 : Nat) : Option (zmem) := (l_X2_countUpTo_2 fu i0 i1 fu (0 : Int32) σ).bind fun x9 => some x9
set_option maxHeartbeats 4000000 in
set_option maxRecDepth 100000 in
theorem c_X2_countUpTo (l : Launch) (g : zgeo) (fu : Nat) {σ : zmem} {i0 : Nat} {i1 : Nat} {r : zmem} (h0 : zkd i0 = (2, 0)) (h1 : zkd i1 = (0, 0)) (hr : m_X2_countUpTo fu σ i0 i1 = some r) : zCt (zQV g r) l g yX2_countUpTo cX2_countUpTo 5 none 2 45 [.ref (zA g i0), .ref (zA g i1)] σ := by
  refine zopen (by decide) (Nat.le_of_ble_eq_true rfl) ?_
  intro p e s m below meth c M ls hl I
  have M : zMC RX2 cX2_countUpTo 5 none g p m c s ([.ref (zA g i0), .ref (zA g i1)] : List Value).toArray meth := M
  have hl : lv_has ls 5 [(0, .ref (zA g i0)), (1, .ref (zA g i1))] := hl
  generalize ([.ref (zA g i0), .ref (zA g i1)] : List Value).toArray = args at M ⊢
  have hx := M.1.1
  have hb := M.1.2.1
  unfold m_X2_countUpTo at hr
  refine lv_iconst (v := (0 : Int32)) hx hb dX2_countUpTo_0 (by decide) ?_
  refine lv_istore_n (lv' := [(2, .int (0 : Int32)), (0, .ref (zA g i0)), (1, .ref (zA g i1))]) hx hb dX2_countUpTo_1 rfl hl (by decide) rfl (fun ls hl => ?_)
  obtain ⟨x9, e_x9, hr⟩ := zb_some hr
  refine k_X2_countUpTo_2 M h0 h1 fu _ _  _ e_x9 ls _ _ (lv_sub hl [1, 2, 0] rfl) I (fun ls H locs hl I => ?_)
  obtain rfl := Option.some.inj hr
  exact zretV M I dX2_countUpTo_68
def l_X2_countFrom_18 (fu : Nat) (σ : zmem) (i0 : Nat) (i1 : Nat) (a2 : Int32) : Nat → Int32 → Int32 → Option (Int32)
  | 0, _, _ => none
  | n + 1, v3, v4 => (if (σ.1 i1 2) ≤ v4 then some v3 else (m_X0_fit fu σ i1 a2 v4).bind fun x1 => ((if x1 = 0 then some v3 else (m_X1_at fu σ (i0 + 7) v4).bind fun x3 => some (zmax v3 x3)) : Option (Int32)).bind fun x2 => l_X2_countFrom_18 fu σ i0 i1 a2 n x2 (v4 + 1))
set_option maxHeartbeats 4000000 in
set_option maxRecDepth 100000 in
theorem k_X2_countFrom_18 {l : Launch} {g : zgeo} {fu : Nat} {p : Program} {e : Env} {s : State} {m : MethodId} {args : Array Value} {below : List Frame} {meth : Method} {c : Code} (M : zMC RX2 cX2_countFrom 5 none g p m c s args meth) {σ : zmem} {i0 : Nat} {i1 : Nat} {a2 : Int32} (h0 : zkd i0 = (2, 0)) (h1 : zkd i1 = (0, 0)) {Q : State → Prop} : ∀ (n : Nat) (v3 : Int32) (v4 : Int32) (o : Int32), l_X2_countFrom_18 fu σ i0 i1 a2 n v3 v4 = some o → ∀ (ls : Array Slot) (H : Heap) (locs : List Loc), lv_has ls 5 [(0, .ref (zA g i0)), (1, .ref (zA g i1)), (2, .int a2), (3, .int v3), (4, .int v4)] → zIV g σ (zAA g) s.heap H locs → (∀ (ls : Array Slot) (H : Heap) (locs : List Loc), lv_has ls 5 [(0, .ref (zA g i0)), (1, .ref (zA g i1)), (2, .int a2), (3, .int o)] → zIV g σ (zAA g) s.heap H locs → W p l e (zrm 2 45) s m args below meth c H locs 0 0 Q (F0 m 57 ls [])) → W p l e (zrm 2 45) s m args below meth c H locs 0 0 Q (F0 m 18 ls []) := by
  have hx := M.1.1
  have hb := M.1.2.1
  intro n
  induction n with
  | zero =>
    intro v3 v4 o hr ls H locs hl I KF
    have hr : (none : Option (Int32)) = some o := hr
    cases hr
  | succ n ih =>
    intro v3 v4 o hr ls H locs hl I KF
    rw [l_X2_countFrom_18] at hr
    refine lv_iload hx hb dX2_countFrom_18 (lv_at hl 4 rfl) ?_
    refine lv_aload_n hx hb dX2_countFrom_20 rfl (lv_at hl 1 rfl) ?_
    refine zgetI M I h1 zfl_X2_43 dX2_countFrom_21 ?_
    refine lv_icmp_ge (tgt := 57) hx hb dX2_countFrom_24 (by decide) (fun c5 => ?_) (fun c5 => ?_)
    · replace hr := zif_t hr c5
      obtain rfl := Option.some.inj hr
      exact KF ls _ _ (lv_sub hl [0, 1, 2, 3] rfl) I
    · replace hr := zif_f hr c5
      refine lv_aload_n hx hb dX2_countFrom_27 rfl (lv_at hl 1 rfl) ?_
      refine lv_iload_n hx hb dX2_countFrom_28 rfl (lv_at hl 2 rfl) ?_
      refine lv_iload hx hb dX2_countFrom_29 (lv_at hl 4 rfl) ?_
      obtain ⟨x1, e_x1, hr⟩ := zb_some hr
      refine zcallI M I (zrunV (as := [.int a2, .int v4]) M I (c_X0_fit l g fu h1 e_x1) h1 zK0.1 (by decide) zlv_X2_46 ⟨Nat.le_of_ble_eq_true rfl, Nat.le_of_ble_eq_true rfl⟩ ⟨Nat.zero_le _, Nat.zero_le _⟩ rfl rfl (Nat.le_of_ble_eq_true rfl) hl.1 dX2_countFrom_31) (fun H locs I => ?_)
      obtain ⟨x2, e_x2, hr⟩ := zb_some hr
      have K_x2 : ∀ (ls : Array Slot) (H : Heap) (locs : List Loc), lv_has ls 5 [(0, .ref (zA g i0)), (1, .ref (zA g i1)), (2, .int a2), (3, .int x2), (4, .int v4)] → zIV g σ (zAA g) s.heap H locs → W p l e (zrm 2 45) s m args below meth c H locs 0 0 Q (F0 m 51 ls []) := by
        intro ls H locs hl I
        refine lv_iinc (lv' := [(4, .int (v4 + 1)), (0, .ref (zA g i0)), (1, .ref (zA g i1)), (2, .int a2), (3, .int x2)]) (k := 4) (v := (v4 + 1)) hx hb dX2_countFrom_51 hl rfl (zi_1 _) (by decide) rfl (fun ls hl => ?_)
        refine lv_goto (tgt := 18) hx hb dX2_countFrom_54 (by decide) ?_
        exact ih _ _  _ hr ls _ _ (lv_sub hl [1, 2, 3, 4, 0] rfl) I KF
      refine lv_if_eq (tgt := 51) hx hb dX2_countFrom_34 (by decide) (fun c4 => ?_) (fun c4 => ?_)
      · replace e_x2 := zif_t e_x2 c4
        obtain rfl := Option.some.inj e_x2
        exact K_x2 ls _ _ hl I
      · replace e_x2 := zif_f e_x2 c4
        refine lv_iload_n hx hb dX2_countFrom_37 rfl (lv_at hl 3 rfl) ?_
        refine lv_aload_n hx hb dX2_countFrom_38 rfl (lv_at hl 0 rfl) ?_
        refine zgetR (j := (i0 + 7)) M I h0 zfl_X2_26 dX2_countFrom_39 rfl ?_
        refine lv_iload hx hb dX2_countFrom_42 (lv_at hl 4 rfl) ?_
        obtain ⟨x3, e_x3, e_x2⟩ := zb_some e_x2
        refine zcallI M I (zrunV (as := [.int v4]) M I (c_X1_at l g fu (zs_2_3 h0) e_x3) (zs_2_3 h0) zK1.1 (by decide) zlv_X2_50 ⟨Nat.le_of_ble_eq_true rfl, Nat.le_of_ble_eq_true rfl⟩ ⟨Nat.zero_le _, Nat.zero_le _⟩ rfl rfl (Nat.le_of_ble_eq_true rfl) hl.1 dX2_countFrom_44) (fun H locs I => ?_)
        refine va_mmax (own := RX2) hx hb (M.1.2.2.1.trans hl.1.symm) M.1.2.2.2.1 (M.1.2.2.2.2 _ (zin (i := 463) (by decide +kernel) rfl)) (M.1.2.2.2.2 _ (zin (i := 434) (by decide +kernel) rfl)) (M.1.2.2.2.2 _ (zin (i := 86) (by decide +kernel) rfl)) (M.1.2.2.2.2 _ (zin (i := 435) (by decide +kernel) rfl)) (Nat.le_of_ble_eq_true rfl) (Nat.le_of_ble_eq_true rfl) (Nat.zero_le _) (Nat.zero_le _) dX2_countFrom_47 ?_
        refine lv_istore_n (lv' := [(3, .int (zmax v3 x3)), (0, .ref (zA g i0)), (1, .ref (zA g i1)), (2, .int a2), (4, .int v4)]) hx hb dX2_countFrom_50 rfl hl (by decide) rfl (fun ls hl => ?_)
        obtain rfl := Option.some.inj e_x2
        exact K_x2 ls _ _ (lv_sub hl [1, 2, 3, 0, 4] rfl) I
def l_X2_countFrom_7 (fu : Nat) (i0 : Nat) (i1 : Nat) : Nat → Int32 → zmem → Option (zmem)
  | 0, _, _ => none
  | n + 1, v2, σ => (if v2 < 0 then some σ else (l_X2_countFrom_18 fu σ i0 i1 v2 fu (0 : Int32) (v2 + (1 : Int32))).bind fun x6 => (m_X1_store fu σ (i0 + 7) v2 (x6 + (1 : Int32))).bind fun x7 => l_X2_countFrom_7 fu i0 i1 n (v2 - 1) x7)
set_option maxHeartbeats 4000000 in
set_option maxRecDepth 100000 in
theorem k_X2_countFrom_7 {l : Launch} {g : zgeo} {fu : Nat} {p : Program} {e : Env} {s : State} {m : MethodId} {args : Array Value} {below : List Frame} {meth : Method} {c : Code} (M : zMC RX2 cX2_countFrom 5 none g p m c s args meth) {i0 : Nat} {i1 : Nat} (h0 : zkd i0 = (2, 0)) (h1 : zkd i1 = (0, 0)) {Q : State → Prop} : ∀ (n : Nat) (v2 : Int32) (σ : zmem) (o : zmem), l_X2_countFrom_7 fu i0 i1 n v2 σ = some o → ∀ (ls : Array Slot) (H : Heap) (locs : List Loc), lv_has ls 5 [(0, .ref (zA g i0)), (1, .ref (zA g i1)), (2, .int v2)] → zIV g σ (zAA g) s.heap H locs → (∀ (ls : Array Slot) (H : Heap) (locs : List Loc), lv_has ls 5 [] → zIV g o (zAA g) s.heap H locs → W p l e (zrm 2 45) s m args below meth c H locs 0 0 Q (F0 m 74 ls [])) → W p l e (zrm 2 45) s m args below meth c H locs 0 0 Q (F0 m 7 ls []) := by
  have hx := M.1.1
  have hb := M.1.2.1
  intro n
  induction n with
  | zero =>
    intro v2 σ o hr ls H locs hl I KF
    have hr : (none : Option (zmem)) = some o := hr
    cases hr
  | succ n ih =>
    intro v2 σ o hr ls H locs hl I KF
    rw [l_X2_countFrom_7] at hr
    refine lv_iload_n hx hb dX2_countFrom_7 rfl (lv_at hl 2 rfl) ?_
    refine lv_if_lt (tgt := 74) hx hb dX2_countFrom_8 (by decide) (fun c8 => ?_) (fun c8 => ?_)
    · replace hr := zif_t hr c8
      obtain rfl := Option.some.inj hr
      exact KF ls _ _ (lv_sub hl [] rfl) I
    · replace hr := zif_f hr c8
      refine lv_iconst (v := (0 : Int32)) hx hb dX2_countFrom_11 (by decide) ?_
      refine lv_istore_n (lv' := [(3, .int (0 : Int32)), (0, .ref (zA g i0)), (1, .ref (zA g i1)), (2, .int v2)]) hx hb dX2_countFrom_12 rfl hl (by decide) rfl (fun ls hl => ?_)
      refine lv_iload_n hx hb dX2_countFrom_13 rfl (lv_at hl 3 rfl) ?_
      refine lv_iconst (v := (1 : Int32)) hx hb dX2_countFrom_14 (by decide) ?_
      refine lv_iadd hx hb dX2_countFrom_15 ?_
      refine lv_istore (lv' := [(4, .int (v2 + (1 : Int32))), (3, .int (0 : Int32)), (0, .ref (zA g i0)), (1, .ref (zA g i1)), (2, .int v2)]) hx hb dX2_countFrom_16 hl (by decide) rfl (fun ls hl => ?_)
      obtain ⟨x6, e_x6, hr⟩ := zb_some hr
      refine k_X2_countFrom_18 M h0 h1 fu _ _  _ e_x6 ls _ _ (lv_sub hl [2, 3, 4, 1, 0] rfl) I (fun ls H locs hl I => ?_)
      refine lv_aload_n hx hb dX2_countFrom_57 rfl (lv_at hl 0 rfl) ?_
      refine zgetR (j := (i0 + 7)) M I h0 zfl_X2_26 dX2_countFrom_58 rfl ?_
      refine lv_iload_n hx hb dX2_countFrom_61 rfl (lv_at hl 2 rfl) ?_
      refine lv_iload_n hx hb dX2_countFrom_62 rfl (lv_at hl 3 rfl) ?_
      refine lv_iconst (v := (1 : Int32)) hx hb dX2_countFrom_63 (by decide) ?_
      refine lv_iadd hx hb dX2_countFrom_64 ?_
      obtain ⟨x7, e_x7, hr⟩ := zb_some hr
      refine zcallU M I (zrunV (as := [.int v2, .int (x6 + (1 : Int32))]) M I (c_X1_store l g fu (zs_2_3 h0) e_x7) (zs_2_3 h0) zK1.1 (by decide) zlv_X2_60 ⟨Nat.le_of_ble_eq_true rfl, Nat.le_of_ble_eq_true rfl⟩ ⟨Nat.zero_le _, Nat.zero_le _⟩ rfl rfl (Nat.le_of_ble_eq_true rfl) hl.1 dX2_countFrom_65) (fun H locs I => ?_)
      refine lv_iinc (lv' := [(2, .int (v2 - 1)), (0, .ref (zA g i0)), (1, .ref (zA g i1)), (3, .int x6)]) (k := 2) (v := (v2 - 1)) hx hb dX2_countFrom_68 hl rfl (zi_m1 _) (by decide) rfl (fun ls hl => ?_)
      refine lv_goto (tgt := 7) hx hb dX2_countFrom_71 (by decide) ?_
      exact ih _ _  _ hr ls _ _ (lv_sub hl [1, 2, 0] rfl) I KF
def m_X2_countFrom (fu : Nat) (σ : zmem) (i0 : Nat) (i1 : Nat) : Option (zmem) := (l_X2_countFrom_7 fu i0 i1 fu ((σ.1 i1 2) - (1 : Int32)) σ).bind fun x9 => some x9
set_option maxHeartbeats 4000000 in
set_option maxRecDepth 100000 in
theorem c_X2_countFrom (l : Launch) (g : zgeo) (fu : Nat) {σ : zmem} {i0 : Nat} {i1 : Nat} {r : zmem} (h0 : zkd i0 = (2, 0)) (h1 : zkd i1 = (0, 0)) (hr : m_X2_countFrom fu σ i0 i1 = some r) : zCt (zQV g r) l g yX2_countFrom cX2_countFrom 5 none 2 45 [.ref (zA g i0), .ref (zA g i1)] σ := by
  refine zopen (by decide) (Nat.le_of_ble_eq_true rfl) ?_
  intro p e s m below meth c M ls hl I
  have M : zMC RX2 cX2_countFrom 5 none g p m c s ([.ref (zA g i0), .ref (zA g i1)] : List Value).toArray meth := M
  have hl : lv_has ls 5 [(0, .ref (zA g i0)), (1, .ref (zA g i1))] := hl
  generalize ([.ref (zA g i0), .ref (zA g i1)] : List Value).toArray = args at M ⊢
  have hx := M.1.1
  have hb := M.1.2.1
  unfold m_X2_countFrom at hr
  refine lv_aload_n hx hb dX2_countFrom_0 rfl (lv_at hl 1 rfl) ?_
  refine zgetI M I h1 zfl_X2_43 dX2_countFrom_1 ?_
  refine lv_iconst (v := (1 : Int32)) hx hb dX2_countFrom_4 (by decide) ?_
  refine lv_isub hx hb dX2_countFrom_5 ?_
  refine lv_istore_n (lv' := [(2, .int ((σ.1 i1 2) - (1 : Int32))), (0, .ref (zA g i0)), (1, .ref (zA g i1))]) hx hb dX2_countFrom_6 rfl hl (by decide) rfl (fun ls hl => ?_)
  obtain ⟨x9, e_x9, hr⟩ := zb_some hr
  refine k_X2_countFrom_7 M h0 h1 fu _ _  _ e_x9 ls _ _ (lv_sub hl [1, 2, 0] rfl) I (fun ls H locs hl I => ?_)
  obtain rfl := Option.some.inj hr
  exact zretV M I dX2_countFrom_74
def l_X2_mostOfAll_4 (fu : Nat) (σ : zmem) (i0 : Nat) (i1 : Nat) : Nat → Int32 → Int32 → Option (Int32)
  | 0, _, _ => none
  | n + 1, v2, v3 => (if (σ.1 i1 2) ≤ v3 then some v2 else (m_X1_at fu σ (i0 + 7) v3).bind fun x1 => l_X2_mostOfAll_4 fu σ i0 i1 n (zmax v2 x1) (v3 + 1))
set_option maxHeartbeats 4000000 in
set_option maxRecDepth 100000 in
theorem k_X2_mostOfAll_4 {l : Launch} {g : zgeo} {fu : Nat} {p : Program} {e : Env} {s : State} {m : MethodId} {args : Array Value} {below : List Frame} {meth : Method} {c : Code} (M : zMC RX2 cX2_mostOfAll 4 (some .int) g p m c s args meth) {σ : zmem} {i0 : Nat} {i1 : Nat} (h0 : zkd i0 = (2, 0)) (h1 : zkd i1 = (0, 0)) {Q : State → Prop} : ∀ (n : Nat) (v2 : Int32) (v3 : Int32) (o : Int32), l_X2_mostOfAll_4 fu σ i0 i1 n v2 v3 = some o → ∀ (ls : Array Slot) (H : Heap) (locs : List Loc), lv_has ls 4 [(0, .ref (zA g i0)), (1, .ref (zA g i1)), (2, .int v2), (3, .int v3)] → zIV g σ (zAA g) s.heap H locs → (∀ (ls : Array Slot) (H : Heap) (locs : List Loc), lv_has ls 4 [(2, .int o)] → zIV g σ (zAA g) s.heap H locs → W p l e (zrm 1 21) s m args below meth c H locs 0 0 Q (F0 m 31 ls [])) → W p l e (zrm 1 21) s m args below meth c H locs 0 0 Q (F0 m 4 ls []) := by
  have hx := M.1.1
  have hb := M.1.2.1
  intro n
  induction n with
  | zero =>
    intro v2 v3 o hr ls H locs hl I KF
    have hr : (none : Option (Int32)) = some o := hr
    cases hr
  | succ n ih =>
    intro v2 v3 o hr ls H locs hl I KF
    rw [l_X2_mostOfAll_4] at hr
    refine lv_iload_n hx hb dX2_mostOfAll_4 rfl (lv_at hl 3 rfl) ?_
    refine lv_aload_n hx hb dX2_mostOfAll_5 rfl (lv_at hl 1 rfl) ?_
    refine zgetI M I h1 zfl_X2_43 dX2_mostOfAll_6 ?_
    refine lv_icmp_ge (tgt := 31) hx hb dX2_mostOfAll_9 (by decide) (fun c2 => ?_) (fun c2 => ?_)
    · replace hr := zif_t hr c2
      obtain rfl := Option.some.inj hr
      exact KF ls _ _ (lv_sub hl [2] rfl) I
    · replace hr := zif_f hr c2
      refine lv_iload_n hx hb dX2_mostOfAll_12 rfl (lv_at hl 2 rfl) ?_
      refine lv_aload_n hx hb dX2_mostOfAll_13 rfl (lv_at hl 0 rfl) ?_
      refine zgetR (j := (i0 + 7)) M I h0 zfl_X2_26 dX2_mostOfAll_14 rfl ?_
      refine lv_iload_n hx hb dX2_mostOfAll_17 rfl (lv_at hl 3 rfl) ?_
      obtain ⟨x1, e_x1, hr⟩ := zb_some hr
      refine zcallI M I (zrunV (as := [.int v3]) M I (c_X1_at l g fu (zs_2_3 h0) e_x1) (zs_2_3 h0) zK1.1 (by decide) zlv_X2_50 ⟨Nat.le_of_ble_eq_true rfl, Nat.le_of_ble_eq_true rfl⟩ ⟨Nat.zero_le _, Nat.zero_le _⟩ rfl rfl (Nat.le_of_ble_eq_true rfl) hl.1 dX2_mostOfAll_18) (fun H locs I => ?_)
      refine va_mmax (own := RX2) hx hb (M.1.2.2.1.trans hl.1.symm) M.1.2.2.2.1 (M.1.2.2.2.2 _ (zin (i := 463) (by decide +kernel) rfl)) (M.1.2.2.2.2 _ (zin (i := 434) (by decide +kernel) rfl)) (M.1.2.2.2.2 _ (zin (i := 86) (by decide +kernel) rfl)) (M.1.2.2.2.2 _ (zin (i := 435) (by decide +kernel) rfl)) (Nat.le_of_ble_eq_true rfl) (Nat.le_of_ble_eq_true rfl) (Nat.zero_le _) (Nat.zero_le _) dX2_mostOfAll_21 ?_
      refine lv_istore_n (lv' := [(2, .int (zmax v2 x1)), (0, .ref (zA g i0)), (1, .ref (zA g i1)), (3, .int v3)]) hx hb dX2_mostOfAll_24 rfl hl (by decide) rfl (fun ls hl => ?_)
      refine lv_iinc (lv' := [(3, .int (v3 + 1)), (2, .int (zmax v2 x1)), (0, .ref (zA g i0)), (1, .ref (zA g i1))]) (k := 3) (v := (v3 + 1)) hx hb dX2_mostOfAll_25 hl rfl (zi_1 _) (by decide) rfl (fun ls hl => ?_)
      refine lv_goto (tgt := 4) hx hb dX2_mostOfAll_28 (by decide) ?_
      exact ih _ _  _ hr ls _ _ (lv_sub hl [2, 3, 1, 0] rfl) I KF
def m_X2_mostOfAll (fu : Nat) (σ : zmem) (i0 : Nat) (i1 : Nat) : Option (Int32) := (l_X2_mostOfAll_4 fu σ i0 i1 fu (0 : Int32) (0 : Int32)).bind fun x3 => some x3
set_option maxHeartbeats 4000000 in
set_option maxRecDepth 100000 in
theorem c_X2_mostOfAll (l : Launch) (g : zgeo) (fu : Nat) {σ : zmem} {i0 : Nat} {i1 : Nat} {r : Int32} (h0 : zkd i0 = (2, 0)) (h1 : zkd i1 = (0, 0)) (hr : m_X2_mostOfAll fu σ i0 i1 = some r) : zCt (zQI g r σ) l g yX2_mostOfAll cX2_mostOfAll 4 (some .int) 1 21 [.ref (zA g i0), .ref (zA g i1)] σ := by
  refine zopen (by decide) (Nat.le_of_ble_eq_true rfl) ?_
  intro p e s m below meth c M ls hl I
  have M : zMC RX2 cX2_mostOfAll 4 (some .int) g p m c s ([.ref (zA g i0), .ref (zA g i1)] : List Value).toArray meth := M
  have hl : lv_has ls 4 [(0, .ref (zA g i0)), (1, .ref (zA g i1))] := hl
  generalize ([.ref (zA g i0), .ref (zA g i1)] : List Value).toArray = args at M ⊢
  have hx := M.1.1
  have hb := M.1.2.1
  unfold m_X2_mostOfAll at hr
  refine lv_iconst (v := (0 : Int32)) hx hb dX2_mostOfAll_0 (by decide) ?_
  refine lv_istore_n (lv' := [(2, .int (0 : Int32)), (0, .ref (zA g i0)), (1, .ref (zA g i1))]) hx hb dX2_mostOfAll_1 rfl hl (by decide) rfl (fun ls hl => ?_)
  refine lv_iconst (v := (0 : Int32)) hx hb dX2_mostOfAll_2 (by decide) ?_
  refine lv_istore_n (lv' := [(3, .int (0 : Int32)), (2, .int (0 : Int32)), (0, .ref (zA g i0)), (1, .ref (zA g i1))]) hx hb dX2_mostOfAll_3 rfl hl (by decide) rfl (fun ls hl => ?_)
  obtain ⟨x3, e_x3, hr⟩ := zb_some hr
  refine k_X2_mostOfAll_4 M h0 h1 fu _ _  _ e_x3 ls _ _ (lv_sub hl [2, 3, 1, 0] rfl) I (fun ls H locs hl I => ?_)
  refine lv_iload_n hx hb dX2_mostOfAll_31 rfl (lv_at hl 0 rfl) ?_
  obtain rfl := Option.some.inj hr
  exact zretI M I dX2_mostOfAll_32
def l_X2_pick_16 (fu : Nat) (i0 : Nat) (i1 : Nat) (a2 : Int32) : Nat → Int32 → Int32 → zmem → Option (zmem)
  | 0, _, _, _ => none
  | n + 1, v3, v4, σ => (if (σ.1 i1 2) ≤ v4 then some σ else (m_X1_at fu σ (i0 + 7) v4).bind fun x2 => ((if ¬ x2 = (a2 - (σ.1 i0 4)) then some (0 : Int32) else (if v3 = (-1 : Int32) then some (1 : Int32) else (m_X0_fit fu σ i1 v3 v4).bind fun x10 => (if x10 = 0 then some (0 : Int32) else some (1 : Int32)))) : Option (Int32)).bind fun x3 => ((if x3 = 0 then some (-1 : Int32) else some (σ.1 i0 4)) : Option (Int32)).bind fun x4 => (m_X1_store fu σ (i0 + 3) v4 x4).bind fun x5 => ((if x3 = 0 then some (v3, x5) else (m_X1_store fu x5 (i0 + 1) (x5.1 i0 4) v4).bind fun x7 => some (v4, (zst x7 i0 4 ((x7.1 i0 4) + (1 : Int32))))) : Option (Int32 × zmem)).bind fun x6 => l_X2_pick_16 fu i0 i1 a2 n x6.1 (v4 + 1) x6.2)
set_option maxHeartbeats 4000000 in
set_option maxRecDepth 100000 in
theorem k_X2_pick_16 {l : Launch} {g : zgeo} {fu : Nat} {p : Program} {e : Env} {s : State} {m : MethodId} {args : Array Value} {below : List Frame} {meth : Method} {c : Code} (M : zMC RX2 cX2_pick 6 none g p m c s args meth) {i0 : Nat} {i1 : Nat} {a2 : Int32} (h0 : zkd i0 = (2, 0)) (h1 : zkd i1 = (0, 0)) {Q : State → Prop} : ∀ (n : Nat) (v3 : Int32) (v4 : Int32) (σ : zmem) (o : zmem), l_X2_pick_16 fu i0 i1 a2 n v3 v4 σ = some o → ∀ (ls : Array Slot) (H : Heap) (locs : List Loc), lv_has ls 6 [(0, .ref (zA g i0)), (1, .ref (zA g i1)), (2, .int a2), (3, .int v3), (4, .int v4)] → zIV g σ (zAA g) s.heap H locs → (∀ (ls : Array Slot) (H : Heap) (locs : List Loc), lv_has ls 6 [] → zIV g o (zAA g) s.heap H locs → W p l e (zrm 2 45) s m args below meth c H locs 0 0 Q (F0 m 124 ls [])) → W p l e (zrm 2 45) s m args below meth c H locs 0 0 Q (F0 m 16 ls []) := by
  have hx := M.1.1
  have hb := M.1.2.1
  intro n
  induction n with
  | zero =>
    intro v3 v4 σ o hr ls H locs hl I KF
    have hr : (none : Option (zmem)) = some o := hr
    cases hr
  | succ n ih =>
    intro v3 v4 σ o hr ls H locs hl I KF
    rw [l_X2_pick_16] at hr
    refine lv_iload hx hb dX2_pick_16 (lv_at hl 4 rfl) ?_
    refine lv_aload_n hx hb dX2_pick_18 rfl (lv_at hl 1 rfl) ?_
    refine zgetI M I h1 zfl_X2_43 dX2_pick_19 ?_
    refine lv_icmp_ge (tgt := 124) hx hb dX2_pick_22 (by decide) (fun c14 => ?_) (fun c14 => ?_)
    · replace hr := zif_t hr c14
      obtain rfl := Option.some.inj hr
      exact KF ls _ _ (lv_sub hl [] rfl) I
    · replace hr := zif_f hr c14
      refine lv_aload_n hx hb dX2_pick_25 rfl (lv_at hl 0 rfl) ?_
      refine zgetR (j := (i0 + 7)) M I h0 zfl_X2_26 dX2_pick_26 rfl ?_
      refine lv_iload hx hb dX2_pick_29 (lv_at hl 4 rfl) ?_
      obtain ⟨x2, e_x2, hr⟩ := zb_some hr
      refine zcallI M I (zrunV (as := [.int v4]) M I (c_X1_at l g fu (zs_2_3 h0) e_x2) (zs_2_3 h0) zK1.1 (by decide) zlv_X2_50 ⟨Nat.le_of_ble_eq_true rfl, Nat.le_of_ble_eq_true rfl⟩ ⟨Nat.zero_le _, Nat.zero_le _⟩ rfl rfl (Nat.le_of_ble_eq_true rfl) hl.1 dX2_pick_31) (fun H locs I => ?_)
      refine lv_iload_n hx hb dX2_pick_34 rfl (lv_at hl 2 rfl) ?_
      refine lv_aload_n hx hb dX2_pick_35 rfl (lv_at hl 0 rfl) ?_
      refine zgetI M I h0 zfl_X2_29 dX2_pick_36 ?_
      refine lv_isub hx hb dX2_pick_39 ?_
      obtain ⟨x3, e_x3, hr⟩ := zb_some hr
      have K_x3 : ∀ (ls : Array Slot) (H : Heap) (locs : List Loc), lv_has ls 6 [(0, .ref (zA g i0)), (1, .ref (zA g i1)), (2, .int a2), (3, .int v3), (4, .int v4)] → zIV g σ (zAA g) s.heap H locs → W p l e (zrm 2 45) s m args below meth c H locs 0 0 Q (F0 m 63 ls [.int x3]) := by
        intro ls H locs hl I
        refine lv_istore (lv' := [(5, .int x3), (0, .ref (zA g i0)), (1, .ref (zA g i1)), (2, .int a2), (3, .int v3), (4, .int v4)]) hx hb dX2_pick_63 hl (by decide) rfl (fun ls hl => ?_)
        refine lv_aload_n hx hb dX2_pick_65 rfl (lv_at hl 1 rfl) ?_
        refine zgetR (j := (i0 + 3)) M I h0 zfl_X2_20 dX2_pick_66 rfl ?_
        refine lv_iload hx hb dX2_pick_69 (lv_at hl 5 rfl) ?_
        refine lv_iload hx hb dX2_pick_71 (lv_at hl 0 rfl) ?_
        obtain ⟨x4, e_x4, hr⟩ := zb_some hr
        have K_x4 : ∀ (ls : Array Slot) (H : Heap) (locs : List Loc), lv_has ls 6 [(0, .ref (zA g i0)), (1, .ref (zA g i1)), (2, .int a2), (3, .int v3), (4, .int v4), (5, .int x3)] → zIV g σ (zAA g) s.heap H locs → W p l e (zrm 2 45) s m args below meth c H locs 0 0 Q (F0 m 84 ls [.int x4, .int v4, .ref (zA g (i0 + 3))]) := by
          intro ls H locs hl I
          obtain ⟨x5, e_x5, hr⟩ := zb_some hr
          refine zcallU M I (zrunV (as := [.int v4, .int x4]) M I (c_X1_store l g fu (zs_2_1 h0) e_x5) (zs_2_1 h0) zK1.1 (by decide) zlv_X2_60 ⟨Nat.le_of_ble_eq_true rfl, Nat.le_of_ble_eq_true rfl⟩ ⟨Nat.zero_le _, Nat.zero_le _⟩ rfl rfl (Nat.le_of_ble_eq_true rfl) hl.1 dX2_pick_84) (fun H locs I => ?_)
          refine lv_iload hx hb dX2_pick_87 (lv_at hl 5 rfl) ?_
          obtain ⟨x6, e_x6, hr⟩ := zb_some hr
          have K_x6 : ∀ (ls : Array Slot) (H : Heap) (locs : List Loc), lv_has ls 6 [(0, .ref (zA g i0)), (1, .ref (zA g i1)), (2, .int a2), (3, .int x6.1), (4, .int v4)] → zIV g x6.2 (zAA g) s.heap H locs → W p l e (zrm 2 45) s m args below meth c H locs 0 0 Q (F0 m 118 ls []) := by
            intro ls H locs hl I
            refine lv_iinc (lv' := [(4, .int (v4 + 1)), (0, .ref (zA g i0)), (1, .ref (zA g i1)), (2, .int a2), (3, .int x6.1)]) (k := 4) (v := (v4 + 1)) hx hb dX2_pick_118 hl rfl (zi_1 _) (by decide) rfl (fun ls hl => ?_)
            refine lv_goto (tgt := 16) hx hb dX2_pick_121 (by decide) ?_
            exact ih _ _ _  _ hr ls _ _ (lv_sub hl [1, 2, 3, 4, 0] rfl) I KF
          refine lv_if_eq (tgt := 118) hx hb dX2_pick_89 (by decide) (fun c8 => ?_) (fun c8 => ?_)
          · replace e_x6 := zif_t e_x6 c8
            obtain rfl := Option.some.inj e_x6
            exact K_x6 ls _ _ (lv_sub hl [0, 1, 2, 3, 4] rfl) I
          · replace e_x6 := zif_f e_x6 c8
            refine lv_aload_n hx hb dX2_pick_92 rfl (lv_at hl 0 rfl) ?_
            refine zgetR (j := (i0 + 1)) M I h0 zfl_X2_14 dX2_pick_93 rfl ?_
            refine lv_aload_n hx hb dX2_pick_96 rfl (lv_at hl 0 rfl) ?_
            refine zgetI M I h0 zfl_X2_29 dX2_pick_97 ?_
            refine lv_iload hx hb dX2_pick_100 (lv_at hl 4 rfl) ?_
            obtain ⟨x7, e_x7, e_x6⟩ := zb_some e_x6
            refine zcallU M I (zrunV (as := [.int (x5.1 i0 4), .int v4]) M I (c_X1_store l g fu (zs_2_0 h0) e_x7) (zs_2_0 h0) zK1.1 (by decide) zlv_X2_60 ⟨Nat.le_of_ble_eq_true rfl, Nat.le_of_ble_eq_true rfl⟩ ⟨Nat.zero_le _, Nat.zero_le _⟩ rfl rfl (Nat.le_of_ble_eq_true rfl) hl.1 dX2_pick_102) (fun H locs I => ?_)
            refine lv_aload_n hx hb dX2_pick_105 rfl (lv_at hl 0 rfl) ?_
            refine lv_dup hx hb dX2_pick_106 rfl ?_
            refine zgetI M I h0 zfl_X2_29 dX2_pick_107 ?_
            refine lv_iconst (v := (1 : Int32)) hx hb dX2_pick_110 (by decide) ?_
            refine lv_iadd hx hb dX2_pick_111 ?_
            refine zputI M I h0 zfw_X2_29 dX2_pick_112 (fun H locs I => ?_)
            refine lv_iload hx hb dX2_pick_115 (lv_at hl 4 rfl) ?_
            refine lv_istore_n (lv' := [(3, .int v4), (0, .ref (zA g i0)), (1, .ref (zA g i1)), (2, .int a2), (4, .int v4), (5, .int x3)]) hx hb dX2_pick_117 rfl hl (by decide) rfl (fun ls hl => ?_)
            obtain rfl := Option.some.inj e_x6
            exact K_x6 ls _ _ (lv_sub hl [1, 2, 3, 0, 4] rfl) I
        refine lv_if_eq (tgt := 83) hx hb dX2_pick_73 (by decide) (fun c9 => ?_) (fun c9 => ?_)
        · replace e_x4 := zif_t e_x4 c9
          refine lv_iconst (v := (-1 : Int32)) hx hb dX2_pick_83 (by decide) ?_
          obtain rfl := Option.some.inj e_x4
          exact K_x4 ls _ _ (lv_sub hl [1, 2, 3, 4, 5, 0] rfl) I
        · replace e_x4 := zif_f e_x4 c9
          refine lv_aload_n hx hb dX2_pick_76 rfl (lv_at hl 1 rfl) ?_
          refine zgetI M I h0 zfl_X2_29 dX2_pick_77 ?_
          refine lv_goto (tgt := 84) hx hb dX2_pick_80 (by decide) ?_
          obtain rfl := Option.some.inj e_x4
          exact K_x4 ls _ _ (lv_sub hl [1, 2, 3, 4, 5, 0] rfl) I
      refine lv_icmp_ne (tgt := 62) hx hb dX2_pick_40 (by decide) (fun c13 => ?_) (fun c13 => ?_)
      · replace e_x3 := zif_t e_x3 c13
        refine lv_iconst (v := (0 : Int32)) hx hb dX2_pick_62 (by decide) ?_
        obtain rfl := Option.some.inj e_x3
        exact K_x3 ls _ _ hl I
      · replace e_x3 := zif_f e_x3 (fun hq => hq c13)
        refine lv_iload_n hx hb dX2_pick_43 rfl (lv_at hl 3 rfl) ?_
        refine lv_iconst (v := (-1 : Int32)) hx hb dX2_pick_44 (by decide) ?_
        refine lv_icmp_eq (tgt := 58) hx hb dX2_pick_45 (by decide) (fun c12 => ?_) (fun c12 => ?_)
        · replace e_x3 := zif_t e_x3 c12
          refine lv_iconst (v := (1 : Int32)) hx hb dX2_pick_58 (by decide) ?_
          refine lv_goto (tgt := 63) hx hb dX2_pick_59 (by decide) ?_
          obtain rfl := Option.some.inj e_x3
          exact K_x3 ls _ _ hl I
        · replace e_x3 := zif_f e_x3 c12
          refine lv_aload_n hx hb dX2_pick_48 rfl (lv_at hl 1 rfl) ?_
          refine lv_iload_n hx hb dX2_pick_49 rfl (lv_at hl 3 rfl) ?_
          refine lv_iload hx hb dX2_pick_50 (lv_at hl 4 rfl) ?_
          obtain ⟨x10, e_x10, e_x3⟩ := zb_some e_x3
          refine zcallI M I (zrunV (as := [.int v3, .int v4]) M I (c_X0_fit l g fu h1 e_x10) h1 zK0.1 (by decide) zlv_X2_46 ⟨Nat.le_of_ble_eq_true rfl, Nat.le_of_ble_eq_true rfl⟩ ⟨Nat.zero_le _, Nat.zero_le _⟩ rfl rfl (Nat.le_of_ble_eq_true rfl) hl.1 dX2_pick_52) (fun H locs I => ?_)
          refine lv_if_eq (tgt := 62) hx hb dX2_pick_55 (by decide) (fun c11 => ?_) (fun c11 => ?_)
          · replace e_x3 := zif_t e_x3 c11
            refine lv_iconst (v := (0 : Int32)) hx hb dX2_pick_62 (by decide) ?_
            obtain rfl := Option.some.inj e_x3
            exact K_x3 ls _ _ hl I
          · replace e_x3 := zif_f e_x3 c11
            refine lv_iconst (v := (1 : Int32)) hx hb dX2_pick_58 (by decide) ?_
            refine lv_goto (tgt := 63) hx hb dX2_pick_59 (by decide) ?_
            obtain rfl := Option.some.inj e_x3
            exact K_x3 ls _ _ hl I
def m_X2_pick (fu : Nat) (σ : zmem) (i0 : Nat) (i1 : Nat) : Option (zmem) := (m_X2_mostOfAll fu σ i0 i1).bind fun x1 => (l_X2_pick_16 fu i0 i1 x1 fu (-1 : Int32) (0 : Int32) (zst σ i0 4 (0 : Int32))).bind fun x15 => some x15
set_option maxHeartbeats 4000000 in
set_option maxRecDepth 100000 in
theorem c_X2_pick (l : Launch) (g : zgeo) (fu : Nat) {σ : zmem} {i0 : Nat} {i1 : Nat} {r : zmem} (h0 : zkd i0 = (2, 0)) (h1 : zkd i1 = (0, 0)) (hr : m_X2_pick fu σ i0 i1 = some r) : zCt (zQV g r) l g yX2_pick cX2_pick 6 none 2 45 [.ref (zA g i0), .ref (zA g i1)] σ := by
  refine zopen (by decide) (Nat.le_of_ble_eq_true rfl) ?_
  intro p e s m below meth c M ls hl I
  have M : zMC RX2 cX2_pick 6 none g p m c s ([.ref (zA g i0), .ref (zA g i1)] : List Value).toArray meth := M
  have hl : lv_has ls 6 [(0, .ref (zA g i0)), (1, .ref (zA g i1))] := hl
  generalize ([.ref (zA g i0), .ref (zA g i1)] : List Value).toArray = args at M ⊢
  have hx := M.1.1
  have hb := M.1.2.1
  unfold m_X2_pick at hr
  refine lv_aload_n hx hb dX2_pick_0 rfl (lv_at hl 0 rfl) ?_
  refine lv_aload_n hx hb dX2_pick_1 rfl (lv_at hl 1 rfl) ?_
  obtain ⟨x1, e_x1, hr⟩ := zb_some hr
  refine zcallI M I (zrunV (as := [.ref (zA g i1)]) M I (c_X2_mostOfAll l g fu h0 h1 e_x1) h0 zK2.1 (by decide) zlv_X2_64 ⟨Nat.le_of_ble_eq_true rfl, Nat.le_of_ble_eq_true rfl⟩ ⟨Nat.zero_le _, Nat.zero_le _⟩ rfl rfl (Nat.le_of_ble_eq_true rfl) hl.1 dX2_pick_2) (fun H locs I => ?_)
  refine lv_istore_n (lv' := [(2, .int x1), (0, .ref (zA g i0)), (1, .ref (zA g i1))]) hx hb dX2_pick_5 rfl hl (by decide) rfl (fun ls hl => ?_)
  refine lv_iconst (v := (-1 : Int32)) hx hb dX2_pick_6 (by decide) ?_
  refine lv_istore_n (lv' := [(3, .int (-1 : Int32)), (2, .int x1), (0, .ref (zA g i0)), (1, .ref (zA g i1))]) hx hb dX2_pick_7 rfl hl (by decide) rfl (fun ls hl => ?_)
  refine lv_aload_n hx hb dX2_pick_8 rfl (lv_at hl 2 rfl) ?_
  refine lv_iconst (v := (0 : Int32)) hx hb dX2_pick_9 (by decide) ?_
  refine zputI M I h0 zfw_X2_29 dX2_pick_10 (fun H locs I => ?_)
  refine lv_iconst (v := (0 : Int32)) hx hb dX2_pick_13 (by decide) ?_
  refine lv_istore (lv' := [(4, .int (0 : Int32)), (3, .int (-1 : Int32)), (2, .int x1), (0, .ref (zA g i0)), (1, .ref (zA g i1))]) hx hb dX2_pick_14 hl (by decide) rfl (fun ls hl => ?_)
  obtain ⟨x15, e_x15, hr⟩ := zb_some hr
  refine k_X2_pick_16 M h0 h1 fu _ _ _  _ e_x15 ls _ _ (lv_sub hl [3, 4, 2, 1, 0] rfl) I (fun ls H locs hl I => ?_)
  obtain rfl := Option.some.inj hr
  exact zretV M I dX2_pick_124
def m_X2_find (fu : Nat) (σ : zmem) (i0 : Nat) (i1 : Nat) : Option (zmem) := (m_X2_countUpTo fu σ i0 i1).bind fun x1 => (m_X2_countFrom fu x1 i0 i1).bind fun x2 => (m_X2_pick fu x2 i0 i1).bind fun x3 => some x3
set_option maxHeartbeats 4000000 in
set_option maxRecDepth 100000 in
theorem c_X2_find (l : Launch) (g : zgeo) (fu : Nat) {σ : zmem} {i0 : Nat} {i1 : Nat} {r : zmem} (h0 : zkd i0 = (2, 0)) (h1 : zkd i1 = (0, 0)) (hr : m_X2_find fu σ i0 i1 = some r) : zCt (zQV g r) l g yX2_find cX2_find 2 none 3 70 [.ref (zA g i0), .ref (zA g i1)] σ := by
  refine zopen (by decide) (Nat.le_of_ble_eq_true rfl) ?_
  intro p e s m below meth c M ls hl I
  have M : zMC RX2 cX2_find 2 none g p m c s ([.ref (zA g i0), .ref (zA g i1)] : List Value).toArray meth := M
  have hl : lv_has ls 2 [(0, .ref (zA g i0)), (1, .ref (zA g i1))] := hl
  generalize ([.ref (zA g i0), .ref (zA g i1)] : List Value).toArray = args at M ⊢
  have hx := M.1.1
  have hb := M.1.2.1
  unfold m_X2_find at hr
  refine lv_aload_n hx hb dX2_find_0 rfl (lv_at hl 0 rfl) ?_
  refine lv_aload_n hx hb dX2_find_1 rfl (lv_at hl 1 rfl) ?_
  obtain ⟨x1, e_x1, hr⟩ := zb_some hr
  refine zcallU M I (zrunV (as := [.ref (zA g i1)]) M I (c_X2_countUpTo l g fu h0 h1 e_x1) h0 zK2.1 (by decide) zlv_X2_33 ⟨Nat.le_of_ble_eq_true rfl, Nat.le_of_ble_eq_true rfl⟩ ⟨Nat.zero_le _, Nat.zero_le _⟩ rfl rfl (Nat.le_of_ble_eq_true rfl) hl.1 dX2_find_2) (fun H locs I => ?_)
  refine lv_aload_n hx hb dX2_find_5 rfl (lv_at hl 0 rfl) ?_
  refine lv_aload_n hx hb dX2_find_6 rfl (lv_at hl 1 rfl) ?_
  obtain ⟨x2, e_x2, hr⟩ := zb_some hr
  refine zcallU M I (zrunV (as := [.ref (zA g i1)]) M I (c_X2_countFrom l g fu h0 h1 e_x2) h0 zK2.1 (by decide) zlv_X2_37 ⟨Nat.le_of_ble_eq_true rfl, Nat.le_of_ble_eq_true rfl⟩ ⟨Nat.zero_le _, Nat.zero_le _⟩ rfl rfl (Nat.le_of_ble_eq_true rfl) hl.1 dX2_find_7) (fun H locs I => ?_)
  refine lv_aload_n hx hb dX2_find_10 rfl (lv_at hl 0 rfl) ?_
  refine lv_aload_n hx hb dX2_find_11 rfl (lv_at hl 1 rfl) ?_
  obtain ⟨x3, e_x3, hr⟩ := zb_some hr
  refine zcallU M I (zrunV (as := [.ref (zA g i1)]) M I (c_X2_pick l g fu h0 h1 e_x3) h0 zK2.1 (by decide) zlv_X2_40 ⟨Nat.le_of_ble_eq_true rfl, Nat.le_of_ble_eq_true rfl⟩ ⟨Nat.zero_le _, Nat.zero_le _⟩ rfl rfl (Nat.le_of_ble_eq_true rfl) hl.1 dX2_find_12) (fun H locs I => ?_)
  obtain rfl := Option.some.inj hr
  exact zretV M I dX2_find_15
def m_X3_layParts (fu : Nat) (σ : zmem) (i0 : Nat) (a1 : Int32) (a2 : Int32) (a3 : Int32) (a4 : Int32) : Option (zmem) := some (zst (zst (zst (zst σ i0 2 a1) i0 3 a2) i0 4 a3) i0 5 a4)
set_option maxHeartbeats 4000000 in
set_option maxRecDepth 100000 in
theorem c_X3_layParts (l : Launch) (g : zgeo) (fu : Nat) {σ : zmem} {i0 : Nat} {a1 : Int32} {a2 : Int32} {a3 : Int32} {a4 : Int32} {r : zmem} (h0 : zkd i0 = (3, 0)) (hr : m_X3_layParts fu σ i0 a1 a2 a3 a4 = some r) : zCt (zQV g r) l g yX3_layParts cX3_layParts 5 none 0 0 [.ref (zA g i0), .int a1, .int a2, .int a3, .int a4] σ := by
  refine zopen (by decide) (Nat.le_of_ble_eq_true rfl) ?_
  intro p e s m below meth c M ls hl I
  have M : zMC RX3 cX3_layParts 5 none g p m c s ([.ref (zA g i0), .int a1, .int a2, .int a3, .int a4] : List Value).toArray meth := M
  have hl : lv_has ls 5 [(0, .ref (zA g i0)), (1, .int a1), (2, .int a2), (3, .int a3), (4, .int a4)] := hl
  generalize ([.ref (zA g i0), .int a1, .int a2, .int a3, .int a4] : List Value).toArray = args at M ⊢
  have hx := M.1.1
  have hb := M.1.2.1
  unfold m_X3_layParts at hr
  refine lv_aload_n hx hb dX3_layParts_0 rfl (lv_at hl 0 rfl) ?_
  refine lv_iload_n hx hb dX3_layParts_1 rfl (lv_at hl 1 rfl) ?_
  refine zputI M I h0 zfw_X3_18 dX3_layParts_2 (fun H locs I => ?_)
  refine lv_aload_n hx hb dX3_layParts_5 rfl (lv_at hl 0 rfl) ?_
  refine lv_iload_n hx hb dX3_layParts_6 rfl (lv_at hl 2 rfl) ?_
  refine zputI M I h0 zfw_X3_22 dX3_layParts_7 (fun H locs I => ?_)
  refine lv_aload_n hx hb dX3_layParts_10 rfl (lv_at hl 0 rfl) ?_
  refine lv_iload_n hx hb dX3_layParts_11 rfl (lv_at hl 3 rfl) ?_
  refine zputI M I h0 zfw_X3_25 dX3_layParts_12 (fun H locs I => ?_)
  refine lv_aload_n hx hb dX3_layParts_15 rfl (lv_at hl 0 rfl) ?_
  refine lv_iload hx hb dX3_layParts_16 (lv_at hl 4 rfl) ?_
  refine zputI M I h0 zfw_X3_28 dX3_layParts_18 (fun H locs I => ?_)
  obtain rfl := Option.some.inj hr
  exact zretV M I dX3_layParts_21
def m_X3_store (fu : Nat) (σ : zmem) (i0 : Nat) (a1 : Int32) (a2 : Int32) (a3 : Int32) (a4 : Int32) : Option (zmem) := (if a1 < 0 then some σ else (if (25 : Int32) ≤ a1 then some σ else (if a2 < 0 then some σ else (if (25 : Int32) ≤ a2 then some σ else (zwr σ (i0 + 1) ((a1 * (25 : Int32)) + a2) a3).bind fun s1 => (zwr s1 (i0 + 2) ((a1 * (25 : Int32)) + a2) a4).bind fun s2 => some s2))))
set_option maxHeartbeats 4000000 in
set_option maxRecDepth 100000 in
theorem c_X3_store (l : Launch) (g : zgeo) (fu : Nat) {σ : zmem} {i0 : Nat} {a1 : Int32} {a2 : Int32} {a3 : Int32} {a4 : Int32} {r : zmem} (h0 : zkd i0 = (3, 0)) (hr : m_X3_store fu σ i0 a1 a2 a3 a4 = some r) : zCt (zQV g r) l g yX3_store cX3_store 5 none 0 0 [.ref (zA g i0), .int a1, .int a2, .int a3, .int a4] σ := by
  refine zopen (by decide) (Nat.le_of_ble_eq_true rfl) ?_
  intro p e s m below meth c M ls hl I
  have M : zMC RX3 cX3_store 5 none g p m c s ([.ref (zA g i0), .int a1, .int a2, .int a3, .int a4] : List Value).toArray meth := M
  have hl : lv_has ls 5 [(0, .ref (zA g i0)), (1, .int a1), (2, .int a2), (3, .int a3), (4, .int a4)] := hl
  generalize ([.ref (zA g i0), .int a1, .int a2, .int a3, .int a4] : List Value).toArray = args at M ⊢
  have hx := M.1.1
  have hb := M.1.2.1
  unfold m_X3_store at hr
  refine lv_iload_n hx hb dX3_store_0 rfl (lv_at hl 1 rfl) ?_
  refine lv_if_lt (tgt := 45) hx hb dX3_store_1 (by decide) (fun c6 => ?_) (fun c6 => ?_)
  · replace hr := zif_t hr c6
    obtain rfl := Option.some.inj hr
    exact zretV M I dX3_store_45
  · replace hr := zif_f hr c6
    refine lv_iload_n hx hb dX3_store_4 rfl (lv_at hl 1 rfl) ?_
    refine lv_bipush (v := (25 : Int32)) hx hb dX3_store_5 (by decide) ?_
    refine lv_icmp_ge (tgt := 45) hx hb dX3_store_7 (by decide) (fun c5 => ?_) (fun c5 => ?_)
    · replace hr := zif_t hr c5
      obtain rfl := Option.some.inj hr
      exact zretV M I dX3_store_45
    · replace hr := zif_f hr c5
      refine lv_iload_n hx hb dX3_store_10 rfl (lv_at hl 2 rfl) ?_
      refine lv_if_lt (tgt := 45) hx hb dX3_store_11 (by decide) (fun c4 => ?_) (fun c4 => ?_)
      · replace hr := zif_t hr c4
        obtain rfl := Option.some.inj hr
        exact zretV M I dX3_store_45
      · replace hr := zif_f hr c4
        refine lv_iload_n hx hb dX3_store_14 rfl (lv_at hl 2 rfl) ?_
        refine lv_bipush (v := (25 : Int32)) hx hb dX3_store_15 (by decide) ?_
        refine lv_icmp_ge (tgt := 45) hx hb dX3_store_17 (by decide) (fun c3 => ?_) (fun c3 => ?_)
        · replace hr := zif_t hr c3
          obtain rfl := Option.some.inj hr
          exact zretV M I dX3_store_45
        · replace hr := zif_f hr c3
          refine lv_aload_n hx hb dX3_store_20 rfl (lv_at hl 0 rfl) ?_
          refine zgetR (j := (i0 + 1)) M I h0 zfl_X3_11 dX3_store_21 rfl ?_
          refine lv_iload_n hx hb dX3_store_24 rfl (lv_at hl 1 rfl) ?_
          refine lv_bipush (v := (25 : Int32)) hx hb dX3_store_25 (by decide) ?_
          refine lv_imul hx hb dX3_store_27 ?_
          refine lv_iload_n hx hb dX3_store_28 rfl (lv_at hl 2 rfl) ?_
          refine lv_iadd hx hb dX3_store_29 ?_
          refine lv_iload_n hx hb dX3_store_30 rfl (lv_at hl 3 rfl) ?_
          obtain ⟨s1, e_s1, hr⟩ := zb_some hr
          refine ziast M I (zs_3_0 h0) e_s1 dX3_store_31 (fun H locs I => ?_)
          refine lv_aload_n hx hb dX3_store_32 rfl (lv_at hl 0 rfl) ?_
          refine zgetR (j := (i0 + 2)) M I h0 zfl_X3_15 dX3_store_33 rfl ?_
          refine lv_iload_n hx hb dX3_store_36 rfl (lv_at hl 1 rfl) ?_
          refine lv_bipush (v := (25 : Int32)) hx hb dX3_store_37 (by decide) ?_
          refine lv_imul hx hb dX3_store_39 ?_
          refine lv_iload_n hx hb dX3_store_40 rfl (lv_at hl 2 rfl) ?_
          refine lv_iadd hx hb dX3_store_41 ?_
          refine lv_iload hx hb dX3_store_42 (lv_at hl 4 rfl) ?_
          obtain ⟨s2, e_s2, hr⟩ := zb_some hr
          refine ziast M I (zs_3_1 h0) e_s2 dX3_store_44 (fun H locs I => ?_)
          obtain rfl := Option.some.inj hr
          exact zretV M I dX3_store_45
def m_X3_costAt (fu : Nat) (σ : zmem) (i0 : Nat) (a1 : Int32) (a2 : Int32) : Option (Int32) := (if a1 < 0 then some (1000000 : Int32) else (if (25 : Int32) ≤ a1 then some (1000000 : Int32) else (if a2 < 0 then some (1000000 : Int32) else (if a2 < (25 : Int32) then (zrd σ (i0 + 1) ((a1 * (25 : Int32)) + a2)).bind fun x1 => some x1 else some (1000000 : Int32)))))
set_option maxHeartbeats 4000000 in
set_option maxRecDepth 100000 in
theorem c_X3_costAt (l : Launch) (g : zgeo) (fu : Nat) {σ : zmem} {i0 : Nat} {a1 : Int32} {a2 : Int32} {r : Int32} (h0 : zkd i0 = (3, 0)) (hr : m_X3_costAt fu σ i0 a1 a2 = some r) : zCt (zQI g r σ) l g yX3_costAt cX3_costAt 3 (some .int) 0 0 [.ref (zA g i0), .int a1, .int a2] σ := by
  refine zopen (by decide) (Nat.le_of_ble_eq_true rfl) ?_
  intro p e s m below meth c M ls hl I
  have M : zMC RX3 cX3_costAt 3 (some .int) g p m c s ([.ref (zA g i0), .int a1, .int a2] : List Value).toArray meth := M
  have hl : lv_has ls 3 [(0, .ref (zA g i0)), (1, .int a1), (2, .int a2)] := hl
  generalize ([.ref (zA g i0), .int a1, .int a2] : List Value).toArray = args at M ⊢
  have hx := M.1.1
  have hb := M.1.2.1
  unfold m_X3_costAt at hr
  refine lv_iload_n hx hb dX3_costAt_0 rfl (lv_at hl 1 rfl) ?_
  refine lv_if_lt (tgt := 20) hx hb dX3_costAt_1 (by decide) (fun c5 => ?_) (fun c5 => ?_)
  · replace hr := zif_t hr c5
    refine lv_ldc (own := RX3) (v := (1000000 : Int32)) hx hb M.1.2.2.2.1 (M.1.2.2.2.2 _ (zin (i := 500) (by decide +kernel) rfl)) dX3_costAt_20 ?_
    obtain rfl := Option.some.inj hr
    exact zretI M I dX3_costAt_22
  · replace hr := zif_f hr c5
    refine lv_iload_n hx hb dX3_costAt_4 rfl (lv_at hl 1 rfl) ?_
    refine lv_bipush (v := (25 : Int32)) hx hb dX3_costAt_5 (by decide) ?_
    refine lv_icmp_ge (tgt := 20) hx hb dX3_costAt_7 (by decide) (fun c4 => ?_) (fun c4 => ?_)
    · replace hr := zif_t hr c4
      refine lv_ldc (own := RX3) (v := (1000000 : Int32)) hx hb M.1.2.2.2.1 (M.1.2.2.2.2 _ (zin (i := 500) (by decide +kernel) rfl)) dX3_costAt_20 ?_
      obtain rfl := Option.some.inj hr
      exact zretI M I dX3_costAt_22
    · replace hr := zif_f hr c4
      refine lv_iload_n hx hb dX3_costAt_10 rfl (lv_at hl 2 rfl) ?_
      refine lv_if_lt (tgt := 20) hx hb dX3_costAt_11 (by decide) (fun c3 => ?_) (fun c3 => ?_)
      · replace hr := zif_t hr c3
        refine lv_ldc (own := RX3) (v := (1000000 : Int32)) hx hb M.1.2.2.2.1 (M.1.2.2.2.2 _ (zin (i := 500) (by decide +kernel) rfl)) dX3_costAt_20 ?_
        obtain rfl := Option.some.inj hr
        exact zretI M I dX3_costAt_22
      · replace hr := zif_f hr c3
        refine lv_iload_n hx hb dX3_costAt_14 rfl (lv_at hl 2 rfl) ?_
        refine lv_bipush (v := (25 : Int32)) hx hb dX3_costAt_15 (by decide) ?_
        refine lv_icmp_lt (tgt := 23) hx hb dX3_costAt_17 (by decide) (fun c2 => ?_) (fun c2 => ?_)
        · replace hr := zif_t hr c2
          refine lv_aload_n hx hb dX3_costAt_23 rfl (lv_at hl 0 rfl) ?_
          refine zgetR (j := (i0 + 1)) M I h0 zfl_X3_11 dX3_costAt_24 rfl ?_
          refine lv_iload_n hx hb dX3_costAt_27 rfl (lv_at hl 1 rfl) ?_
          refine lv_bipush (v := (25 : Int32)) hx hb dX3_costAt_28 (by decide) ?_
          refine lv_imul hx hb dX3_costAt_30 ?_
          refine lv_iload_n hx hb dX3_costAt_31 rfl (lv_at hl 2 rfl) ?_
          refine lv_iadd hx hb dX3_costAt_32 ?_
          obtain ⟨x1, e_x1, hr⟩ := zb_some hr
          refine ziald M I (zs_3_0 h0) e_x1 dX3_costAt_33 ?_
          obtain rfl := Option.some.inj hr
          exact zretI M I dX3_costAt_34
        · replace hr := zif_f hr c2
          refine lv_ldc (own := RX3) (v := (1000000 : Int32)) hx hb M.1.2.2.2.1 (M.1.2.2.2.2 _ (zin (i := 500) (by decide +kernel) rfl)) dX3_costAt_20 ?_
          obtain rfl := Option.some.inj hr
          exact zretI M I dX3_costAt_22
def m_X3_fillCell (fu : Nat) (σ : zmem) (i0 : Nat) (i1 : Nat) (a2 : Int32) (a3 : Int32) : Option (zmem) := (m_X1_at fu σ (i1 + 5) (2 : Int32)).bind fun x1 => (m_X6_signAt fu σ (i1 + 1) (((σ.1 i0 2) + a2) - (1 : Int32))).bind fun x2 => (m_X6_signAt fu σ (i1 + 3) (((σ.1 i0 4) + a3) - (1 : Int32))).bind fun x3 => ((if ¬ x2 = x3 then some (0 : Int32) else some (1 : Int32)) : Option (Int32)).bind fun x4 => (m_X3_costAt fu σ i0 (a2 - (1 : Int32)) (a3 - (1 : Int32))).bind fun x5 => ((if x4 = 0 then (m_X1_at fu σ (i1 + 5) (1 : Int32)).bind fun x14 => some x14 else some (0 : Int32)) : Option (Int32)).bind fun x6 => (m_X3_costAt fu σ i0 (a2 - (1 : Int32)) a3).bind fun x7 => (m_X3_costAt fu σ i0 a2 (a3 - (1 : Int32))).bind fun x8 => (if ¬ (x5 + x6) = (zmin (x5 + x6) (zmin (x7 + x1) (x8 + x1))) then ((if ¬ (x7 + x1) = (zmin (x5 + x6) (zmin (x7 + x1) (x8 + x1))) then some (2 : Int32) else some (1 : Int32)) : Option (Int32)).bind fun x9 => (m_X3_store fu σ i0 a2 a3 (zmin (x5 + x6) (zmin (x7 + x1) (x8 + x1))) x9).bind fun x10 => some x10 else (m_X3_store fu σ i0 a2 a3 (zmin (x5 + x6) (zmin (x7 + x1) (x8 + x1))) (0 : Int32)).bind fun x12 => some x12)
set_option maxHeartbeats 4000000 in
set_option maxRecDepth 100000 in
theorem c_X3_fillCell (l : Launch) (g : zgeo) (fu : Nat) {σ : zmem} {i0 : Nat} {i1 : Nat} {a2 : Int32} {a3 : Int32} {r : zmem} (h0 : zkd i0 = (3, 0)) (h1 : zkd i1 = (7, 0)) (hr : m_X3_fillCell fu σ i0 i1 a2 a3 = some r) : zCt (zQV g r) l g yX3_fillCell cX3_fillCell 10 none 1 24 [.ref (zA g i0), .ref (zA g i1), .int a2, .int a3] σ := by
  refine zopen (by decide) (Nat.le_of_ble_eq_true rfl) ?_
  intro p e s m below meth c M ls hl I
  have M : zMC RX3 cX3_fillCell 10 none g p m c s ([.ref (zA g i0), .ref (zA g i1), .int a2, .int a3] : List Value).toArray meth := M
  have hl : lv_has ls 10 [(0, .ref (zA g i0)), (1, .ref (zA g i1)), (2, .int a2), (3, .int a3)] := hl
  generalize ([.ref (zA g i0), .ref (zA g i1), .int a2, .int a3] : List Value).toArray = args at M ⊢
  have hx := M.1.1
  have hb := M.1.2.1
  unfold m_X3_fillCell at hr
  refine lv_aload_n hx hb dX3_fillCell_0 rfl (lv_at hl 1 rfl) ?_
  refine zgetR (j := (i1 + 5)) M I h1 zfl_X3_50 dX3_fillCell_1 rfl ?_
  refine lv_iconst (v := (2 : Int32)) hx hb dX3_fillCell_4 (by decide) ?_
  obtain ⟨x1, e_x1, hr⟩ := zb_some hr
  refine zcallI M I (zrunV (as := [.int (2 : Int32)]) M I (c_X1_at l g fu (zs_7_2 h1) e_x1) (zs_7_2 h1) zK1.1 (by decide) zlv_X3_56 ⟨Nat.le_of_ble_eq_true rfl, Nat.le_of_ble_eq_true rfl⟩ ⟨Nat.zero_le _, Nat.zero_le _⟩ rfl rfl (Nat.le_of_ble_eq_true rfl) hl.1 dX3_fillCell_5) (fun H locs I => ?_)
  refine lv_istore (lv' := [(4, .int x1), (0, .ref (zA g i0)), (1, .ref (zA g i1)), (2, .int a2), (3, .int a3)]) hx hb dX3_fillCell_8 hl (by decide) rfl (fun ls hl => ?_)
  refine lv_aload_n hx hb dX3_fillCell_10 rfl (lv_at hl 2 rfl) ?_
  refine zgetR (j := (i1 + 1)) M I h1 zfl_X3_61 dX3_fillCell_11 rfl ?_
  refine lv_aload_n hx hb dX3_fillCell_14 rfl (lv_at hl 1 rfl) ?_
  refine zgetI M I h0 zfl_X3_18 dX3_fillCell_15 ?_
  refine lv_iload_n hx hb dX3_fillCell_18 rfl (lv_at hl 3 rfl) ?_
  refine lv_iadd hx hb dX3_fillCell_19 ?_
  refine lv_iconst (v := (1 : Int32)) hx hb dX3_fillCell_20 (by decide) ?_
  refine lv_isub hx hb dX3_fillCell_21 ?_
  obtain ⟨x2, e_x2, hr⟩ := zb_some hr
  refine zcallI M I (zrunV (as := [.int (((σ.1 i0 2) + a2) - (1 : Int32))]) M I (c_X6_signAt l g fu (zs_7_0 h1) e_x2) (zs_7_0 h1) zK6.1 (by decide) zlv_X3_65 ⟨Nat.le_of_ble_eq_true rfl, Nat.le_of_ble_eq_true rfl⟩ ⟨Nat.zero_le _, Nat.zero_le _⟩ rfl rfl (Nat.le_of_ble_eq_true rfl) hl.1 dX3_fillCell_22) (fun H locs I => ?_)
  refine lv_aload_n hx hb dX3_fillCell_25 rfl (lv_at hl 2 rfl) ?_
  refine zgetR (j := (i1 + 3)) M I h1 zfl_X3_70 dX3_fillCell_26 rfl ?_
  refine lv_aload_n hx hb dX3_fillCell_29 rfl (lv_at hl 1 rfl) ?_
  refine zgetI M I h0 zfl_X3_25 dX3_fillCell_30 ?_
  refine lv_iload_n hx hb dX3_fillCell_33 rfl (lv_at hl 4 rfl) ?_
  refine lv_iadd hx hb dX3_fillCell_34 ?_
  refine lv_iconst (v := (1 : Int32)) hx hb dX3_fillCell_35 (by decide) ?_
  refine lv_isub hx hb dX3_fillCell_36 ?_
  obtain ⟨x3, e_x3, hr⟩ := zb_some hr
  refine zcallI M I (zrunV (as := [.int (((σ.1 i0 4) + a3) - (1 : Int32))]) M I (c_X6_signAt l g fu (zs_7_1 h1) e_x3) (zs_7_1 h1) zK6.1 (by decide) zlv_X3_65 ⟨Nat.le_of_ble_eq_true rfl, Nat.le_of_ble_eq_true rfl⟩ ⟨Nat.zero_le _, Nat.zero_le _⟩ rfl rfl (Nat.le_of_ble_eq_true rfl) hl.1 dX3_fillCell_37) (fun H locs I => ?_)
  obtain ⟨x4, e_x4, hr⟩ := zb_some hr
  have K_x4 : ∀ (ls : Array Slot) (H : Heap) (locs : List Loc), lv_has ls 10 [(0, .ref (zA g i0)), (1, .ref (zA g i1)), (2, .int a2), (3, .int a3), (4, .int x1)] → zIV g σ (zAA g) s.heap H locs → W p l e (zrm 1 24) s m args below meth c H locs 0 0 (MQ below (zQV g r) args s 0 0 (zAA g)) (F0 m 48 ls [.int x4]) := by
    intro ls H locs hl I
    refine lv_istore (lv' := [(5, .int x4), (0, .ref (zA g i0)), (1, .ref (zA g i1)), (2, .int a2), (3, .int a3), (4, .int x1)]) hx hb dX3_fillCell_48 hl (by decide) rfl (fun ls hl => ?_)
    refine lv_aload_n hx hb dX3_fillCell_50 rfl (lv_at hl 1 rfl) ?_
    refine lv_iload_n hx hb dX3_fillCell_51 rfl (lv_at hl 3 rfl) ?_
    refine lv_iconst (v := (1 : Int32)) hx hb dX3_fillCell_52 (by decide) ?_
    refine lv_isub hx hb dX3_fillCell_53 ?_
    refine lv_iload_n hx hb dX3_fillCell_54 rfl (lv_at hl 4 rfl) ?_
    refine lv_iconst (v := (1 : Int32)) hx hb dX3_fillCell_55 (by decide) ?_
    refine lv_isub hx hb dX3_fillCell_56 ?_
    obtain ⟨x5, e_x5, hr⟩ := zb_some hr
    refine zcallI M I (zrunV (as := [.int (a2 - (1 : Int32)), .int (a3 - (1 : Int32))]) M I (c_X3_costAt l g fu h0 e_x5) h0 zK3.1 (by decide) zlv_X3_46 ⟨Nat.le_of_ble_eq_true rfl, Nat.le_of_ble_eq_true rfl⟩ ⟨Nat.zero_le _, Nat.zero_le _⟩ rfl rfl (Nat.le_of_ble_eq_true rfl) hl.1 dX3_fillCell_57) (fun H locs I => ?_)
    refine lv_iload hx hb dX3_fillCell_60 (lv_at hl 0 rfl) ?_
    obtain ⟨x6, e_x6, hr⟩ := zb_some hr
    have K_x6 : ∀ (ls : Array Slot) (H : Heap) (locs : List Loc), lv_has ls 10 [(0, .ref (zA g i0)), (2, .int a2), (3, .int a3), (4, .int x1)] → zIV g σ (zAA g) s.heap H locs → W p l e (zrm 1 24) s m args below meth c H locs 0 0 (MQ below (zQV g r) args s 0 0 (zAA g)) (F0 m 77 ls [.int x6, .int x5]) := by
      intro ls H locs hl I
      refine lv_iadd hx hb dX3_fillCell_77 ?_
      refine lv_istore (lv' := [(6, .int (x5 + x6)), (0, .ref (zA g i0)), (2, .int a2), (3, .int a3), (4, .int x1)]) hx hb dX3_fillCell_78 hl (by decide) rfl (fun ls hl => ?_)
      refine lv_aload_n hx hb dX3_fillCell_80 rfl (lv_at hl 1 rfl) ?_
      refine lv_iload_n hx hb dX3_fillCell_81 rfl (lv_at hl 2 rfl) ?_
      refine lv_iconst (v := (1 : Int32)) hx hb dX3_fillCell_82 (by decide) ?_
      refine lv_isub hx hb dX3_fillCell_83 ?_
      refine lv_iload_n hx hb dX3_fillCell_84 rfl (lv_at hl 3 rfl) ?_
      obtain ⟨x7, e_x7, hr⟩ := zb_some hr
      refine zcallI M I (zrunV (as := [.int (a2 - (1 : Int32)), .int a3]) M I (c_X3_costAt l g fu h0 e_x7) h0 zK3.1 (by decide) zlv_X3_46 ⟨Nat.le_of_ble_eq_true rfl, Nat.le_of_ble_eq_true rfl⟩ ⟨Nat.zero_le _, Nat.zero_le _⟩ rfl rfl (Nat.le_of_ble_eq_true rfl) hl.1 dX3_fillCell_85) (fun H locs I => ?_)
      refine lv_iload hx hb dX3_fillCell_88 (lv_at hl 4 rfl) ?_
      refine lv_iadd hx hb dX3_fillCell_90 ?_
      refine lv_istore (lv' := [(7, .int (x7 + x1)), (6, .int (x5 + x6)), (0, .ref (zA g i0)), (2, .int a2), (3, .int a3), (4, .int x1)]) hx hb dX3_fillCell_91 hl (by decide) rfl (fun ls hl => ?_)
      refine lv_aload_n hx hb dX3_fillCell_93 rfl (lv_at hl 2 rfl) ?_
      refine lv_iload_n hx hb dX3_fillCell_94 rfl (lv_at hl 3 rfl) ?_
      refine lv_iload_n hx hb dX3_fillCell_95 rfl (lv_at hl 4 rfl) ?_
      refine lv_iconst (v := (1 : Int32)) hx hb dX3_fillCell_96 (by decide) ?_
      refine lv_isub hx hb dX3_fillCell_97 ?_
      obtain ⟨x8, e_x8, hr⟩ := zb_some hr
      refine zcallI M I (zrunV (as := [.int a2, .int (a3 - (1 : Int32))]) M I (c_X3_costAt l g fu h0 e_x8) h0 zK3.1 (by decide) zlv_X3_46 ⟨Nat.le_of_ble_eq_true rfl, Nat.le_of_ble_eq_true rfl⟩ ⟨Nat.zero_le _, Nat.zero_le _⟩ rfl rfl (Nat.le_of_ble_eq_true rfl) hl.1 dX3_fillCell_98) (fun H locs I => ?_)
      refine lv_iload hx hb dX3_fillCell_101 (lv_at hl 5 rfl) ?_
      refine lv_iadd hx hb dX3_fillCell_103 ?_
      refine lv_istore (lv' := [(8, .int (x8 + x1)), (7, .int (x7 + x1)), (6, .int (x5 + x6)), (0, .ref (zA g i0)), (2, .int a2), (3, .int a3), (4, .int x1)]) hx hb dX3_fillCell_104 hl (by decide) rfl (fun ls hl => ?_)
      refine lv_iload hx hb dX3_fillCell_106 (lv_at hl 2 rfl) ?_
      refine lv_iload hx hb dX3_fillCell_108 (lv_at hl 1 rfl) ?_
      refine lv_iload hx hb dX3_fillCell_110 (lv_at hl 0 rfl) ?_
      refine va_mmin (own := RX3) hx hb (M.1.2.2.1.trans hl.1.symm) M.1.2.2.2.1 (M.1.2.2.2.2 _ (zin (i := 515) (by decide +kernel) rfl)) (M.1.2.2.2.2 _ (zin (i := 516) (by decide +kernel) rfl)) (M.1.2.2.2.2 _ (zin (i := 86) (by decide +kernel) rfl)) (M.1.2.2.2.2 _ (zin (i := 517) (by decide +kernel) rfl)) (Nat.le_of_ble_eq_true rfl) (Nat.le_of_ble_eq_true rfl) (Nat.zero_le _) (Nat.zero_le _) dX3_fillCell_112 ?_
      refine va_mmin (own := RX3) hx hb (M.1.2.2.1.trans hl.1.symm) M.1.2.2.2.1 (M.1.2.2.2.2 _ (zin (i := 515) (by decide +kernel) rfl)) (M.1.2.2.2.2 _ (zin (i := 516) (by decide +kernel) rfl)) (M.1.2.2.2.2 _ (zin (i := 86) (by decide +kernel) rfl)) (M.1.2.2.2.2 _ (zin (i := 517) (by decide +kernel) rfl)) (Nat.le_of_ble_eq_true rfl) (Nat.le_of_ble_eq_true rfl) (Nat.zero_le _) (Nat.zero_le _) dX3_fillCell_115 ?_
      refine lv_istore (lv' := [(9, .int (zmin (x5 + x6) (zmin (x7 + x1) (x8 + x1)))), (8, .int (x8 + x1)), (7, .int (x7 + x1)), (6, .int (x5 + x6)), (0, .ref (zA g i0)), (2, .int a2), (3, .int a3), (4, .int x1)]) hx hb dX3_fillCell_118 hl (by decide) rfl (fun ls hl => ?_)
      refine lv_iload hx hb dX3_fillCell_120 (lv_at hl 3 rfl) ?_
      refine lv_iload hx hb dX3_fillCell_122 (lv_at hl 0 rfl) ?_
      refine lv_icmp_ne (tgt := 139) hx hb dX3_fillCell_124 (by decide) (fun c13 => ?_) (fun c13 => ?_)
      · replace hr := zif_t hr c13
        refine lv_aload_n hx hb dX3_fillCell_139 rfl (lv_at hl 4 rfl) ?_
        refine lv_iload_n hx hb dX3_fillCell_140 rfl (lv_at hl 5 rfl) ?_
        refine lv_iload_n hx hb dX3_fillCell_141 rfl (lv_at hl 6 rfl) ?_
        refine lv_iload hx hb dX3_fillCell_142 (lv_at hl 0 rfl) ?_
        refine lv_iload hx hb dX3_fillCell_144 (lv_at hl 2 rfl) ?_
        refine lv_iload hx hb dX3_fillCell_146 (lv_at hl 0 rfl) ?_
        obtain ⟨x9, e_x9, hr⟩ := zb_some hr
        have K_x9 : ∀ (ls : Array Slot) (H : Heap) (locs : List Loc), lv_has ls 10 [] → zIV g σ (zAA g) s.heap H locs → W p l e (zrm 1 24) s m args below meth c H locs 0 0 (MQ below (zQV g r) args s 0 0 (zAA g)) (F0 m 156 ls [.int x9, .int (zmin (x5 + x6) (zmin (x7 + x1) (x8 + x1))), .int a3, .int a2, .ref (zA g i0)]) := by
          intro ls H locs hl I
          obtain ⟨x10, e_x10, hr⟩ := zb_some hr
          refine zcallU M I (zrunV (as := [.int a2, .int a3, .int (zmin (x5 + x6) (zmin (x7 + x1) (x8 + x1))), .int x9]) M I (c_X3_store l g fu h0 e_x10) h0 zK3.1 (by decide) zlv_X3_38 ⟨Nat.le_of_ble_eq_true rfl, Nat.le_of_ble_eq_true rfl⟩ ⟨Nat.zero_le _, Nat.zero_le _⟩ rfl rfl (Nat.le_of_ble_eq_true rfl) hl.1 dX3_fillCell_156) (fun H locs I => ?_)
          obtain rfl := Option.some.inj hr
          exact zretV M I dX3_fillCell_159
        refine lv_icmp_ne (tgt := 155) hx hb dX3_fillCell_148 (by decide) (fun c11 => ?_) (fun c11 => ?_)
        · replace e_x9 := zif_t e_x9 c11
          refine lv_iconst (v := (2 : Int32)) hx hb dX3_fillCell_155 (by decide) ?_
          obtain rfl := Option.some.inj e_x9
          exact K_x9 ls _ _ (lv_sub hl [] rfl) I
        · replace e_x9 := zif_f e_x9 (fun hq => hq c11)
          refine lv_iconst (v := (1 : Int32)) hx hb dX3_fillCell_151 (by decide) ?_
          refine lv_goto (tgt := 156) hx hb dX3_fillCell_152 (by decide) ?_
          obtain rfl := Option.some.inj e_x9
          exact K_x9 ls _ _ (lv_sub hl [] rfl) I
      · replace hr := zif_f hr (fun hq => hq c13)
        refine lv_aload_n hx hb dX3_fillCell_127 rfl (lv_at hl 4 rfl) ?_
        refine lv_iload_n hx hb dX3_fillCell_128 rfl (lv_at hl 5 rfl) ?_
        refine lv_iload_n hx hb dX3_fillCell_129 rfl (lv_at hl 6 rfl) ?_
        refine lv_iload hx hb dX3_fillCell_130 (lv_at hl 0 rfl) ?_
        refine lv_iconst (v := (0 : Int32)) hx hb dX3_fillCell_132 (by decide) ?_
        obtain ⟨x12, e_x12, hr⟩ := zb_some hr
        refine zcallU M I (zrunV (as := [.int a2, .int a3, .int (zmin (x5 + x6) (zmin (x7 + x1) (x8 + x1))), .int (0 : Int32)]) M I (c_X3_store l g fu h0 e_x12) h0 zK3.1 (by decide) zlv_X3_38 ⟨Nat.le_of_ble_eq_true rfl, Nat.le_of_ble_eq_true rfl⟩ ⟨Nat.zero_le _, Nat.zero_le _⟩ rfl rfl (Nat.le_of_ble_eq_true rfl) hl.1 dX3_fillCell_133) (fun H locs I => ?_)
        refine lv_goto (tgt := 159) hx hb dX3_fillCell_136 (by decide) ?_
        obtain rfl := Option.some.inj hr
        exact zretV M I dX3_fillCell_159
    refine lv_if_eq (tgt := 69) hx hb dX3_fillCell_62 (by decide) (fun c15 => ?_) (fun c15 => ?_)
    · replace e_x6 := zif_t e_x6 c15
      refine lv_aload_n hx hb dX3_fillCell_69 rfl (lv_at hl 2 rfl) ?_
      refine zgetR (j := (i1 + 5)) M I h1 zfl_X3_50 dX3_fillCell_70 rfl ?_
      refine lv_iconst (v := (1 : Int32)) hx hb dX3_fillCell_73 (by decide) ?_
      obtain ⟨x14, e_x14, e_x6⟩ := zb_some e_x6
      refine zcallI M I (zrunV (as := [.int (1 : Int32)]) M I (c_X1_at l g fu (zs_7_2 h1) e_x14) (zs_7_2 h1) zK1.1 (by decide) zlv_X3_56 ⟨Nat.le_of_ble_eq_true rfl, Nat.le_of_ble_eq_true rfl⟩ ⟨Nat.zero_le _, Nat.zero_le _⟩ rfl rfl (Nat.le_of_ble_eq_true rfl) hl.1 dX3_fillCell_74) (fun H locs I => ?_)
      obtain rfl := Option.some.inj e_x6
      exact K_x6 ls _ _ (lv_sub hl [1, 3, 4, 5] rfl) I
    · replace e_x6 := zif_f e_x6 c15
      refine lv_iconst (v := (0 : Int32)) hx hb dX3_fillCell_65 (by decide) ?_
      refine lv_goto (tgt := 77) hx hb dX3_fillCell_66 (by decide) ?_
      obtain rfl := Option.some.inj e_x6
      exact K_x6 ls _ _ (lv_sub hl [1, 3, 4, 5] rfl) I
  refine lv_icmp_ne (tgt := 47) hx hb dX3_fillCell_40 (by decide) (fun c16 => ?_) (fun c16 => ?_)
  · replace e_x4 := zif_t e_x4 c16
    refine lv_iconst (v := (0 : Int32)) hx hb dX3_fillCell_47 (by decide) ?_
    obtain rfl := Option.some.inj e_x4
    exact K_x4 ls _ _ (lv_sub hl [1, 2, 3, 4, 0] rfl) I
  · replace e_x4 := zif_f e_x4 (fun hq => hq c16)
    refine lv_iconst (v := (1 : Int32)) hx hb dX3_fillCell_43 (by decide) ?_
    refine lv_goto (tgt := 48) hx hb dX3_fillCell_44 (by decide) ?_
    obtain rfl := Option.some.inj e_x4
    exact K_x4 ls _ _ (lv_sub hl [1, 2, 3, 4, 0] rfl) I
def l_X3_fill_13 (fu : Nat) (i0 : Nat) (i1 : Nat) (a2 : Int32) (a3 : Int32) : Nat → Int32 → zmem → Option (zmem)
  | 0, _, _ => none
  | n + 1, v4, σ => (if (σ.1 i0 5) < v4 then some σ else ((if (zabs (a3 - v4)) ≤ a2 then (if ¬ a3 = 0 then (m_X3_fillCell fu σ i0 i1 a3 v4).bind fun x2 => some x2 else (if ¬ v4 = 0 then (m_X3_fillCell fu σ i0 i1 a3 v4).bind fun x3 => some x3 else (m_X3_store fu σ i0 a3 v4 (0 : Int32) (-1 : Int32)).bind fun x4 => some x4)) else (m_X3_store fu σ i0 a3 v4 (1000000 : Int32) (-1 : Int32)).bind fun x7 => some x7) : Option (zmem)).bind fun x1 => l_X3_fill_13 fu i0 i1 a2 a3 n (v4 + 1) x1)
set_option maxHeartbeats 4000000 in
set_option maxRecDepth 100000 in
theorem k_X3_fill_13 {l : Launch} {g : zgeo} {fu : Nat} {p : Program} {e : Env} {s : State} {m : MethodId} {args : Array Value} {below : List Frame} {meth : Method} {c : Code} (M : zMC RX3 cX3_fill 5 (some .int) g p m c s args meth) {i0 : Nat} {i1 : Nat} {a2 : Int32} {a3 : Int32} (h0 : zkd i0 = (3, 0)) (h1 : zkd i1 = (7, 0)) {Q : State → Prop} : ∀ (n : Nat) (v4 : Int32) (σ : zmem) (o : zmem), l_X3_fill_13 fu i0 i1 a2 a3 n v4 σ = some o → ∀ (ls : Array Slot) (H : Heap) (locs : List Loc), lv_has ls 5 [(0, .ref (zA g i0)), (1, .ref (zA g i1)), (2, .int a2), (3, .int a3), (4, .int v4)] → zIV g σ (zAA g) s.heap H locs → (∀ (ls : Array Slot) (H : Heap) (locs : List Loc), lv_has ls 5 [(0, .ref (zA g i0)), (1, .ref (zA g i1)), (2, .int a2), (3, .int a3)] → zIV g o (zAA g) s.heap H locs → W p l e (zrm 2 53) s m args below meth c H locs 0 0 Q (F0 m 81 ls [])) → W p l e (zrm 2 53) s m args below meth c H locs 0 0 Q (F0 m 13 ls []) := by
  have hx := M.1.1
  have hb := M.1.2.1
  intro n
  induction n with
  | zero =>
    intro v4 σ o hr ls H locs hl I KF
    have hr : (none : Option (zmem)) = some o := hr
    cases hr
  | succ n ih =>
    intro v4 σ o hr ls H locs hl I KF
    rw [l_X3_fill_13] at hr
    refine lv_iload hx hb dX3_fill_13 (lv_at hl 4 rfl) ?_
    refine lv_aload_n hx hb dX3_fill_15 rfl (lv_at hl 0 rfl) ?_
    refine zgetI M I h0 zfl_X3_28 dX3_fill_16 ?_
    refine lv_icmp_gt (tgt := 81) hx hb dX3_fill_19 (by decide) (fun c9 => ?_) (fun c9 => ?_)
    · replace hr := zif_t hr c9
      obtain rfl := Option.some.inj hr
      exact KF ls _ _ (lv_sub hl [0, 1, 2, 3] rfl) I
    · replace hr := zif_f hr c9
      refine lv_iload_n hx hb dX3_fill_22 rfl (lv_at hl 3 rfl) ?_
      refine lv_iload hx hb dX3_fill_23 (lv_at hl 4 rfl) ?_
      refine lv_isub hx hb dX3_fill_25 ?_
      refine va_mabs (own := RX3) hx hb (M.1.2.2.1.trans hl.1.symm) M.1.2.2.2.1 (M.1.2.2.2.2 _ (zin (i := 499) (by decide +kernel) rfl)) (M.1.2.2.2.2 _ (zin (i := 492) (by decide +kernel) rfl)) (M.1.2.2.2.2 _ (zin (i := 86) (by decide +kernel) rfl)) (M.1.2.2.2.2 _ (zin (i := 493) (by decide +kernel) rfl)) (Nat.le_of_ble_eq_true rfl) (Nat.le_of_ble_eq_true rfl) (Nat.zero_le _) (Nat.zero_le _) dX3_fill_26 ?_
      refine lv_iload_n hx hb dX3_fill_29 rfl (lv_at hl 2 rfl) ?_
      obtain ⟨x1, e_x1, hr⟩ := zb_some hr
      have K_x1 : ∀ (ls : Array Slot) (H : Heap) (locs : List Loc), lv_has ls 5 [(0, .ref (zA g i0)), (1, .ref (zA g i1)), (2, .int a2), (3, .int a3), (4, .int v4)] → zIV g x1 (zAA g) s.heap H locs → W p l e (zrm 2 53) s m args below meth c H locs 0 0 Q (F0 m 75 ls []) := by
        intro ls H locs hl I
        refine lv_iinc (lv' := [(4, .int (v4 + 1)), (0, .ref (zA g i0)), (1, .ref (zA g i1)), (2, .int a2), (3, .int a3)]) (k := 4) (v := (v4 + 1)) hx hb dX3_fill_75 hl rfl (zi_1 _) (by decide) rfl (fun ls hl => ?_)
        refine lv_goto (tgt := 13) hx hb dX3_fill_78 (by decide) ?_
        exact ih _ _  _ hr ls _ _ (lv_sub hl [1, 2, 3, 4, 0] rfl) I KF
      refine lv_icmp_le (tgt := 46) hx hb dX3_fill_30 (by decide) (fun c8 => ?_) (fun c8 => ?_)
      · replace e_x1 := zif_t e_x1 c8
        refine lv_iload_n hx hb dX3_fill_46 rfl (lv_at hl 3 rfl) ?_
        refine lv_if_ne (tgt := 67) hx hb dX3_fill_47 (by decide) (fun c6 => ?_) (fun c6 => ?_)
        · replace e_x1 := zif_t e_x1 c6
          refine lv_aload_n hx hb dX3_fill_67 rfl (lv_at hl 0 rfl) ?_
          refine lv_aload_n hx hb dX3_fill_68 rfl (lv_at hl 1 rfl) ?_
          refine lv_iload_n hx hb dX3_fill_69 rfl (lv_at hl 3 rfl) ?_
          refine lv_iload hx hb dX3_fill_70 (lv_at hl 4 rfl) ?_
          obtain ⟨x2, e_x2, e_x1⟩ := zb_some e_x1
          refine zcallU M I (zrunV (as := [.ref (zA g i1), .int a3, .int v4]) M I (c_X3_fillCell l g fu h0 h1 e_x2) h0 zK3.1 (by decide) zlv_X3_42 ⟨Nat.le_of_ble_eq_true rfl, Nat.le_of_ble_eq_true rfl⟩ ⟨Nat.zero_le _, Nat.zero_le _⟩ rfl rfl (Nat.le_of_ble_eq_true rfl) hl.1 dX3_fill_72) (fun H locs I => ?_)
          obtain rfl := Option.some.inj e_x1
          exact K_x1 ls _ _ hl I
        · replace e_x1 := zif_f e_x1 (fun hq => hq c6)
          refine lv_iload hx hb dX3_fill_50 (lv_at hl 4 rfl) ?_
          refine lv_if_ne (tgt := 67) hx hb dX3_fill_52 (by decide) (fun c5 => ?_) (fun c5 => ?_)
          · replace e_x1 := zif_t e_x1 c5
            refine lv_aload_n hx hb dX3_fill_67 rfl (lv_at hl 0 rfl) ?_
            refine lv_aload_n hx hb dX3_fill_68 rfl (lv_at hl 1 rfl) ?_
            refine lv_iload_n hx hb dX3_fill_69 rfl (lv_at hl 3 rfl) ?_
            refine lv_iload hx hb dX3_fill_70 (lv_at hl 4 rfl) ?_
            obtain ⟨x3, e_x3, e_x1⟩ := zb_some e_x1
            refine zcallU M I (zrunV (as := [.ref (zA g i1), .int a3, .int v4]) M I (c_X3_fillCell l g fu h0 h1 e_x3) h0 zK3.1 (by decide) zlv_X3_42 ⟨Nat.le_of_ble_eq_true rfl, Nat.le_of_ble_eq_true rfl⟩ ⟨Nat.zero_le _, Nat.zero_le _⟩ rfl rfl (Nat.le_of_ble_eq_true rfl) hl.1 dX3_fill_72) (fun H locs I => ?_)
            obtain rfl := Option.some.inj e_x1
            exact K_x1 ls _ _ hl I
          · replace e_x1 := zif_f e_x1 (fun hq => hq c5)
            refine lv_aload_n hx hb dX3_fill_55 rfl (lv_at hl 0 rfl) ?_
            refine lv_iload_n hx hb dX3_fill_56 rfl (lv_at hl 3 rfl) ?_
            refine lv_iload hx hb dX3_fill_57 (lv_at hl 4 rfl) ?_
            refine lv_iconst (v := (0 : Int32)) hx hb dX3_fill_59 (by decide) ?_
            refine lv_iconst (v := (-1 : Int32)) hx hb dX3_fill_60 (by decide) ?_
            obtain ⟨x4, e_x4, e_x1⟩ := zb_some e_x1
            refine zcallU M I (zrunV (as := [.int a3, .int v4, .int (0 : Int32), .int (-1 : Int32)]) M I (c_X3_store l g fu h0 e_x4) h0 zK3.1 (by decide) zlv_X3_38 ⟨Nat.le_of_ble_eq_true rfl, Nat.le_of_ble_eq_true rfl⟩ ⟨Nat.zero_le _, Nat.zero_le _⟩ rfl rfl (Nat.le_of_ble_eq_true rfl) hl.1 dX3_fill_61) (fun H locs I => ?_)
            refine lv_goto (tgt := 75) hx hb dX3_fill_64 (by decide) ?_
            obtain rfl := Option.some.inj e_x1
            exact K_x1 ls _ _ hl I
      · replace e_x1 := zif_f e_x1 c8
        refine lv_aload_n hx hb dX3_fill_33 rfl (lv_at hl 0 rfl) ?_
        refine lv_iload_n hx hb dX3_fill_34 rfl (lv_at hl 3 rfl) ?_
        refine lv_iload hx hb dX3_fill_35 (lv_at hl 4 rfl) ?_
        refine lv_ldc (own := RX3) (v := (1000000 : Int32)) hx hb M.1.2.2.2.1 (M.1.2.2.2.2 _ (zin (i := 500) (by decide +kernel) rfl)) dX3_fill_37 ?_
        refine lv_iconst (v := (-1 : Int32)) hx hb dX3_fill_39 (by decide) ?_
        obtain ⟨x7, e_x7, e_x1⟩ := zb_some e_x1
        refine zcallU M I (zrunV (as := [.int a3, .int v4, .int (1000000 : Int32), .int (-1 : Int32)]) M I (c_X3_store l g fu h0 e_x7) h0 zK3.1 (by decide) zlv_X3_38 ⟨Nat.le_of_ble_eq_true rfl, Nat.le_of_ble_eq_true rfl⟩ ⟨Nat.zero_le _, Nat.zero_le _⟩ rfl rfl (Nat.le_of_ble_eq_true rfl) hl.1 dX3_fill_40) (fun H locs I => ?_)
        refine lv_goto (tgt := 75) hx hb dX3_fill_43 (by decide) ?_
        obtain rfl := Option.some.inj e_x1
        exact K_x1 ls _ _ hl I
def l_X3_fill_2 (fu : Nat) (i0 : Nat) (i1 : Nat) (a2 : Int32) : Nat → Int32 → zmem → Option (zmem)
  | 0, _, _ => none
  | n + 1, v3, σ => (if (σ.1 i0 3) < v3 then some σ else (l_X3_fill_13 fu i0 i1 a2 v3 fu (0 : Int32) σ).bind fun x10 => l_X3_fill_2 fu i0 i1 a2 n (v3 + 1) x10)
set_option maxHeartbeats 4000000 in
set_option maxRecDepth 100000 in
theorem k_X3_fill_2 {l : Launch} {g : zgeo} {fu : Nat} {p : Program} {e : Env} {s : State} {m : MethodId} {args : Array Value} {below : List Frame} {meth : Method} {c : Code} (M : zMC RX3 cX3_fill 5 (some .int) g p m c s args meth) {i0 : Nat} {i1 : Nat} {a2 : Int32} (h0 : zkd i0 = (3, 0)) (h1 : zkd i1 = (7, 0)) {Q : State → Prop} : ∀ (n : Nat) (v3 : Int32) (σ : zmem) (o : zmem), l_X3_fill_2 fu i0 i1 a2 n v3 σ = some o → ∀ (ls : Array Slot) (H : Heap) (locs : List Loc), lv_has ls 5 [(0, .ref (zA g i0)), (1, .ref (zA g i1)), (2, .int a2), (3, .int v3)] → zIV g σ (zAA g) s.heap H locs → (∀ (ls : Array Slot) (H : Heap) (locs : List Loc), lv_has ls 5 [(0, .ref (zA g i0))] → zIV g o (zAA g) s.heap H locs → W p l e (zrm 2 53) s m args below meth c H locs 0 0 Q (F0 m 87 ls [])) → W p l e (zrm 2 53) s m args below meth c H locs 0 0 Q (F0 m 2 ls []) := by
  have hx := M.1.1
  have hb := M.1.2.1
  intro n
  induction n with
  | zero =>
    intro v3 σ o hr ls H locs hl I KF
    have hr : (none : Option (zmem)) = some o := hr
    cases hr
  | succ n ih =>
    intro v3 σ o hr ls H locs hl I KF
    rw [l_X3_fill_2] at hr
    refine lv_iload_n hx hb dX3_fill_2 rfl (lv_at hl 3 rfl) ?_
    refine lv_aload_n hx hb dX3_fill_3 rfl (lv_at hl 0 rfl) ?_
    refine zgetI M I h0 zfl_X3_22 dX3_fill_4 ?_
    refine lv_icmp_gt (tgt := 87) hx hb dX3_fill_7 (by decide) (fun c11 => ?_) (fun c11 => ?_)
    · replace hr := zif_t hr c11
      obtain rfl := Option.some.inj hr
      exact KF ls _ _ (lv_sub hl [0] rfl) I
    · replace hr := zif_f hr c11
      refine lv_iconst (v := (0 : Int32)) hx hb dX3_fill_10 (by decide) ?_
      refine lv_istore (lv' := [(4, .int (0 : Int32)), (0, .ref (zA g i0)), (1, .ref (zA g i1)), (2, .int a2), (3, .int v3)]) hx hb dX3_fill_11 hl (by decide) rfl (fun ls hl => ?_)
      obtain ⟨x10, e_x10, hr⟩ := zb_some hr
      refine k_X3_fill_13 M h0 h1 fu _ _  _ e_x10 ls _ _ (lv_sub hl [1, 2, 3, 4, 0] rfl) I (fun ls H locs hl I => ?_)
      refine lv_iinc (lv' := [(3, .int (v3 + 1)), (0, .ref (zA g i0)), (1, .ref (zA g i1)), (2, .int a2)]) (k := 3) (v := (v3 + 1)) hx hb dX3_fill_81 hl rfl (zi_1 _) (by decide) rfl (fun ls hl => ?_)
      refine lv_goto (tgt := 2) hx hb dX3_fill_84 (by decide) ?_
      exact ih _ _  _ hr ls _ _ (lv_sub hl [1, 2, 3, 0] rfl) I KF
def m_X3_fill (fu : Nat) (σ : zmem) (i0 : Nat) (i1 : Nat) (a2 : Int32) : Option (Int32 × zmem) := (l_X3_fill_2 fu i0 i1 a2 fu (0 : Int32) σ).bind fun x12 => (m_X3_costAt fu x12 i0 (x12.1 i0 3) (x12.1 i0 5)).bind fun x13 => some (x13, x12)
set_option maxHeartbeats 4000000 in
set_option maxRecDepth 100000 in
theorem c_X3_fill (l : Launch) (g : zgeo) (fu : Nat) {σ : zmem} {i0 : Nat} {i1 : Nat} {a2 : Int32} {r : Int32 × zmem} (h0 : zkd i0 = (3, 0)) (h1 : zkd i1 = (7, 0)) (hr : m_X3_fill fu σ i0 i1 a2 = some r) : zCt (zQI g r.1 r.2) l g yX3_fill cX3_fill 5 (some .int) 2 53 [.ref (zA g i0), .ref (zA g i1), .int a2] σ := by
  refine zopen (by decide) (Nat.le_of_ble_eq_true rfl) ?_
  intro p e s m below meth c M ls hl I
  have M : zMC RX3 cX3_fill 5 (some .int) g p m c s ([.ref (zA g i0), .ref (zA g i1), .int a2] : List Value).toArray meth := M
  have hl : lv_has ls 5 [(0, .ref (zA g i0)), (1, .ref (zA g i1)), (2, .int a2)] := hl
  generalize ([.ref (zA g i0), .ref (zA g i1), .int a2] : List Value).toArray = args at M ⊢
  have hx := M.1.1
  have hb := M.1.2.1
  unfold m_X3_fill at hr
  refine lv_iconst (v := (0 : Int32)) hx hb dX3_fill_0 (by decide) ?_
  refine lv_istore_n (lv' := [(3, .int (0 : Int32)), (0, .ref (zA g i0)), (1, .ref (zA g i1)), (2, .int a2)]) hx hb dX3_fill_1 rfl hl (by decide) rfl (fun ls hl => ?_)
  obtain ⟨x12, e_x12, hr⟩ := zb_some hr
  refine k_X3_fill_2 M h0 h1 fu _ _  _ e_x12 ls _ _ (lv_sub hl [1, 2, 3, 0] rfl) I (fun ls H locs hl I => ?_)
  refine lv_aload_n hx hb dX3_fill_87 rfl (lv_at hl 0 rfl) ?_
  refine lv_aload_n hx hb dX3_fill_88 rfl (lv_at hl 0 rfl) ?_
  refine zgetI M I h0 zfl_X3_22 dX3_fill_89 ?_
  refine lv_aload_n hx hb dX3_fill_92 rfl (lv_at hl 0 rfl) ?_
  refine zgetI M I h0 zfl_X3_28 dX3_fill_93 ?_
  obtain ⟨x13, e_x13, hr⟩ := zb_some hr
  refine zcallI M I (zrunV (as := [.int (x12.1 i0 3), .int (x12.1 i0 5)]) M I (c_X3_costAt l g fu h0 e_x13) h0 zK3.1 (by decide) zlv_X3_46 ⟨Nat.le_of_ble_eq_true rfl, Nat.le_of_ble_eq_true rfl⟩ ⟨Nat.zero_le _, Nat.zero_le _⟩ rfl rfl (Nat.le_of_ble_eq_true rfl) hl.1 dX3_fill_96) (fun H locs I => ?_)
  obtain rfl := Option.some.inj hr
  exact zretI M I dX3_fill_99
def m_X3_stepAt (fu : Nat) (σ : zmem) (i0 : Nat) (a1 : Int32) (a2 : Int32) : Option (Int32) := (if a1 < 0 then some (-1 : Int32) else (if (25 : Int32) ≤ a1 then some (-1 : Int32) else (if a2 < 0 then some (-1 : Int32) else (if a2 < (25 : Int32) then (zrd σ (i0 + 2) ((a1 * (25 : Int32)) + a2)).bind fun x1 => some x1 else some (-1 : Int32)))))
set_option maxHeartbeats 4000000 in
set_option maxRecDepth 100000 in
theorem c_X3_stepAt (l : Launch) (g : zgeo) (fu : Nat) {σ : zmem} {i0 : Nat} {a1 : Int32} {a2 : Int32} {r : Int32} (h0 : zkd i0 = (3, 0)) (hr : m_X3_stepAt fu σ i0 a1 a2 = some r) : zCt (zQI g r σ) l g yX3_stepAt cX3_stepAt 3 (some .int) 0 0 [.ref (zA g i0), .int a1, .int a2] σ := by
  refine zopen (by decide) (Nat.le_of_ble_eq_true rfl) ?_
  intro p e s m below meth c M ls hl I
  have M : zMC RX3 cX3_stepAt 3 (some .int) g p m c s ([.ref (zA g i0), .int a1, .int a2] : List Value).toArray meth := M
  have hl : lv_has ls 3 [(0, .ref (zA g i0)), (1, .int a1), (2, .int a2)] := hl
  generalize ([.ref (zA g i0), .int a1, .int a2] : List Value).toArray = args at M ⊢
  have hx := M.1.1
  have hb := M.1.2.1
  unfold m_X3_stepAt at hr
  refine lv_iload_n hx hb dX3_stepAt_0 rfl (lv_at hl 1 rfl) ?_
  refine lv_if_lt (tgt := 20) hx hb dX3_stepAt_1 (by decide) (fun c5 => ?_) (fun c5 => ?_)
  · replace hr := zif_t hr c5
    refine lv_iconst (v := (-1 : Int32)) hx hb dX3_stepAt_20 (by decide) ?_
    obtain rfl := Option.some.inj hr
    exact zretI M I dX3_stepAt_21
  · replace hr := zif_f hr c5
    refine lv_iload_n hx hb dX3_stepAt_4 rfl (lv_at hl 1 rfl) ?_
    refine lv_bipush (v := (25 : Int32)) hx hb dX3_stepAt_5 (by decide) ?_
    refine lv_icmp_ge (tgt := 20) hx hb dX3_stepAt_7 (by decide) (fun c4 => ?_) (fun c4 => ?_)
    · replace hr := zif_t hr c4
      refine lv_iconst (v := (-1 : Int32)) hx hb dX3_stepAt_20 (by decide) ?_
      obtain rfl := Option.some.inj hr
      exact zretI M I dX3_stepAt_21
    · replace hr := zif_f hr c4
      refine lv_iload_n hx hb dX3_stepAt_10 rfl (lv_at hl 2 rfl) ?_
      refine lv_if_lt (tgt := 20) hx hb dX3_stepAt_11 (by decide) (fun c3 => ?_) (fun c3 => ?_)
      · replace hr := zif_t hr c3
        refine lv_iconst (v := (-1 : Int32)) hx hb dX3_stepAt_20 (by decide) ?_
        obtain rfl := Option.some.inj hr
        exact zretI M I dX3_stepAt_21
      · replace hr := zif_f hr c3
        refine lv_iload_n hx hb dX3_stepAt_14 rfl (lv_at hl 2 rfl) ?_
        refine lv_bipush (v := (25 : Int32)) hx hb dX3_stepAt_15 (by decide) ?_
        refine lv_icmp_lt (tgt := 22) hx hb dX3_stepAt_17 (by decide) (fun c2 => ?_) (fun c2 => ?_)
        · replace hr := zif_t hr c2
          refine lv_aload_n hx hb dX3_stepAt_22 rfl (lv_at hl 0 rfl) ?_
          refine zgetR (j := (i0 + 2)) M I h0 zfl_X3_15 dX3_stepAt_23 rfl ?_
          refine lv_iload_n hx hb dX3_stepAt_26 rfl (lv_at hl 1 rfl) ?_
          refine lv_bipush (v := (25 : Int32)) hx hb dX3_stepAt_27 (by decide) ?_
          refine lv_imul hx hb dX3_stepAt_29 ?_
          refine lv_iload_n hx hb dX3_stepAt_30 rfl (lv_at hl 2 rfl) ?_
          refine lv_iadd hx hb dX3_stepAt_31 ?_
          obtain ⟨x1, e_x1, hr⟩ := zb_some hr
          refine ziald M I (zs_3_1 h0) e_x1 dX3_stepAt_32 ?_
          obtain rfl := Option.some.inj hr
          exact zretI M I dX3_stepAt_33
        · replace hr := zif_f hr c2
          refine lv_iconst (v := (-1 : Int32)) hx hb dX3_stepAt_20 (by decide) ?_
          obtain rfl := Option.some.inj hr
          exact zretI M I dX3_stepAt_21
