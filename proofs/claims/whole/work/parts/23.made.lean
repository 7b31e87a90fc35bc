def zini : List Nat := [2, 0, 0, 0, 0, 0, 0, 1, 0, 0, 0, 0, 0, 0, 1, 0, 0, 0, 0, 0, 0, 1, 0, 0, 0, 0, 0, 0, 1, 0, 0, 0, 0, 0, 0, 0, 0, 0, 0, 0, 0, 0, 0, 0, 0, 0, 0, 0, 0, 0, 0, 0, 0, 0, 0, 0, 0, 0, 0, 0, 0, 0, 0, 0, 0, 0, 0, 0, 0, 0, 0, 0, 0, 0, 0, 0, 0, 0, 0, 0, 0, 0, 0, 0, 0, 0, 0, 0, 0, 0, 0, 0, 0, 0, 0, 0, 0, 0, 0, 0, 0, 0, 0, 0, 1, 0, 0, 0, 0, 0, 0, 0, 0, 0, 0, 0, 0, 0, 0, 0, 0, 0, 0, 0, 0]
def zst4 (j : Nat) : Int32 := if j = 3 then 4 else if j = 2 then 3 else if j = 1 then 2 else if j = 0 then 3 else 0
/-- the memory of a new system -/
def zσ0 : zmem := (fun i j => if zini.getD i 0 = 1 then zst4 j else if zini.getD i 0 = 2 then (if j = 11 then 1 else 0) else 0, fun _ _ => 0)
theorem zσ0_z (j : Nat) (h : zini.getD j 0 = 0) : zσ0.1 j = fun _ => 0 := funext fun k => by
  show (if zini.getD j 0 = 1 then zst4 k else if zini.getD j 0 = 2 then (if k = 11 then 1 else 0) else 0) = 0
  rw [h]
  rfl
theorem zσ0_1 (j : Nat) (h : zini.getD j 0 = 1) : zσ0.1 j = zst4 := funext fun k => by
  show (if zini.getD j 0 = 1 then zst4 k else if zini.getD j 0 = 2 then (if k = 11 then 1 else 0) else 0) = zst4 k
  rw [if_pos h]
theorem zinq (lo hi : Nat) (h : ∀ k, k < hi - lo → zini.getD (lo + k) 0 = 0) (j : Nat) (h1 : lo ≤ j) (h2 : j < hi) : zini.getD j 0 = 0 := by
  have := h (j - lo) (by omega)
  rwa [show lo + (j - lo) = j by omega] at this
theorem zst4_eq {a : Nat} : (zst (zst (zst (zst zσz a 0 3) a 1 2) a 2 3) a 3 4).1 a = zst4 := funext fun k => by
  show zup (zup (zup (zup zσz.1 a 0 3) a 1 2) a 2 3) a 3 4 a k = _
  unfold zup zst4
  by_cases h3 : k = 3
  · rw [if_pos ⟨rfl, h3⟩, if_pos h3]
  · rw [if_neg (fun q => h3 q.2), if_neg h3]
    by_cases h2 : k = 2
    · rw [if_pos ⟨rfl, h2⟩, if_pos h2]
    · rw [if_neg (fun q => h2 q.2), if_neg h2]
      by_cases h1 : k = 1
      · rw [if_pos ⟨rfl, h1⟩, if_pos h1]
      · rw [if_neg (fun q => h1 q.2), if_neg h1]
        by_cases h0 : k = 0
        · rw [if_pos ⟨rfl, h0⟩, if_pos h0]
        · rw [if_neg (fun q => h0 q.2), if_neg h0]
          rfl
theorem zst4_ne {a j : Nat} (h : j ≠ a) : (zst (zst (zst (zst zσz a 0 3) a 1 2) a 2 3) a 3 4).1 j = fun _ => 0 := by
  show zup (zup (zup (zup zσz.1 a 0 3) a 1 2) a 2 3) a 3 4 j = _
  rw [zup_ne h, zup_ne h, zup_ne h, zup_ne h]
  rfl
theorem zσs7 {i : Nat} (hi : zkd i = (7, 0)) (j : Nat) (h1 : i < j) (h2 : j < i + 7) : zσ0.1 j = (zst (zst (zst (zst zσz (i + 5 + 1) 0 3) (i + 5 + 1) 1 2) (i + 5 + 1) 2 3) (i + 5 + 1) 3 4).1 j ∧ zσ0.2 j = (zst (zst (zst (zst zσz (i + 5 + 1) 0 3) (i + 5 + 1) 1 2) (i + 5 + 1) 2 3) (i + 5 + 1) 3 4).2 j := by
  refine ⟨?_, rfl⟩
  by_cases h : j = i + 5 + 1
  · subst h
    rw [zst4_eq, zσ0_1 _ ((show ∀ i, i < 125 → zkd i = (7, 0) → zini.getD (i + 5 + 1) 0 = 1 by decide +kernel) i (zkd_lt hi (by decide)) hi)]
  · rw [zst4_ne h, zσ0_z _ (by
      have := (show ∀ i, i < 125 → zkd i = (7, 0) → ∀ k, k < 5 → zini.getD (i + 1 + k) 0 = 0 by decide +kernel) i (zkd_lt hi (by decide)) hi (j - i - 1) (by omega)
      rwa [show i + 1 + (j - i - 1) = j by omega] at this)]
theorem zσs11 (j : Nat) (h1 : 103 < j) (h2 : j < 124) : zσ0.1 j = (zst (zst (zst (zst zσz 104 0 3) 104 1 2) 104 2 3) 104 3 4).1 j ∧ zσ0.2 j = (zst (zst (zst (zst zσz 104 0 3) 104 1 2) 104 2 3) 104 3 4).2 j := by
  refine ⟨?_, rfl⟩
  by_cases h : j = 104
  · subst h
    rw [zst4_eq, zσ0_1 _ (by decide)]
  · rw [zst4_ne h, zσ0_z _ (zinq 105 124 (by decide) j (by omega) h2)]
theorem zlen_le (i : Nat) : (zkd i).2 ≤ 10000 := by
  by_cases h : i < 125
  · exact (show ∀ i, i < 125 → (zkd i).2 ≤ 10000 by decide +kernel) i h
  · have h9 : zkds.length = 125 := by decide +kernel
    unfold zkd
    rw [List.getD_eq_getElem?_getD, List.getElem?_eq_none (by omega)]
    exact Nat.zero_le _
theorem zone10 {i : Nat} (h : zkd i = (10, 0)) : i = 0 := (show ∀ i, i < 125 → zkd i = (10, 0) → i = 0 by decide +kernel) i (zkd_lt h (by decide)) h
theorem zone11 {i : Nat} (h : zkd i = (11, 0)) : i = 103 := (show ∀ i, i < 125 → zkd i = (11, 0) → i = 103 by decide +kernel) i (zkd_lt h (by decide)) h
theorem zs4 {i : Nat} (h : zkd i = (7, 0)) : zkd (i + 5 + 1) = (100, 4) := (show ∀ i, i < 125 → zkd i = (7, 0) → zkd (i + 5 + 1) = (100, 4) by decide +kernel) i (zkd_lt h (by decide)) h
theorem zclos_1 {i : Nat} (h : zkd i = (1, 0)) : ∀ j, i ≤ j → j < i + zsz 1 → zcl j (i + zsz 1) := fun j h1 h2 => by
  have := (show ∀ i, i < 125 → zkd i = (1, 0) → ∀ k, k < zsz 1 → ∀ d ∈ zf (zkd (i + k)).1, 2 ≤ d → i + k + (d - 1) < i + zsz 1 by decide +kernel) i (zkd_lt h (by decide)) h (j - i) (by omega)
  rwa [show i + (j - i) = j by omega] at this
theorem zclos_6 {i : Nat} (h : zkd i = (6, 0)) : ∀ j, i ≤ j → j < i + zsz 6 → zcl j (i + zsz 6) := fun j h1 h2 => by
  have := (show ∀ i, i < 125 → zkd i = (6, 0) → ∀ k, k < zsz 6 → ∀ d ∈ zf (zkd (i + k)).1, 2 ≤ d → i + k + (d - 1) < i + zsz 6 by decide +kernel) i (zkd_lt h (by decide)) h (j - i) (by omega)
  rwa [show i + (j - i) = j by omega] at this
theorem zclos_0 {i : Nat} (h : zkd i = (0, 0)) : ∀ j, i ≤ j → j < i + zsz 0 → zcl j (i + zsz 0) := fun j h1 h2 => by
  have := (show ∀ i, i < 125 → zkd i = (0, 0) → ∀ k, k < zsz 0 → ∀ d ∈ zf (zkd (i + k)).1, 2 ≤ d → i + k + (d - 1) < i + zsz 0 by decide +kernel) i (zkd_lt h (by decide)) h (j - i) (by omega)
  rwa [show i + (j - i) = j by omega] at this
theorem zclos_2 {i : Nat} (h : zkd i = (2, 0)) : ∀ j, i ≤ j → j < i + zsz 2 → zcl j (i + zsz 2) := fun j h1 h2 => by
  have := (show ∀ i, i < 125 → zkd i = (2, 0) → ∀ k, k < zsz 2 → ∀ d ∈ zf (zkd (i + k)).1, 2 ≤ d → i + k + (d - 1) < i + zsz 2 by decide +kernel) i (zkd_lt h (by decide)) h (j - i) (by omega)
  rwa [show i + (j - i) = j by omega] at this
theorem zclos_3 {i : Nat} (h : zkd i = (3, 0)) : ∀ j, i ≤ j → j < i + zsz 3 → zcl j (i + zsz 3) := fun j h1 h2 => by
  have := (show ∀ i, i < 125 → zkd i = (3, 0) → ∀ k, k < zsz 3 → ∀ d ∈ zf (zkd (i + k)).1, 2 ≤ d → i + k + (d - 1) < i + zsz 3 by decide +kernel) i (zkd_lt h (by decide)) h (j - i) (by omega)
  rwa [show i + (j - i) = j by omega] at this
theorem zclos_4 {i : Nat} (h : zkd i = (4, 0)) : ∀ j, i ≤ j → j < i + zsz 4 → zcl j (i + zsz 4) := fun j h1 h2 => by
  have := (show ∀ i, i < 125 → zkd i = (4, 0) → ∀ k, k < zsz 4 → ∀ d ∈ zf (zkd (i + k)).1, 2 ≤ d → i + k + (d - 1) < i + zsz 4 by decide +kernel) i (zkd_lt h (by decide)) h (j - i) (by omega)
  rwa [show i + (j - i) = j by omega] at this
theorem zclos_8 {i : Nat} (h : zkd i = (8, 0)) : ∀ j, i ≤ j → j < i + zsz 8 → zcl j (i + zsz 8) := fun j h1 h2 => by
  have := (show ∀ i, i < 125 → zkd i = (8, 0) → ∀ k, k < zsz 8 → ∀ d ∈ zf (zkd (i + k)).1, 2 ≤ d → i + k + (d - 1) < i + zsz 8 by decide +kernel) i (zkd_lt h (by decide)) h (j - i) (by omega)
  rwa [show i + (j - i) = j by omega] at this
theorem zclos_9 {i : Nat} (h : zkd i = (9, 0)) : ∀ j, i ≤ j → j < i + zsz 9 → zcl j (i + zsz 9) := fun j h1 h2 => by
  have := (show ∀ i, i < 125 → zkd i = (9, 0) → ∀ k, k < zsz 9 → ∀ d ∈ zf (zkd (i + k)).1, 2 ≤ d → i + k + (d - 1) < i + zsz 9 by decide +kernel) i (zkd_lt h (by decide)) h (j - i) (by omega)
  rwa [show i + (j - i) = j by omega] at this
theorem zclos_7 {i : Nat} (h : zkd i = (7, 0)) : ∀ j, i ≤ j → j < i + zsz 7 → zcl j (i + zsz 7) := fun j h1 h2 => by
  have := (show ∀ i, i < 125 → zkd i = (7, 0) → ∀ k, k < zsz 7 → ∀ d ∈ zf (zkd (i + k)).1, 2 ≤ d → i + k + (d - 1) < i + zsz 7 by decide +kernel) i (zkd_lt h (by decide)) h (j - i) (by omega)
  rwa [show i + (j - i) = j by omega] at this
theorem zclos_5 {i : Nat} (h : zkd i = (5, 0)) : ∀ j, i ≤ j → j < i + zsz 5 → zcl j (i + zsz 5) := fun j h1 h2 => by
  have := (show ∀ i, i < 125 → zkd i = (5, 0) → ∀ k, k < zsz 5 → ∀ d ∈ zf (zkd (i + k)).1, 2 ≤ d → i + k + (d - 1) < i + zsz 5 by decide +kernel) i (zkd_lt h (by decide)) h (j - i) (by omega)
  rwa [show i + (j - i) = j by omega] at this
theorem zclos_10 {i : Nat} (h : zkd i = (10, 0)) : ∀ j, i ≤ j → j < i + zsz 10 → zcl j (i + zsz 10) := fun j h1 h2 => by
  have := (show ∀ i, i < 125 → zkd i = (10, 0) → ∀ k, k < zsz 10 → ∀ d ∈ zf (zkd (i + k)).1, 2 ≤ d → i + k + (d - 1) < i + zsz 10 by decide +kernel) i (zkd_lt h (by decide)) h (j - i) (by omega)
  rwa [show i + (j - i) = j by omega] at this
theorem zclos_11 {i : Nat} (h : zkd i = (11, 0)) : ∀ j, i ≤ j → j < i + zsz 11 → zcl j (i + zsz 11) := fun j h1 h2 => by
  have := (show ∀ i, i < 125 → zkd i = (11, 0) → ∀ k, k < zsz 11 → ∀ d ∈ zf (zkd (i + k)).1, 2 ≤ d → i + k + (d - 1) < i + zsz 11 by decide +kernel) i (zkd_lt h (by decide)) h (j - i) (by omega)
  rwa [show i + (j - i) = j by omega] at this
set_option maxHeartbeats 4000000 in
set_option maxRecDepth 100000 in
theorem c_X1_init (l : Launch) (D : va_G) (cI cJ : ClassId) (ln : Nat) (hln : ln ≤ 10000) : zCn l D cI cJ yX1_init cX1_init 2 1 20 1 ln 1 (fun i => (zkd (i + 1)).2 = ln) (fun _ => [.int (nI ln)]) zσz := by
  refine gopen (by decide) rfl (fun _ _ => Nat.le_of_ble_eq_true rfl) ?_
  intro ad ec i hi hX p e s m below meth c B hr hlocks hin ls hl I
  subst hX
  have B : zMB RX1 cX1_init 2 D cI cJ p m c s (Value.ref (ad i) :: [.int (nI (zkd (i + 1)).2)]).toArray := B
  have hl : lv_has ls 2 [(0, .ref (ad i)), (1, .int (nI (zkd (i + 1)).2))] := hl
  generalize (Value.ref (ad i) :: [.int (nI (zkd (i + 1)).2)]).toArray = args at B ⊢
  have hx := B.1.1
  have hb := B.1.2.1
  have hml := B.1.2.2.1
  have hown := B.1.2.2.2.1
  have hts := B.1.2.2.2.2
  have hA : ∀ q, s.heap.size ≤ q → zAn ad i s.heap.size q := fun q h => Or.inr h
  have I : zGI D cI cJ _ _ _ _ 1 i zσz ad ec [.null] (i + 1) ad := I
  refine lv_aload_n hx hb dX1_init_0 rfl (lv_at hl 0 rfl) ?_
  refine W.objInit hx hb hown (hts _ (zin (i := 122) (by decide +kernel) rfl)) (hts _ (zin (i := 94) (by decide +kernel) rfl)) (hts _ (zin (i := 95) (by decide +kernel) rfl)) rfl (by rw [hml]; exact hl.1) rfl dX1_init_1 (Nat.le_of_ble_eq_true rfl) (Nat.le_of_ble_eq_true rfl) ?_
  refine W.eq (g2 := F0 m 4 ls []) rfl ?_
  refine lv_aload_n hx hb dX1_init_4 rfl (lv_at hl 0 rfl) ?_
  refine lv_iload_n hx hb dX1_init_5 rfl (lv_at hl 1 rfl) ?_
  refine lv_if_ge (tgt := 13) hx hb dX1_init_6 (by decide) (fun _ => ?_) (fun q => absurd (nI_pos' (by have := zlen_le (i + 1); omega)) q)
  refine lv_iload_n hx hb dX1_init_13 rfl (lv_at hl 1 rfl) ?_
  refine gnewa (ln := (zkd (i + 1)).2) B I hA (zs_1_0 hi) rfl (zlen_le _) rfl (zin (i := 116) (by decide +kernel) rfl) (Nat.le_of_ble_eq_true rfl) (Nat.le_of_eq (Nat.zero_add _)) dX1_init_14 (fun ad1 H hk1 I => ?_)
  have I : zGI D cI cJ _ _ _ _ 1 i zσz ad ec [.null] (i + 2) ad1 := I
  refine gputF (k := 0) (t := .array .int) B hin I zK1 (by decide) (zin (i := 123) (by decide +kernel) rfl) rfl rfl (by decide) rfl rfl (Nat.le_of_ble_eq_true rfl) dX1_init_16 (fun H locs I => ?_)
  have I : zGI D cI cJ _ _ _ _ 1 i zσz ad ec [.ref (ad1 (i + 1))] (i + 2) ad1 := I
  refine W.widen (k := 1) (n := (zkd (i + 1)).2) (Nat.le_of_ble_eq_true rfl) (Nat.le_of_eq (Nat.zero_add _)) ?_
  refine gend B hr hlocks I ?_ dX1_init_19
  rw [zce_ob hi (by decide)]
  show _ = (Sum.inr (1, [.ref (ad1 (i + 1))]) : va_E)
  rfl
theorem zar_6_1 {i : Nat} (h : zkd i = (6, 0)) : zkd (i + 1) = (100, 24) := (show ∀ i, i < 125 → zkd i = (6, 0) → zkd (i + 1) = (100, 24) by decide +kernel) i (zkd_lt h (by decide)) h
set_option maxHeartbeats 4000000 in
set_option maxRecDepth 100000 in
theorem c_X6_init (l : Launch) (D : va_G) (cI cJ : ClassId) : zCn l D cI cJ yX6_init cX6_init 1 1 20 1 24 6 (fun _ => True) (fun _ => []) zσz := by
  refine gopen (by decide) rfl (fun _ _ => Nat.le_of_ble_eq_true rfl) ?_
  intro ad ec i hi hX p e s m below meth c B hr hlocks hin ls hl I
  have B : zMB RX6 cX6_init 1 D cI cJ p m c s (Value.ref (ad i) :: []).toArray := B
  have hl : lv_has ls 1 [(0, .ref (ad i))] := hl
  generalize (Value.ref (ad i) :: []).toArray = args at B ⊢
  have hx := B.1.1
  have hb := B.1.2.1
  have hml := B.1.2.2.1
  have hown := B.1.2.2.2.1
  have hts := B.1.2.2.2.2
  have hA : ∀ q, s.heap.size ≤ q → zAn ad i s.heap.size q := fun q h => Or.inr h
  have I : zGI D cI cJ _ _ _ _ 6 i zσz ad ec [.null, .int 0] (i + 1) ad := I
  refine lv_aload_n hx hb dX6_init_0 rfl (lv_at hl 0 rfl) ?_
  refine W.objInit hx hb hown (hts _ (zin (i := 107) (by decide +kernel) rfl)) (hts _ (zin (i := 94) (by decide +kernel) rfl)) (hts _ (zin (i := 95) (by decide +kernel) rfl)) rfl (by rw [hml]; exact hl.1) rfl dX6_init_1 (Nat.le_of_ble_eq_true rfl) (Nat.le_of_ble_eq_true rfl) ?_
  refine W.eq (g2 := F0 m 4 ls []) rfl ?_
  refine lv_aload_n hx hb dX6_init_4 rfl (lv_at hl 0 rfl) ?_
  refine lv_bipush (v := (24 : Int32)) hx hb dX6_init_5 (by decide) ?_
  refine gnewa (ln := 24) B I hA ((zar_6_1 hi)) rfl (by decide) rfl (zin (i := 116) (by decide +kernel) rfl) (Nat.le_of_ble_eq_true rfl) (Nat.le_of_ble_eq_true rfl) dX6_init_7 (fun ad1 H hk1 I => ?_)
  have I : zGI D cI cJ _ _ _ _ 6 i zσz ad ec [.null, .int 0] (i + 2) ad1 := I
  refine gputF (k := 0) (t := .array .int) B hin I zK6 (by decide) (zin (i := 108) (by decide +kernel) rfl) rfl rfl (by decide) rfl rfl (Nat.le_of_ble_eq_true rfl) dX6_init_9 (fun H locs I => ?_)
  have I : zGI D cI cJ _ _ _ _ 6 i zσz ad ec [.ref (ad1 (i + 1)), .int 0] (i + 2) ad1 := I
  refine lv_aload_n hx hb dX6_init_12 rfl (lv_at hl 0 rfl) ?_
  refine lv_iconst (v := (0 : Int32)) hx hb dX6_init_13 (by decide) ?_
  refine gput (k := 1) (t := .int) (v := .int 0) B I zK6 (by decide) (zin (i := 109) (by decide +kernel) rfl) rfl (by decide) (by decide) (by decide) (Nat.le_of_ble_eq_true rfl) dX6_init_14 (fun H locs I => ?_)
  have I : zGI D cI cJ _ _ _ _ 6 i zσz ad ec [.ref (ad1 (i + 1)), .int 0] (i + 2) ad1 := I
  refine gend B hr hlocks I ?_ dX6_init_17
  rw [zce_ob hi (by decide)]
  show _ = (Sum.inr (6, [.ref (ad1 (i + 1)), .int 0]) : va_E)
  rfl
theorem zob_0_1 {i : Nat} (h : zkd i = (0, 0)) : zkd (i + 1) = (1, 0) := (show ∀ i, i < 125 → zkd i = (0, 0) → zkd (i + 1) = (1, 0) by decide +kernel) i (zkd_lt h (by decide)) h
theorem zln_0_1 {i : Nat} (h : zkd i = (0, 0)) : (zkd (i + 1 + 1)).2 = 24 := (show ∀ i, i < 125 → zkd i = (0, 0) → (zkd (i + 1 + 1)).2 = 24 by decide +kernel) i (zkd_lt h (by decide)) h
theorem zob_0_3 {i : Nat} (h : zkd i = (0, 0)) : zkd (i + 3) = (1, 0) := (show ∀ i, i < 125 → zkd i = (0, 0) → zkd (i + 3) = (1, 0) by decide +kernel) i (zkd_lt h (by decide)) h
theorem zln_0_3 {i : Nat} (h : zkd i = (0, 0)) : (zkd (i + 3 + 1)).2 = 24 := (show ∀ i, i < 125 → zkd i = (0, 0) → (zkd (i + 3 + 1)).2 = 24 by decide +kernel) i (zkd_lt h (by decide)) h
theorem zob_0_5 {i : Nat} (h : zkd i = (0, 0)) : zkd (i + 5) = (1, 0) := (show ∀ i, i < 125 → zkd i = (0, 0) → zkd (i + 5) = (1, 0) by decide +kernel) i (zkd_lt h (by decide)) h
theorem zln_0_5 {i : Nat} (h : zkd i = (0, 0)) : (zkd (i + 5 + 1)).2 = 24 := (show ∀ i, i < 125 → zkd i = (0, 0) → (zkd (i + 5 + 1)).2 = 24 by decide +kernel) i (zkd_lt h (by decide)) h
theorem zob_0_7 {i : Nat} (h : zkd i = (0, 0)) : zkd (i + 7) = (1, 0) := (show ∀ i, i < 125 → zkd i = (0, 0) → zkd (i + 7) = (1, 0) by decide +kernel) i (zkd_lt h (by decide)) h
theorem zln_0_7 {i : Nat} (h : zkd i = (0, 0)) : (zkd (i + 7 + 1)).2 = 24 := (show ∀ i, i < 125 → zkd i = (0, 0) → (zkd (i + 7 + 1)).2 = 24 by decide +kernel) i (zkd_lt h (by decide)) h
set_option maxHeartbeats 4000000 in
set_option maxRecDepth 100000 in
theorem c_X0_init (l : Launch) (D : va_G) (cI cJ : ClassId) : zCn l D cI cJ yX0_init cX0_init 1 2 41 8 100 0 (fun _ => True) (fun _ => []) zσz := by
  refine gopen (by decide) rfl (fun _ _ => Nat.le_of_ble_eq_true rfl) ?_
  intro ad ec i hi hX p e s m below meth c B hr hlocks hin ls hl I
  have B : zMB RX0 cX0_init 1 D cI cJ p m c s (Value.ref (ad i) :: []).toArray := B
  have hl : lv_has ls 1 [(0, .ref (ad i))] := hl
  generalize (Value.ref (ad i) :: []).toArray = args at B ⊢
  have hx := B.1.1
  have hb := B.1.2.1
  have hml := B.1.2.2.1
  have hown := B.1.2.2.2.1
  have hts := B.1.2.2.2.2
  have hA : ∀ q, s.heap.size ≤ q → zAn ad i s.heap.size q := fun q h => Or.inr h
  have I : zGI D cI cJ _ _ _ _ 0 i zσz ad ec [.null, .null, .int 0, .int 0, .null, .null] (i + 1) ad := I
  refine lv_aload_n hx hb dX0_init_0 rfl (lv_at hl 0 rfl) ?_
  refine W.objInit hx hb hown (hts _ (zin (i := 196) (by decide +kernel) rfl)) (hts _ (zin (i := 94) (by decide +kernel) rfl)) (hts _ (zin (i := 95) (by decide +kernel) rfl)) rfl (by rw [hml]; exact hl.1) rfl dX0_init_1 (Nat.le_of_ble_eq_true rfl) (Nat.le_of_ble_eq_true rfl) ?_
  refine W.eq (g2 := F0 m 4 ls []) rfl ?_
  refine lv_aload_n hx hb dX0_init_4 rfl (lv_at hl 0 rfl) ?_
  refine gnew B I hA zK1 (zin (i := 197) (by decide +kernel) rfl) (zin (i := 118) (by decide +kernel) rfl) (zin (i := 71) (by decide +kernel) rfl) (by decide +kernel) (Nat.le_of_ble_eq_true rfl) (Nat.le_of_ble_eq_true rfl) dX0_init_5 (fun ad1 H hk1 I => ?_)
  refine lv_dup hx hb dX0_init_8 rfl ?_
  refine lv_bipush (v := (24 : Int32)) hx hb dX0_init_9 (by decide) ?_
  refine ginit (as := fun _ => [.int (24 : Int32)]) (k := 1) B I hA ((zob_0_1 hi)) (zln_0_1 hi) (c_X1_init l D cI cJ 24 (by decide)) (fun _ _ _ => ⟨rfl, rfl⟩) (zclos_1 ((zob_0_1 hi))) (by decide) (Or.inl (zin (i := 198) (by decide +kernel) rfl)) (zin (i := 120) (by decide +kernel) rfl) (zin (i := 71) (by decide +kernel) rfl) (zin (i := 121) (by decide +kernel) rfl) rfl ⟨by decide, by decide, by decide +kernel⟩ ⟨Nat.le_of_ble_eq_true rfl, Nat.le_of_ble_eq_true rfl⟩ ⟨Nat.le_of_ble_eq_true rfl, Nat.le_of_ble_eq_true rfl⟩ rfl rfl (Nat.le_of_ble_eq_true rfl) hl.1 dX0_init_11 (fun ad2 H locs hk2 I => ?_)
  have I : zGI D cI cJ _ _ _ _ 0 i zσz ad ec [.null, .null, .int 0, .int 0, .null, .null] (i + 3) ad2 := I
  refine gputF (k := 0) (t := .object "AnchorChains$Cells") B hin I zK0 (by decide) (zin (i := 199) (by decide +kernel) rfl) rfl rfl (by decide) rfl rfl (Nat.le_of_ble_eq_true rfl) dX0_init_14 (fun H locs I => ?_)
  have I : zGI D cI cJ _ _ _ _ 0 i zσz ad ec [.ref (ad1 (i + 1)), .null, .int 0, .int 0, .null, .null] (i + 3) ad2 := I
  refine lv_aload_n hx hb dX0_init_17 rfl (lv_at hl 0 rfl) ?_
  refine gnew B I hA zK1 (zin (i := 197) (by decide +kernel) rfl) (zin (i := 118) (by decide +kernel) rfl) (zin (i := 71) (by decide +kernel) rfl) (by decide +kernel) (Nat.le_of_ble_eq_true rfl) (Nat.le_of_ble_eq_true rfl) dX0_init_18 (fun ad3 H hk3 I => ?_)
  refine lv_dup hx hb dX0_init_21 rfl ?_
  refine lv_bipush (v := (24 : Int32)) hx hb dX0_init_22 (by decide) ?_
  refine ginit (as := fun _ => [.int (24 : Int32)]) (k := 1) B I hA ((zob_0_3 hi)) (zln_0_3 hi) (c_X1_init l D cI cJ 24 (by decide)) (fun _ _ _ => ⟨rfl, rfl⟩) (zclos_1 ((zob_0_3 hi))) (by decide) (Or.inl (zin (i := 198) (by decide +kernel) rfl)) (zin (i := 120) (by decide +kernel) rfl) (zin (i := 71) (by decide +kernel) rfl) (zin (i := 121) (by decide +kernel) rfl) rfl ⟨by decide, by decide, by decide +kernel⟩ ⟨Nat.le_of_ble_eq_true rfl, Nat.le_of_ble_eq_true rfl⟩ ⟨Nat.le_of_ble_eq_true rfl, Nat.le_of_ble_eq_true rfl⟩ rfl rfl (Nat.le_of_ble_eq_true rfl) hl.1 dX0_init_24 (fun ad4 H locs hk4 I => ?_)
  have I : zGI D cI cJ _ _ _ _ 0 i zσz ad ec [.ref (ad1 (i + 1)), .null, .int 0, .int 0, .null, .null] (i + 5) ad4 := I
  refine gputF (k := 1) (t := .object "AnchorChains$Cells") B hin I zK0 (by decide) (zin (i := 202) (by decide +kernel) rfl) rfl rfl (by decide) rfl rfl (Nat.le_of_ble_eq_true rfl) dX0_init_27 (fun H locs I => ?_)
  have I : zGI D cI cJ _ _ _ _ 0 i zσz ad ec [.ref (ad1 (i + 1)), .ref (ad3 (i + 3)), .int 0, .int 0, .null, .null] (i + 5) ad4 := I
  refine lv_aload_n hx hb dX0_init_30 rfl (lv_at hl 0 rfl) ?_
  refine lv_iconst (v := (0 : Int32)) hx hb dX0_init_31 (by decide) ?_
  refine gput (k := 2) (t := .int) (v := .int 0) B I zK0 (by decide) (zin (i := 205) (by decide +kernel) rfl) rfl (by decide) (by decide) (by decide) (Nat.le_of_ble_eq_true rfl) dX0_init_32 (fun H locs I => ?_)
  have I : zGI D cI cJ _ _ _ _ 0 i zσz ad ec [.ref (ad1 (i + 1)), .ref (ad3 (i + 3)), .int 0, .int 0, .null, .null] (i + 5) ad4 := I
  refine lv_aload_n hx hb dX0_init_35 rfl (lv_at hl 0 rfl) ?_
  refine lv_iconst (v := (0 : Int32)) hx hb dX0_init_36 (by decide) ?_
  refine gput (k := 3) (t := .int) (v := .int 0) B I zK0 (by decide) (zin (i := 209) (by decide +kernel) rfl) rfl (by decide) (by decide) (by decide) (Nat.le_of_ble_eq_true rfl) dX0_init_37 (fun H locs I => ?_)
  have I : zGI D cI cJ _ _ _ _ 0 i zσz ad ec [.ref (ad1 (i + 1)), .ref (ad3 (i + 3)), .int 0, .int 0, .null, .null] (i + 5) ad4 := I
  refine lv_aload_n hx hb dX0_init_40 rfl (lv_at hl 0 rfl) ?_
  refine gnew B I hA zK1 (zin (i := 197) (by decide +kernel) rfl) (zin (i := 118) (by decide +kernel) rfl) (zin (i := 71) (by decide +kernel) rfl) (by decide +kernel) (Nat.le_of_ble_eq_true rfl) (Nat.le_of_ble_eq_true rfl) dX0_init_41 (fun ad5 H hk5 I => ?_)
  refine lv_dup hx hb dX0_init_44 rfl ?_
  refine lv_bipush (v := (24 : Int32)) hx hb dX0_init_45 (by decide) ?_
  refine ginit (as := fun _ => [.int (24 : Int32)]) (k := 1) B I hA ((zob_0_5 hi)) (zln_0_5 hi) (c_X1_init l D cI cJ 24 (by decide)) (fun _ _ _ => ⟨rfl, rfl⟩) (zclos_1 ((zob_0_5 hi))) (by decide) (Or.inl (zin (i := 198) (by decide +kernel) rfl)) (zin (i := 120) (by decide +kernel) rfl) (zin (i := 71) (by decide +kernel) rfl) (zin (i := 121) (by decide +kernel) rfl) rfl ⟨by decide, by decide, by decide +kernel⟩ ⟨Nat.le_of_ble_eq_true rfl, Nat.le_of_ble_eq_true rfl⟩ ⟨Nat.le_of_ble_eq_true rfl, Nat.le_of_ble_eq_true rfl⟩ rfl rfl (Nat.le_of_ble_eq_true rfl) hl.1 dX0_init_47 (fun ad6 H locs hk6 I => ?_)
  have I : zGI D cI cJ _ _ _ _ 0 i zσz ad ec [.ref (ad1 (i + 1)), .ref (ad3 (i + 3)), .int 0, .int 0, .null, .null] (i + 7) ad6 := I
  refine gputF (k := 4) (t := .object "AnchorChains$Cells") B hin I zK0 (by decide) (zin (i := 211) (by decide +kernel) rfl) rfl rfl (by decide) rfl rfl (Nat.le_of_ble_eq_true rfl) dX0_init_50 (fun H locs I => ?_)
  have I : zGI D cI cJ _ _ _ _ 0 i zσz ad ec [.ref (ad1 (i + 1)), .ref (ad3 (i + 3)), .int 0, .int 0, .ref (ad5 (i + 5)), .null] (i + 7) ad6 := I
  refine lv_aload_n hx hb dX0_init_53 rfl (lv_at hl 0 rfl) ?_
  refine gnew B I hA zK1 (zin (i := 197) (by decide +kernel) rfl) (zin (i := 118) (by decide +kernel) rfl) (zin (i := 71) (by decide +kernel) rfl) (by decide +kernel) (Nat.le_of_ble_eq_true rfl) (Nat.le_of_ble_eq_true rfl) dX0_init_54 (fun ad7 H hk7 I => ?_)
  refine lv_dup hx hb dX0_init_57 rfl ?_
  refine lv_bipush (v := (24 : Int32)) hx hb dX0_init_58 (by decide) ?_
  refine ginit (as := fun _ => [.int (24 : Int32)]) (k := 1) B I hA ((zob_0_7 hi)) (zln_0_7 hi) (c_X1_init l D cI cJ 24 (by decide)) (fun _ _ _ => ⟨rfl, rfl⟩) (zclos_1 ((zob_0_7 hi))) (by decide) (Or.inl (zin (i := 198) (by decide +kernel) rfl)) (zin (i := 120) (by decide +kernel) rfl) (zin (i := 71) (by decide +kernel) rfl) (zin (i := 121) (by decide +kernel) rfl) rfl ⟨by decide, by decide, by decide +kernel⟩ ⟨Nat.le_of_ble_eq_true rfl, Nat.le_of_ble_eq_true rfl⟩ ⟨Nat.le_of_ble_eq_true rfl, Nat.le_of_ble_eq_true rfl⟩ rfl rfl (Nat.le_of_ble_eq_true rfl) hl.1 dX0_init_60 (fun ad8 H locs hk8 I => ?_)
  have I : zGI D cI cJ _ _ _ _ 0 i zσz ad ec [.ref (ad1 (i + 1)), .ref (ad3 (i + 3)), .int 0, .int 0, .ref (ad5 (i + 5)), .null] (i + 9) ad8 := I
  refine gputF (k := 5) (t := .object "AnchorChains$Cells") B hin I zK0 (by decide) (zin (i := 212) (by decide +kernel) rfl) rfl rfl (by decide) rfl rfl (Nat.le_of_ble_eq_true rfl) dX0_init_63 (fun H locs I => ?_)
  have I : zGI D cI cJ _ _ _ _ 0 i zσz ad ec [.ref (ad1 (i + 1)), .ref (ad3 (i + 3)), .int 0, .int 0, .ref (ad5 (i + 5)), .ref (ad7 (i + 7))] (i + 9) ad8 := I
  refine gend B hr hlocks I ?_ dX0_init_66
  rw [zce_ob hi (by decide)]
  show _ = (Sum.inr (0, [.ref (ad8 (i + 1)), .ref (ad8 (i + 3)), .int 0, .int 0, .ref (ad8 (i + 5)), .ref (ad8 (i + 7))]) : va_E)
  rw [(((((((hk8 (i + 1) (by omega)).trans (hk7 (i + 1) (by omega))).trans (hk6 (i + 1) (by omega))).trans (hk5 (i + 1) (by omega))).trans (hk4 (i + 1) (by omega))).trans (hk3 (i + 1) (by omega))).trans (hk2 (i + 1) (by omega)))]
  rw [(((((hk8 (i + 3) (by omega)).trans (hk7 (i + 3) (by omega))).trans (hk6 (i + 3) (by omega))).trans (hk5 (i + 3) (by omega))).trans (hk4 (i + 3) (by omega)))]
  rw [(((hk8 (i + 5) (by omega)).trans (hk7 (i + 5) (by omega))).trans (hk6 (i + 5) (by omega)))]
  rw [(hk8 (i + 7) (by omega))]
theorem zob_2_1 {i : Nat} (h : zkd i = (2, 0)) : zkd (i + 1) = (1, 0) := (show ∀ i, i < 125 → zkd i = (2, 0) → zkd (i + 1) = (1, 0) by decide +kernel) i (zkd_lt h (by decide)) h
theorem zln_2_1 {i : Nat} (h : zkd i = (2, 0)) : (zkd (i + 1 + 1)).2 = 24 := (show ∀ i, i < 125 → zkd i = (2, 0) → (zkd (i + 1 + 1)).2 = 24 by decide +kernel) i (zkd_lt h (by decide)) h
theorem zob_2_3 {i : Nat} (h : zkd i = (2, 0)) : zkd (i + 3) = (1, 0) := (show ∀ i, i < 125 → zkd i = (2, 0) → zkd (i + 3) = (1, 0) by decide +kernel) i (zkd_lt h (by decide)) h
theorem zln_2_3 {i : Nat} (h : zkd i = (2, 0)) : (zkd (i + 3 + 1)).2 = 24 := (show ∀ i, i < 125 → zkd i = (2, 0) → (zkd (i + 3 + 1)).2 = 24 by decide +kernel) i (zkd_lt h (by decide)) h
theorem zob_2_5 {i : Nat} (h : zkd i = (2, 0)) : zkd (i + 5) = (1, 0) := (show ∀ i, i < 125 → zkd i = (2, 0) → zkd (i + 5) = (1, 0) by decide +kernel) i (zkd_lt h (by decide)) h
theorem zln_2_5 {i : Nat} (h : zkd i = (2, 0)) : (zkd (i + 5 + 1)).2 = 24 := (show ∀ i, i < 125 → zkd i = (2, 0) → (zkd (i + 5 + 1)).2 = 24 by decide +kernel) i (zkd_lt h (by decide)) h
theorem zob_2_7 {i : Nat} (h : zkd i = (2, 0)) : zkd (i + 7) = (1, 0) := (show ∀ i, i < 125 → zkd i = (2, 0) → zkd (i + 7) = (1, 0) by decide +kernel) i (zkd_lt h (by decide)) h
theorem zln_2_7 {i : Nat} (h : zkd i = (2, 0)) : (zkd (i + 7 + 1)).2 = 24 := (show ∀ i, i < 125 → zkd i = (2, 0) → (zkd (i + 7 + 1)).2 = 24 by decide +kernel) i (zkd_lt h (by decide)) h
set_option maxHeartbeats 4000000 in
set_option maxRecDepth 100000 in
theorem c_X2_init (l : Launch) (D : va_G) (cI cJ : ClassId) : zCn l D cI cJ yX2_init cX2_init 1 2 41 8 100 2 (fun _ => True) (fun _ => []) zσz := by
  refine gopen (by decide) rfl (fun _ _ => Nat.le_of_ble_eq_true rfl) ?_
  intro ad ec i hi hX p e s m below meth c B hr hlocks hin ls hl I
  have B : zMB RX2 cX2_init 1 D cI cJ p m c s (Value.ref (ad i) :: []).toArray := B
  have hl : lv_has ls 1 [(0, .ref (ad i))] := hl
  generalize (Value.ref (ad i) :: []).toArray = args at B ⊢
  have hx := B.1.1
  have hb := B.1.2.1
  have hml := B.1.2.2.1
  have hown := B.1.2.2.2.1
  have hts := B.1.2.2.2.2
  have hA : ∀ q, s.heap.size ≤ q → zAn ad i s.heap.size q := fun q h => Or.inr h
  have I : zGI D cI cJ _ _ _ _ 2 i zσz ad ec [.null, .null, .null, .null, .int 0] (i + 1) ad := I
  refine lv_aload_n hx hb dX2_init_0 rfl (lv_at hl 0 rfl) ?_
  refine W.objInit hx hb hown (hts _ (zin (i := 231) (by decide +kernel) rfl)) (hts _ (zin (i := 94) (by decide +kernel) rfl)) (hts _ (zin (i := 95) (by decide +kernel) rfl)) rfl (by rw [hml]; exact hl.1) rfl dX2_init_1 (Nat.le_of_ble_eq_true rfl) (Nat.le_of_ble_eq_true rfl) ?_
  refine W.eq (g2 := F0 m 4 ls []) rfl ?_
  refine lv_aload_n hx hb dX2_init_4 rfl (lv_at hl 0 rfl) ?_
  refine gnew B I hA zK1 (zin (i := 232) (by decide +kernel) rfl) (zin (i := 118) (by decide +kernel) rfl) (zin (i := 71) (by decide +kernel) rfl) (by decide +kernel) (Nat.le_of_ble_eq_true rfl) (Nat.le_of_ble_eq_true rfl) dX2_init_5 (fun ad1 H hk1 I => ?_)
  refine lv_dup hx hb dX2_init_8 rfl ?_
  refine lv_bipush (v := (24 : Int32)) hx hb dX2_init_9 (by decide) ?_
  refine ginit (as := fun _ => [.int (24 : Int32)]) (k := 1) B I hA ((zob_2_1 hi)) (zln_2_1 hi) (c_X1_init l D cI cJ 24 (by decide)) (fun _ _ _ => ⟨rfl, rfl⟩) (zclos_1 ((zob_2_1 hi))) (by decide) (Or.inl (zin (i := 233) (by decide +kernel) rfl)) (zin (i := 120) (by decide +kernel) rfl) (zin (i := 71) (by decide +kernel) rfl) (zin (i := 121) (by decide +kernel) rfl) rfl ⟨by decide, by decide, by decide +kernel⟩ ⟨Nat.le_of_ble_eq_true rfl, Nat.le_of_ble_eq_true rfl⟩ ⟨Nat.le_of_ble_eq_true rfl, Nat.le_of_ble_eq_true rfl⟩ rfl rfl (Nat.le_of_ble_eq_true rfl) hl.1 dX2_init_11 (fun ad2 H locs hk2 I => ?_)
  have I : zGI D cI cJ _ _ _ _ 2 i zσz ad ec [.null, .null, .null, .null, .int 0] (i + 3) ad2 := I
  refine gputF (k := 0) (t := .object "AnchorChains$Cells") B hin I zK2 (by decide) (zin (i := 234) (by decide +kernel) rfl) rfl rfl (by decide) rfl rfl (Nat.le_of_ble_eq_true rfl) dX2_init_14 (fun H locs I => ?_)
  have I : zGI D cI cJ _ _ _ _ 2 i zσz ad ec [.ref (ad1 (i + 1)), .null, .null, .null, .int 0] (i + 3) ad2 := I
  refine lv_aload_n hx hb dX2_init_17 rfl (lv_at hl 0 rfl) ?_
  refine gnew B I hA zK1 (zin (i := 232) (by decide +kernel) rfl) (zin (i := 118) (by decide +kernel) rfl) (zin (i := 71) (by decide +kernel) rfl) (by decide +kernel) (Nat.le_of_ble_eq_true rfl) (Nat.le_of_ble_eq_true rfl) dX2_init_18 (fun ad3 H hk3 I => ?_)
  refine lv_dup hx hb dX2_init_21 rfl ?_
  refine lv_bipush (v := (24 : Int32)) hx hb dX2_init_22 (by decide) ?_
  refine ginit (as := fun _ => [.int (24 : Int32)]) (k := 1) B I hA ((zob_2_3 hi)) (zln_2_3 hi) (c_X1_init l D cI cJ 24 (by decide)) (fun _ _ _ => ⟨rfl, rfl⟩) (zclos_1 ((zob_2_3 hi))) (by decide) (Or.inl (zin (i := 233) (by decide +kernel) rfl)) (zin (i := 120) (by decide +kernel) rfl) (zin (i := 71) (by decide +kernel) rfl) (zin (i := 121) (by decide +kernel) rfl) rfl ⟨by decide, by decide, by decide +kernel⟩ ⟨Nat.le_of_ble_eq_true rfl, Nat.le_of_ble_eq_true rfl⟩ ⟨Nat.le_of_ble_eq_true rfl, Nat.le_of_ble_eq_true rfl⟩ rfl rfl (Nat.le_of_ble_eq_true rfl) hl.1 dX2_init_24 (fun ad4 H locs hk4 I => ?_)
  have I : zGI D cI cJ _ _ _ _ 2 i zσz ad ec [.ref (ad1 (i + 1)), .null, .null, .null, .int 0] (i + 5) ad4 := I
  refine gputF (k := 1) (t := .object "AnchorChains$Cells") B hin I zK2 (by decide) (zin (i := 236) (by decide +kernel) rfl) rfl rfl (by decide) rfl rfl (Nat.le_of_ble_eq_true rfl) dX2_init_27 (fun H locs I => ?_)
  have I : zGI D cI cJ _ _ _ _ 2 i zσz ad ec [.ref (ad1 (i + 1)), .ref (ad3 (i + 3)), .null, .null, .int 0] (i + 5) ad4 := I
  refine lv_aload_n hx hb dX2_init_30 rfl (lv_at hl 0 rfl) ?_
  refine gnew B I hA zK1 (zin (i := 232) (by decide +kernel) rfl) (zin (i := 118) (by decide +kernel) rfl) (zin (i := 71) (by decide +kernel) rfl) (by decide +kernel) (Nat.le_of_ble_eq_true rfl) (Nat.le_of_ble_eq_true rfl) dX2_init_31 (fun ad5 H hk5 I => ?_)
  refine lv_dup hx hb dX2_init_34 rfl ?_
  refine lv_bipush (v := (24 : Int32)) hx hb dX2_init_35 (by decide) ?_
  refine ginit (as := fun _ => [.int (24 : Int32)]) (k := 1) B I hA ((zob_2_5 hi)) (zln_2_5 hi) (c_X1_init l D cI cJ 24 (by decide)) (fun _ _ _ => ⟨rfl, rfl⟩) (zclos_1 ((zob_2_5 hi))) (by decide) (Or.inl (zin (i := 233) (by decide +kernel) rfl)) (zin (i := 120) (by decide +kernel) rfl) (zin (i := 71) (by decide +kernel) rfl) (zin (i := 121) (by decide +kernel) rfl) rfl ⟨by decide, by decide, by decide +kernel⟩ ⟨Nat.le_of_ble_eq_true rfl, Nat.le_of_ble_eq_true rfl⟩ ⟨Nat.le_of_ble_eq_true rfl, Nat.le_of_ble_eq_true rfl⟩ rfl rfl (Nat.le_of_ble_eq_true rfl) hl.1 dX2_init_37 (fun ad6 H locs hk6 I => ?_)
  have I : zGI D cI cJ _ _ _ _ 2 i zσz ad ec [.ref (ad1 (i + 1)), .ref (ad3 (i + 3)), .null, .null, .int 0] (i + 7) ad6 := I
  refine gputF (k := 2) (t := .object "AnchorChains$Cells") B hin I zK2 (by decide) (zin (i := 238) (by decide +kernel) rfl) rfl rfl (by decide) rfl rfl (Nat.le_of_ble_eq_true rfl) dX2_init_40 (fun H locs I => ?_)
  have I : zGI D cI cJ _ _ _ _ 2 i zσz ad ec [.ref (ad1 (i + 1)), .ref (ad3 (i + 3)), .ref (ad5 (i + 5)), .null, .int 0] (i + 7) ad6 := I
  refine lv_aload_n hx hb dX2_init_43 rfl (lv_at hl 0 rfl) ?_
  refine gnew B I hA zK1 (zin (i := 232) (by decide +kernel) rfl) (zin (i := 118) (by decide +kernel) rfl) (zin (i := 71) (by decide +kernel) rfl) (by decide +kernel) (Nat.le_of_ble_eq_true rfl) (Nat.le_of_ble_eq_true rfl) dX2_init_44 (fun ad7 H hk7 I => ?_)
  refine lv_dup hx hb dX2_init_47 rfl ?_
  refine lv_bipush (v := (24 : Int32)) hx hb dX2_init_48 (by decide) ?_
  refine ginit (as := fun _ => [.int (24 : Int32)]) (k := 1) B I hA ((zob_2_7 hi)) (zln_2_7 hi) (c_X1_init l D cI cJ 24 (by decide)) (fun _ _ _ => ⟨rfl, rfl⟩) (zclos_1 ((zob_2_7 hi))) (by decide) (Or.inl (zin (i := 233) (by decide +kernel) rfl)) (zin (i := 120) (by decide +kernel) rfl) (zin (i := 71) (by decide +kernel) rfl) (zin (i := 121) (by decide +kernel) rfl) rfl ⟨by decide, by decide, by decide +kernel⟩ ⟨Nat.le_of_ble_eq_true rfl, Nat.le_of_ble_eq_true rfl⟩ ⟨Nat.le_of_ble_eq_true rfl, Nat.le_of_ble_eq_true rfl⟩ rfl rfl (Nat.le_of_ble_eq_true rfl) hl.1 dX2_init_50 (fun ad8 H locs hk8 I => ?_)
  have I : zGI D cI cJ _ _ _ _ 2 i zσz ad ec [.ref (ad1 (i + 1)), .ref (ad3 (i + 3)), .ref (ad5 (i + 5)), .null, .int 0] (i + 9) ad8 := I
  refine gputF (k := 3) (t := .object "AnchorChains$Cells") B hin I zK2 (by decide) (zin (i := 240) (by decide +kernel) rfl) rfl rfl (by decide) rfl rfl (Nat.le_of_ble_eq_true rfl) dX2_init_53 (fun H locs I => ?_)
  have I : zGI D cI cJ _ _ _ _ 2 i zσz ad ec [.ref (ad1 (i + 1)), .ref (ad3 (i + 3)), .ref (ad5 (i + 5)), .ref (ad7 (i + 7)), .int 0] (i + 9) ad8 := I
  refine lv_aload_n hx hb dX2_init_56 rfl (lv_at hl 0 rfl) ?_
  refine lv_iconst (v := (0 : Int32)) hx hb dX2_init_57 (by decide) ?_
  refine gput (k := 4) (t := .int) (v := .int 0) B I zK2 (by decide) (zin (i := 241) (by decide +kernel) rfl) rfl (by decide) (by decide) (by decide) (Nat.le_of_ble_eq_true rfl) dX2_init_58 (fun H locs I => ?_)
  have I : zGI D cI cJ _ _ _ _ 2 i zσz ad ec [.ref (ad1 (i + 1)), .ref (ad3 (i + 3)), .ref (ad5 (i + 5)), .ref (ad7 (i + 7)), .int 0] (i + 9) ad8 := I
  refine gend B hr hlocks I ?_ dX2_init_61
  rw [zce_ob hi (by decide)]
  show _ = (Sum.inr (2, [.ref (ad8 (i + 1)), .ref (ad8 (i + 3)), .ref (ad8 (i + 5)), .ref (ad8 (i + 7)), .int 0]) : va_E)
  rw [(((((((hk8 (i + 1) (by omega)).trans (hk7 (i + 1) (by omega))).trans (hk6 (i + 1) (by omega))).trans (hk5 (i + 1) (by omega))).trans (hk4 (i + 1) (by omega))).trans (hk3 (i + 1) (by omega))).trans (hk2 (i + 1) (by omega)))]
  rw [(((((hk8 (i + 3) (by omega)).trans (hk7 (i + 3) (by omega))).trans (hk6 (i + 3) (by omega))).trans (hk5 (i + 3) (by omega))).trans (hk4 (i + 3) (by omega)))]
  rw [(((hk8 (i + 5) (by omega)).trans (hk7 (i + 5) (by omega))).trans (hk6 (i + 5) (by omega)))]
  rw [(hk8 (i + 7) (by omega))]
theorem zar_3_1 {i : Nat} (h : zkd i = (3, 0)) : zkd (i + 1) = (100, 625) := (show ∀ i, i < 125 → zkd i = (3, 0) → zkd (i + 1) = (100, 625) by decide +kernel) i (zkd_lt h (by decide)) h
theorem zar_3_2 {i : Nat} (h : zkd i = (3, 0)) : zkd (i + 2) = (100, 625) := (show ∀ i, i < 125 → zkd i = (3, 0) → zkd (i + 2) = (100, 625) by decide +kernel) i (zkd_lt h (by decide)) h
set_option maxHeartbeats 4000000 in
set_option maxRecDepth 100000 in
theorem c_X3_init (l : Launch) (D : va_G) (cI cJ : ClassId) : zCn l D cI cJ yX3_init cX3_init 1 1 20 2 1250 3 (fun _ => True) (fun _ => []) zσz := by
  refine gopen (by decide) rfl (fun _ _ => Nat.le_of_ble_eq_true rfl) ?_
  intro ad ec i hi hX p e s m below meth c B hr hlocks hin ls hl I
  have B : zMB RX3 cX3_init 1 D cI cJ p m c s (Value.ref (ad i) :: []).toArray := B
  have hl : lv_has ls 1 [(0, .ref (ad i))] := hl
  generalize (Value.ref (ad i) :: []).toArray = args at B ⊢
  have hx := B.1.1
  have hb := B.1.2.1
  have hml := B.1.2.2.1
  have hown := B.1.2.2.2.1
  have hts := B.1.2.2.2.2
  have hA : ∀ q, s.heap.size ≤ q → zAn ad i s.heap.size q := fun q h => Or.inr h
  have I : zGI D cI cJ _ _ _ _ 3 i zσz ad ec [.null, .null, .int 0, .int 0, .int 0, .int 0] (i + 1) ad := I
  refine lv_aload_n hx hb dX3_init_0 rfl (lv_at hl 0 rfl) ?_
  refine W.objInit hx hb hown (hts _ (zin (i := 260) (by decide +kernel) rfl)) (hts _ (zin (i := 94) (by decide +kernel) rfl)) (hts _ (zin (i := 95) (by decide +kernel) rfl)) rfl (by rw [hml]; exact hl.1) rfl dX3_init_1 (Nat.le_of_ble_eq_true rfl) (Nat.le_of_ble_eq_true rfl) ?_
  refine W.eq (g2 := F0 m 4 ls []) rfl ?_
  refine lv_aload_n hx hb dX3_init_4 rfl (lv_at hl 0 rfl) ?_
  refine lv_sipush (v := (625 : Int32)) hx hb dX3_init_5 (by decide) ?_
  refine gnewa (ln := 625) B I hA ((zar_3_1 hi)) rfl (by decide) rfl (zin (i := 116) (by decide +kernel) rfl) (Nat.le_of_ble_eq_true rfl) (Nat.le_of_ble_eq_true rfl) dX3_init_8 (fun ad1 H hk1 I => ?_)
  have I : zGI D cI cJ _ _ _ _ 3 i zσz ad ec [.null, .null, .int 0, .int 0, .int 0, .int 0] (i + 2) ad1 := I
  refine gputF (k := 0) (t := .array .int) B hin I zK3 (by decide) (zin (i := 261) (by decide +kernel) rfl) rfl rfl (by decide) rfl rfl (Nat.le_of_ble_eq_true rfl) dX3_init_10 (fun H locs I => ?_)
  have I : zGI D cI cJ _ _ _ _ 3 i zσz ad ec [.ref (ad1 (i + 1)), .null, .int 0, .int 0, .int 0, .int 0] (i + 2) ad1 := I
  refine lv_aload_n hx hb dX3_init_13 rfl (lv_at hl 0 rfl) ?_
  refine lv_sipush (v := (625 : Int32)) hx hb dX3_init_14 (by decide) ?_
  refine gnewa (ln := 625) B I hA ((zar_3_2 hi)) rfl (by decide) rfl (zin (i := 116) (by decide +kernel) rfl) (Nat.le_of_ble_eq_true rfl) (Nat.le_of_ble_eq_true rfl) dX3_init_17 (fun ad2 H hk2 I => ?_)
  have I : zGI D cI cJ _ _ _ _ 3 i zσz ad ec [.ref (ad1 (i + 1)), .null, .int 0, .int 0, .int 0, .int 0] (i + 3) ad2 := I
  refine gputF (k := 1) (t := .array .int) B hin I zK3 (by decide) (zin (i := 262) (by decide +kernel) rfl) rfl rfl (by decide) rfl rfl (Nat.le_of_ble_eq_true rfl) dX3_init_19 (fun H locs I => ?_)
  have I : zGI D cI cJ _ _ _ _ 3 i zσz ad ec [.ref (ad1 (i + 1)), .ref (ad2 (i + 2)), .int 0, .int 0, .int 0, .int 0] (i + 3) ad2 := I
  refine lv_aload_n hx hb dX3_init_22 rfl (lv_at hl 0 rfl) ?_
  refine lv_iconst (v := (0 : Int32)) hx hb dX3_init_23 (by decide) ?_
  refine gput (k := 2) (t := .int) (v := .int 0) B I zK3 (by decide) (zin (i := 263) (by decide +kernel) rfl) rfl (by decide) (by decide) (by decide) (Nat.le_of_ble_eq_true rfl) dX3_init_24 (fun H locs I => ?_)
  have I : zGI D cI cJ _ _ _ _ 3 i zσz ad ec [.ref (ad1 (i + 1)), .ref (ad2 (i + 2)), .int 0, .int 0, .int 0, .int 0] (i + 3) ad2 := I
  refine lv_aload_n hx hb dX3_init_27 rfl (lv_at hl 0 rfl) ?_
  refine lv_iconst (v := (0 : Int32)) hx hb dX3_init_28 (by decide) ?_
  refine gput (k := 3) (t := .int) (v := .int 0) B I zK3 (by decide) (zin (i := 265) (by decide +kernel) rfl) rfl (by decide) (by decide) (by decide) (Nat.le_of_ble_eq_true rfl) dX3_init_29 (fun H locs I => ?_)
  have I : zGI D cI cJ _ _ _ _ 3 i zσz ad ec [.ref (ad1 (i + 1)), .ref (ad2 (i + 2)), .int 0, .int 0, .int 0, .int 0] (i + 3) ad2 := I
  refine lv_aload_n hx hb dX3_init_32 rfl (lv_at hl 0 rfl) ?_
  refine lv_iconst (v := (0 : Int32)) hx hb dX3_init_33 (by decide) ?_
  refine gput (k := 4) (t := .int) (v := .int 0) B I zK3 (by decide) (zin (i := 267) (by decide +kernel) rfl) rfl (by decide) (by decide) (by decide) (Nat.le_of_ble_eq_true rfl) dX3_init_34 (fun H locs I => ?_)
  have I : zGI D cI cJ _ _ _ _ 3 i zσz ad ec [.ref (ad1 (i + 1)), .ref (ad2 (i + 2)), .int 0, .int 0, .int 0, .int 0] (i + 3) ad2 := I
  refine lv_aload_n hx hb dX3_init_37 rfl (lv_at hl 0 rfl) ?_
  refine lv_iconst (v := (0 : Int32)) hx hb dX3_init_38 (by decide) ?_
  refine gput (k := 5) (t := .int) (v := .int 0) B I zK3 (by decide) (zin (i := 269) (by decide +kernel) rfl) rfl (by decide) (by decide) (by decide) (Nat.le_of_ble_eq_true rfl) dX3_init_39 (fun H locs I => ?_)
  have I : zGI D cI cJ _ _ _ _ 3 i zσz ad ec [.ref (ad1 (i + 1)), .ref (ad2 (i + 2)), .int 0, .int 0, .int 0, .int 0] (i + 3) ad2 := I
  refine gend B hr hlocks I ?_ dX3_init_42
  rw [zce_ob hi (by decide)]
  show _ = (Sum.inr (3, [.ref (ad2 (i + 1)), .ref (ad2 (i + 2)), .int 0, .int 0, .int 0, .int 0]) : va_E)
  rw [(hk2 (i + 1) (by omega))]
theorem zob_4_1 {i : Nat} (h : zkd i = (4, 0)) : zkd (i + 1) = (1, 0) := (show ∀ i, i < 125 → zkd i = (4, 0) → zkd (i + 1) = (1, 0) by decide +kernel) i (zkd_lt h (by decide)) h
theorem zln_4_1 {i : Nat} (h : zkd i = (4, 0)) : (zkd (i + 1 + 1)).2 = 324 := (show ∀ i, i < 125 → zkd i = (4, 0) → (zkd (i + 1 + 1)).2 = 324 by decide +kernel) i (zkd_lt h (by decide)) h
set_option maxHeartbeats 4000000 in
set_option maxRecDepth 100000 in
theorem c_X4_init (l : Launch) (D : va_G) (cI cJ : ClassId) : zCn l D cI cJ yX4_init cX4_init 1 2 41 2 325 4 (fun _ => True) (fun _ => []) zσz := by
  refine gopen (by decide) rfl (fun _ _ => Nat.le_of_ble_eq_true rfl) ?_
  intro ad ec i hi hX p e s m below meth c B hr hlocks hin ls hl I
  have B : zMB RX4 cX4_init 1 D cI cJ p m c s (Value.ref (ad i) :: []).toArray := B
  have hl : lv_has ls 1 [(0, .ref (ad i))] := hl
  generalize (Value.ref (ad i) :: []).toArray = args at B ⊢
  have hx := B.1.1
  have hb := B.1.2.1
  have hml := B.1.2.2.1
  have hown := B.1.2.2.2.1
  have hts := B.1.2.2.2.2
  have hA : ∀ q, s.heap.size ≤ q → zAn ad i s.heap.size q := fun q h => Or.inr h
  have I : zGI D cI cJ _ _ _ _ 4 i zσz ad ec [.null, .int 0] (i + 1) ad := I
  refine lv_aload_n hx hb dX4_init_0 rfl (lv_at hl 0 rfl) ?_
  refine W.objInit hx hb hown (hts _ (zin (i := 160) (by decide +kernel) rfl)) (hts _ (zin (i := 94) (by decide +kernel) rfl)) (hts _ (zin (i := 95) (by decide +kernel) rfl)) rfl (by rw [hml]; exact hl.1) rfl dX4_init_1 (Nat.le_of_ble_eq_true rfl) (Nat.le_of_ble_eq_true rfl) ?_
  refine W.eq (g2 := F0 m 4 ls []) rfl ?_
  refine lv_aload_n hx hb dX4_init_4 rfl (lv_at hl 0 rfl) ?_
  refine gnew B I hA zK1 (zin (i := 161) (by decide +kernel) rfl) (zin (i := 118) (by decide +kernel) rfl) (zin (i := 71) (by decide +kernel) rfl) (by decide +kernel) (Nat.le_of_ble_eq_true rfl) (Nat.le_of_ble_eq_true rfl) dX4_init_5 (fun ad1 H hk1 I => ?_)
  refine lv_dup hx hb dX4_init_8 rfl ?_
  refine lv_sipush (v := (324 : Int32)) hx hb dX4_init_9 (by decide) ?_
  refine ginit (as := fun _ => [.int (324 : Int32)]) (k := 1) B I hA ((zob_4_1 hi)) (zln_4_1 hi) (c_X1_init l D cI cJ 324 (by decide)) (fun _ _ _ => ⟨rfl, rfl⟩) (zclos_1 ((zob_4_1 hi))) (by decide) (Or.inl (zin (i := 162) (by decide +kernel) rfl)) (zin (i := 120) (by decide +kernel) rfl) (zin (i := 71) (by decide +kernel) rfl) (zin (i := 121) (by decide +kernel) rfl) rfl ⟨by decide, by decide, by decide +kernel⟩ ⟨Nat.le_of_ble_eq_true rfl, Nat.le_of_ble_eq_true rfl⟩ ⟨Nat.le_of_ble_eq_true rfl, Nat.le_of_ble_eq_true rfl⟩ rfl rfl (Nat.le_of_ble_eq_true rfl) hl.1 dX4_init_12 (fun ad2 H locs hk2 I => ?_)
  have I : zGI D cI cJ _ _ _ _ 4 i zσz ad ec [.null, .int 0] (i + 3) ad2 := I
  refine gputF (k := 0) (t := .object "AnchorChains$Cells") B hin I zK4 (by decide) (zin (i := 163) (by decide +kernel) rfl) rfl rfl (by decide) rfl rfl (Nat.le_of_ble_eq_true rfl) dX4_init_15 (fun H locs I => ?_)
  have I : zGI D cI cJ _ _ _ _ 4 i zσz ad ec [.ref (ad1 (i + 1)), .int 0] (i + 3) ad2 := I
  refine lv_aload_n hx hb dX4_init_18 rfl (lv_at hl 0 rfl) ?_
  refine lv_iconst (v := (0 : Int32)) hx hb dX4_init_19 (by decide) ?_
  refine gput (k := 1) (t := .int) (v := .int 0) B I zK4 (by decide) (zin (i := 164) (by decide +kernel) rfl) rfl (by decide) (by decide) (by decide) (Nat.le_of_ble_eq_true rfl) dX4_init_20 (fun H locs I => ?_)
  have I : zGI D cI cJ _ _ _ _ 4 i zσz ad ec [.ref (ad1 (i + 1)), .int 0] (i + 3) ad2 := I
  refine gend B hr hlocks I ?_ dX4_init_23
  rw [zce_ob hi (by decide)]
  show _ = (Sum.inr (4, [.ref (ad2 (i + 1)), .int 0]) : va_E)
  rw [(hk2 (i + 1) (by omega))]
theorem zob_8_1 {i : Nat} (h : zkd i = (8, 0)) : zkd (i + 1) = (1, 0) := (show ∀ i, i < 125 → zkd i = (8, 0) → zkd (i + 1) = (1, 0) by decide +kernel) i (zkd_lt h (by decide)) h
theorem zln_8_1 {i : Nat} (h : zkd i = (8, 0)) : (zkd (i + 1 + 1)).2 = 60 := (show ∀ i, i < 125 → zkd i = (8, 0) → (zkd (i + 1 + 1)).2 = 60 by decide +kernel) i (zkd_lt h (by decide)) h
set_option maxHeartbeats 4000000 in
set_option maxRecDepth 100000 in
theorem c_X8_init (l : Launch) (D : va_G) (cI cJ : ClassId) : zCn l D cI cJ yX8_init cX8_init 1 2 41 2 61 8 (fun _ => True) (fun _ => []) zσz := by
  refine gopen (by decide) rfl (fun _ _ => Nat.le_of_ble_eq_true rfl) ?_
  intro ad ec i hi hX p e s m below meth c B hr hlocks hin ls hl I
  have B : zMB RX8 cX8_init 1 D cI cJ p m c s (Value.ref (ad i) :: []).toArray := B
  have hl : lv_has ls 1 [(0, .ref (ad i))] := hl
  generalize (Value.ref (ad i) :: []).toArray = args at B ⊢
  have hx := B.1.1
  have hb := B.1.2.1
  have hml := B.1.2.2.1
  have hown := B.1.2.2.2.1
  have hts := B.1.2.2.2.2
  have hA : ∀ q, s.heap.size ≤ q → zAn ad i s.heap.size q := fun q h => Or.inr h
  have I : zGI D cI cJ _ _ _ _ 8 i zσz ad ec [.null, .int 0] (i + 1) ad := I
  refine lv_aload_n hx hb dX8_init_0 rfl (lv_at hl 0 rfl) ?_
  refine W.objInit hx hb hown (hts _ (zin (i := 175) (by decide +kernel) rfl)) (hts _ (zin (i := 94) (by decide +kernel) rfl)) (hts _ (zin (i := 95) (by decide +kernel) rfl)) rfl (by rw [hml]; exact hl.1) rfl dX8_init_1 (Nat.le_of_ble_eq_true rfl) (Nat.le_of_ble_eq_true rfl) ?_
  refine W.eq (g2 := F0 m 4 ls []) rfl ?_
  refine lv_aload_n hx hb dX8_init_4 rfl (lv_at hl 0 rfl) ?_
  refine gnew B I hA zK1 (zin (i := 176) (by decide +kernel) rfl) (zin (i := 118) (by decide +kernel) rfl) (zin (i := 71) (by decide +kernel) rfl) (by decide +kernel) (Nat.le_of_ble_eq_true rfl) (Nat.le_of_ble_eq_true rfl) dX8_init_5 (fun ad1 H hk1 I => ?_)
  refine lv_dup hx hb dX8_init_8 rfl ?_
  refine lv_bipush (v := (60 : Int32)) hx hb dX8_init_9 (by decide) ?_
  refine ginit (as := fun _ => [.int (60 : Int32)]) (k := 1) B I hA ((zob_8_1 hi)) (zln_8_1 hi) (c_X1_init l D cI cJ 60 (by decide)) (fun _ _ _ => ⟨rfl, rfl⟩) (zclos_1 ((zob_8_1 hi))) (by decide) (Or.inl (zin (i := 177) (by decide +kernel) rfl)) (zin (i := 120) (by decide +kernel) rfl) (zin (i := 71) (by decide +kernel) rfl) (zin (i := 121) (by decide +kernel) rfl) rfl ⟨by decide, by decide, by decide +kernel⟩ ⟨Nat.le_of_ble_eq_true rfl, Nat.le_of_ble_eq_true rfl⟩ ⟨Nat.le_of_ble_eq_true rfl, Nat.le_of_ble_eq_true rfl⟩ rfl rfl (Nat.le_of_ble_eq_true rfl) hl.1 dX8_init_11 (fun ad2 H locs hk2 I => ?_)
  have I : zGI D cI cJ _ _ _ _ 8 i zσz ad ec [.null, .int 0] (i + 3) ad2 := I
  refine gputF (k := 0) (t := .object "AnchorChains$Cells") B hin I zK8 (by decide) (zin (i := 178) (by decide +kernel) rfl) rfl rfl (by decide) rfl rfl (Nat.le_of_ble_eq_true rfl) dX8_init_14 (fun H locs I => ?_)
  have I : zGI D cI cJ _ _ _ _ 8 i zσz ad ec [.ref (ad1 (i + 1)), .int 0] (i + 3) ad2 := I
  refine lv_aload_n hx hb dX8_init_17 rfl (lv_at hl 0 rfl) ?_
  refine lv_iconst (v := (0 : Int32)) hx hb dX8_init_18 (by decide) ?_
  refine gput (k := 1) (t := .int) (v := .int 0) B I zK8 (by decide) (zin (i := 179) (by decide +kernel) rfl) rfl (by decide) (by decide) (by decide) (Nat.le_of_ble_eq_true rfl) dX8_init_19 (fun H locs I => ?_)
  have I : zGI D cI cJ _ _ _ _ 8 i zσz ad ec [.ref (ad1 (i + 1)), .int 0] (i + 3) ad2 := I
  refine gend B hr hlocks I ?_ dX8_init_22
  rw [zce_ob hi (by decide)]
  show _ = (Sum.inr (8, [.ref (ad2 (i + 1)), .int 0]) : va_E)
  rw [(hk2 (i + 1) (by omega))]
theorem zob_9_1 {i : Nat} (h : zkd i = (9, 0)) : zkd (i + 1) = (0, 0) := (show ∀ i, i < 125 → zkd i = (9, 0) → zkd (i + 1) = (0, 0) by decide +kernel) i (zkd_lt h (by decide)) h
theorem zob_9_10 {i : Nat} (h : zkd i = (9, 0)) : zkd (i + 10) = (1, 0) := (show ∀ i, i < 125 → zkd i = (9, 0) → zkd (i + 10) = (1, 0) by decide +kernel) i (zkd_lt h (by decide)) h
theorem zln_9_10 {i : Nat} (h : zkd i = (9, 0)) : (zkd (i + 10 + 1)).2 = 24 := (show ∀ i, i < 125 → zkd i = (9, 0) → (zkd (i + 10 + 1)).2 = 24 by decide +kernel) i (zkd_lt h (by decide)) h
set_option maxHeartbeats 4000000 in
set_option maxRecDepth 100000 in
theorem c_X9_init (l : Launch) (D : va_G) (cI cJ : ClassId) : zCn l D cI cJ yX9_init cX9_init 1 3 61 11 131 9 (fun _ => True) (fun _ => []) zσz := by
  refine gopen (by decide) rfl (fun _ _ => Nat.le_of_ble_eq_true rfl) ?_
  intro ad ec i hi hX p e s m below meth c B hr hlocks hin ls hl I
  have B : zMB RX9 cX9_init 1 D cI cJ p m c s (Value.ref (ad i) :: []).toArray := B
  have hl : lv_has ls 1 [(0, .ref (ad i))] := hl
  generalize (Value.ref (ad i) :: []).toArray = args at B ⊢
  have hx := B.1.1
  have hb := B.1.2.1
  have hml := B.1.2.2.1
  have hown := B.1.2.2.2.1
  have hts := B.1.2.2.2.2
  have hA : ∀ q, s.heap.size ≤ q → zAn ad i s.heap.size q := fun q h => Or.inr h
  have I : zGI D cI cJ _ _ _ _ 9 i zσz ad ec [.null, .int 0, .int 0, .null] (i + 1) ad := I
  refine lv_aload_n hx hb dX9_init_0 rfl (lv_at hl 0 rfl) ?_
  refine W.objInit hx hb hown (hts _ (zin (i := 320) (by decide +kernel) rfl)) (hts _ (zin (i := 94) (by decide +kernel) rfl)) (hts _ (zin (i := 95) (by decide +kernel) rfl)) rfl (by rw [hml]; exact hl.1) rfl dX9_init_1 (Nat.le_of_ble_eq_true rfl) (Nat.le_of_ble_eq_true rfl) ?_
  refine W.eq (g2 := F0 m 4 ls []) rfl ?_
  refine lv_aload_n hx hb dX9_init_4 rfl (lv_at hl 0 rfl) ?_
  refine gnew B I hA zK0 (zin (i := 321) (by decide +kernel) rfl) (zin (i := 192) (by decide +kernel) rfl) (zin (i := 75) (by decide +kernel) rfl) (by decide +kernel) (Nat.le_of_ble_eq_true rfl) (Nat.le_of_ble_eq_true rfl) dX9_init_5 (fun ad1 H hk1 I => ?_)
  refine lv_dup hx hb dX9_init_8 rfl ?_
  refine ginit (as := fun _ => []) (k := 0) B I hA ((zob_9_1 hi)) trivial (c_X0_init l D cI cJ) (fun _ _ _ => ⟨rfl, rfl⟩) (zclos_0 ((zob_9_1 hi))) (by decide) (Or.inr (List.mem_of_getElem? (i := 8) rfl)) (zin (i := 194) (by decide +kernel) rfl) (zin (i := 75) (by decide +kernel) rfl) (zin (i := 195) (by decide +kernel) rfl) rfl ⟨by decide, by decide, by decide +kernel⟩ ⟨Nat.le_of_ble_eq_true rfl, Nat.le_of_ble_eq_true rfl⟩ ⟨Nat.le_of_ble_eq_true rfl, Nat.le_of_ble_eq_true rfl⟩ rfl rfl (Nat.le_of_ble_eq_true rfl) hl.1 dX9_init_9 (fun ad2 H locs hk2 I => ?_)
  have I : zGI D cI cJ _ _ _ _ 9 i zσz ad ec [.null, .int 0, .int 0, .null] (i + 10) ad2 := I
  refine gputF (k := 0) (t := .object "AnchorChains$Anchors") B hin I zK9 (by decide) (zin (i := 325) (by decide +kernel) rfl) rfl rfl (by decide) rfl rfl (Nat.le_of_ble_eq_true rfl) dX9_init_12 (fun H locs I => ?_)
  have I : zGI D cI cJ _ _ _ _ 9 i zσz ad ec [.ref (ad1 (i + 1)), .int 0, .int 0, .null] (i + 10) ad2 := I
  refine lv_aload_n hx hb dX9_init_15 rfl (lv_at hl 0 rfl) ?_
  refine lv_iconst (v := (0 : Int32)) hx hb dX9_init_16 (by decide) ?_
  refine gput (k := 1) (t := .int) (v := .int 0) B I zK9 (by decide) (zin (i := 327) (by decide +kernel) rfl) rfl (by decide) (by decide) (by decide) (Nat.le_of_ble_eq_true rfl) dX9_init_17 (fun H locs I => ?_)
  have I : zGI D cI cJ _ _ _ _ 9 i zσz ad ec [.ref (ad1 (i + 1)), .int 0, .int 0, .null] (i + 10) ad2 := I
  refine lv_aload_n hx hb dX9_init_20 rfl (lv_at hl 0 rfl) ?_
  refine lv_iconst (v := (0 : Int32)) hx hb dX9_init_21 (by decide) ?_
  refine gput (k := 2) (t := .int) (v := .int 0) B I zK9 (by decide) (zin (i := 329) (by decide +kernel) rfl) rfl (by decide) (by decide) (by decide) (Nat.le_of_ble_eq_true rfl) dX9_init_22 (fun H locs I => ?_)
  have I : zGI D cI cJ _ _ _ _ 9 i zσz ad ec [.ref (ad1 (i + 1)), .int 0, .int 0, .null] (i + 10) ad2 := I
  refine lv_aload_n hx hb dX9_init_25 rfl (lv_at hl 0 rfl) ?_
  refine gnew B I hA zK1 (zin (i := 323) (by decide +kernel) rfl) (zin (i := 118) (by decide +kernel) rfl) (zin (i := 71) (by decide +kernel) rfl) (by decide +kernel) (Nat.le_of_ble_eq_true rfl) (Nat.le_of_ble_eq_true rfl) dX9_init_26 (fun ad3 H hk3 I => ?_)
  refine lv_dup hx hb dX9_init_29 rfl ?_
  refine lv_bipush (v := (24 : Int32)) hx hb dX9_init_30 (by decide) ?_
  refine ginit (as := fun _ => [.int (24 : Int32)]) (k := 1) B I hA ((zob_9_10 hi)) (zln_9_10 hi) (c_X1_init l D cI cJ 24 (by decide)) (fun _ _ _ => ⟨rfl, rfl⟩) (zclos_1 ((zob_9_10 hi))) (by decide) (Or.inl (zin (i := 324) (by decide +kernel) rfl)) (zin (i := 120) (by decide +kernel) rfl) (zin (i := 71) (by decide +kernel) rfl) (zin (i := 121) (by decide +kernel) rfl) rfl ⟨by decide, by decide, by decide +kernel⟩ ⟨Nat.le_of_ble_eq_true rfl, Nat.le_of_ble_eq_true rfl⟩ ⟨Nat.le_of_ble_eq_true rfl, Nat.le_of_ble_eq_true rfl⟩ rfl rfl (Nat.le_of_ble_eq_true rfl) hl.1 dX9_init_32 (fun ad4 H locs hk4 I => ?_)
  have I : zGI D cI cJ _ _ _ _ 9 i zσz ad ec [.ref (ad1 (i + 1)), .int 0, .int 0, .null] (i + 12) ad4 := I
  refine gputF (k := 3) (t := .object "AnchorChains$Cells") B hin I zK9 (by decide) (zin (i := 331) (by decide +kernel) rfl) rfl rfl (by decide) rfl rfl (Nat.le_of_ble_eq_true rfl) dX9_init_35 (fun H locs I => ?_)
  have I : zGI D cI cJ _ _ _ _ 9 i zσz ad ec [.ref (ad1 (i + 1)), .int 0, .int 0, .ref (ad3 (i + 10))] (i + 12) ad4 := I
  refine gend B hr hlocks I ?_ dX9_init_38
  rw [zce_ob hi (by decide)]
  show _ = (Sum.inr (9, [.ref (ad4 (i + 1)), .int 0, .int 0, .ref (ad4 (i + 10))]) : va_E)
  rw [(((hk4 (i + 1) (by omega)).trans (hk3 (i + 1) (by omega))).trans (hk2 (i + 1) (by omega)))]
  rw [(hk4 (i + 10) (by omega))]
theorem zob_7_1 {i : Nat} (h : zkd i = (7, 0)) : zkd (i + 1) = (6, 0) := (show ∀ i, i < 125 → zkd i = (7, 0) → zkd (i + 1) = (6, 0) by decide +kernel) i (zkd_lt h (by decide)) h
theorem zob_7_3 {i : Nat} (h : zkd i = (7, 0)) : zkd (i + 3) = (6, 0) := (show ∀ i, i < 125 → zkd i = (7, 0) → zkd (i + 3) = (6, 0) by decide +kernel) i (zkd_lt h (by decide)) h
theorem zob_7_5 {i : Nat} (h : zkd i = (7, 0)) : zkd (i + 5) = (1, 0) := (show ∀ i, i < 125 → zkd i = (7, 0) → zkd (i + 5) = (1, 0) by decide +kernel) i (zkd_lt h (by decide)) h
theorem zln_7_5 {i : Nat} (h : zkd i = (7, 0)) : (zkd (i + 5 + 1)).2 = 4 := (show ∀ i, i < 125 → zkd i = (7, 0) → (zkd (i + 5 + 1)).2 = 4 by decide +kernel) i (zkd_lt h (by decide)) h
set_option maxHeartbeats 4000000 in
set_option maxRecDepth 100000 in
theorem c_X7_init (l : Launch) (D : va_G) (cI cJ : ClassId) : zCn l D cI cJ yX7_init cX7_init 1 2 41 6 57 7 (fun _ => True) (fun _ => []) zσ0 := by
  refine gopen (by decide) rfl (fun _ _ => Nat.le_of_ble_eq_true rfl) ?_
  intro ad ec i hi hX p e s m below meth c B hr hlocks hin ls hl I
  have B : zMB RX7 cX7_init 1 D cI cJ p m c s (Value.ref (ad i) :: []).toArray := B
  have hl : lv_has ls 1 [(0, .ref (ad i))] := hl
  generalize (Value.ref (ad i) :: []).toArray = args at B ⊢
  have hx := B.1.1
  have hb := B.1.2.1
  have hml := B.1.2.2.1
  have hown := B.1.2.2.2.1
  have hts := B.1.2.2.2.2
  have hA : ∀ q, s.heap.size ≤ q → zAn ad i s.heap.size q := fun q h => Or.inr h
  have I : zGI D cI cJ _ _ _ _ 7 i zσz ad ec [.null, .null, .null] (i + 1) ad := I
  refine lv_aload_n hx hb dX7_init_0 rfl (lv_at hl 0 rfl) ?_
  refine W.objInit hx hb hown (hts _ (zin (i := 101) (by decide +kernel) rfl)) (hts _ (zin (i := 94) (by decide +kernel) rfl)) (hts _ (zin (i := 95) (by decide +kernel) rfl)) rfl (by rw [hml]; exact hl.1) rfl dX7_init_1 (Nat.le_of_ble_eq_true rfl) (Nat.le_of_ble_eq_true rfl) ?_
  refine W.eq (g2 := F0 m 4 ls []) rfl ?_
  refine lv_aload_n hx hb dX7_init_4 rfl (lv_at hl 0 rfl) ?_
  refine gnew B I hA zK6 (zin (i := 102) (by decide +kernel) rfl) (zin (i := 103) (by decide +kernel) rfl) (zin (i := 70) (by decide +kernel) rfl) (by decide +kernel) (Nat.le_of_ble_eq_true rfl) (Nat.le_of_ble_eq_true rfl) dX7_init_5 (fun ad1 H hk1 I => ?_)
  refine lv_dup hx hb dX7_init_8 rfl ?_
  refine ginit (as := fun _ => []) (k := 0) B I hA ((zob_7_1 hi)) trivial (c_X6_init l D cI cJ) (fun _ _ _ => ⟨rfl, rfl⟩) (zclos_6 ((zob_7_1 hi))) (by decide) (Or.inr (List.mem_of_getElem? (i := 0) rfl)) (zin (i := 105) (by decide +kernel) rfl) (zin (i := 70) (by decide +kernel) rfl) (zin (i := 106) (by decide +kernel) rfl) rfl ⟨by decide, by decide, by decide +kernel⟩ ⟨Nat.le_of_ble_eq_true rfl, Nat.le_of_ble_eq_true rfl⟩ ⟨Nat.le_of_ble_eq_true rfl, Nat.le_of_ble_eq_true rfl⟩ rfl rfl (Nat.le_of_ble_eq_true rfl) hl.1 dX7_init_9 (fun ad2 H locs hk2 I => ?_)
  have I : zGI D cI cJ _ _ _ _ 7 i zσz ad ec [.null, .null, .null] (i + 3) ad2 := I
  refine gputF (k := 0) (t := .object "AnchorChains$Row") B hin I zK7 (by decide) (zin (i := 131) (by decide +kernel) rfl) rfl rfl (by decide) rfl rfl (Nat.le_of_ble_eq_true rfl) dX7_init_12 (fun H locs I => ?_)
  have I : zGI D cI cJ _ _ _ _ 7 i zσz ad ec [.ref (ad1 (i + 1)), .null, .null] (i + 3) ad2 := I
  refine lv_aload_n hx hb dX7_init_15 rfl (lv_at hl 0 rfl) ?_
  refine gnew B I hA zK6 (zin (i := 102) (by decide +kernel) rfl) (zin (i := 103) (by decide +kernel) rfl) (zin (i := 70) (by decide +kernel) rfl) (by decide +kernel) (Nat.le_of_ble_eq_true rfl) (Nat.le_of_ble_eq_true rfl) dX7_init_16 (fun ad3 H hk3 I => ?_)
  refine lv_dup hx hb dX7_init_19 rfl ?_
  refine ginit (as := fun _ => []) (k := 0) B I hA ((zob_7_3 hi)) trivial (c_X6_init l D cI cJ) (fun _ _ _ => ⟨rfl, rfl⟩) (zclos_6 ((zob_7_3 hi))) (by decide) (Or.inr (List.mem_of_getElem? (i := 0) rfl)) (zin (i := 105) (by decide +kernel) rfl) (zin (i := 70) (by decide +kernel) rfl) (zin (i := 106) (by decide +kernel) rfl) rfl ⟨by decide, by decide, by decide +kernel⟩ ⟨Nat.le_of_ble_eq_true rfl, Nat.le_of_ble_eq_true rfl⟩ ⟨Nat.le_of_ble_eq_true rfl, Nat.le_of_ble_eq_true rfl⟩ rfl rfl (Nat.le_of_ble_eq_true rfl) hl.1 dX7_init_20 (fun ad4 H locs hk4 I => ?_)
  have I : zGI D cI cJ _ _ _ _ 7 i zσz ad ec [.ref (ad1 (i + 1)), .null, .null] (i + 5) ad4 := I
  refine gputF (k := 1) (t := .object "AnchorChains$Row") B hin I zK7 (by decide) (zin (i := 137) (by decide +kernel) rfl) rfl rfl (by decide) rfl rfl (Nat.le_of_ble_eq_true rfl) dX7_init_23 (fun H locs I => ?_)
  have I : zGI D cI cJ _ _ _ _ 7 i zσz ad ec [.ref (ad1 (i + 1)), .ref (ad3 (i + 3)), .null] (i + 5) ad4 := I
  refine lv_aload_n hx hb dX7_init_26 rfl (lv_at hl 0 rfl) ?_
  refine gnew B I hA zK1 (zin (i := 117) (by decide +kernel) rfl) (zin (i := 118) (by decide +kernel) rfl) (zin (i := 71) (by decide +kernel) rfl) (by decide +kernel) (Nat.le_of_ble_eq_true rfl) (Nat.le_of_ble_eq_true rfl) dX7_init_27 (fun ad5 H hk5 I => ?_)
  refine lv_dup hx hb dX7_init_30 rfl ?_
  refine lv_iconst (v := (4 : Int32)) hx hb dX7_init_31 (by decide) ?_
  refine ginit (as := fun _ => [.int (4 : Int32)]) (k := 1) B I hA ((zob_7_5 hi)) (zln_7_5 hi) (c_X1_init l D cI cJ 4 (by decide)) (fun _ _ _ => ⟨rfl, rfl⟩) (zclos_1 ((zob_7_5 hi))) (by decide) (Or.inl (zin (i := 119) (by decide +kernel) rfl)) (zin (i := 120) (by decide +kernel) rfl) (zin (i := 71) (by decide +kernel) rfl) (zin (i := 121) (by decide +kernel) rfl) rfl ⟨by decide, by decide, by decide +kernel⟩ ⟨Nat.le_of_ble_eq_true rfl, Nat.le_of_ble_eq_true rfl⟩ ⟨Nat.le_of_ble_eq_true rfl, Nat.le_of_ble_eq_true rfl⟩ rfl rfl (Nat.le_of_ble_eq_true rfl) hl.1 dX7_init_32 (fun ad6 H locs hk6 I => ?_)
  have I : zGI D cI cJ _ _ _ _ 7 i zσz ad ec [.ref (ad1 (i + 1)), .ref (ad3 (i + 3)), .null] (i + 7) ad6 := I
  refine gputF (k := 2) (t := .object "AnchorChains$Cells") B hin I zK7 (by decide) (zin (i := 143) (by decide +kernel) rfl) rfl rfl (by decide) rfl rfl (Nat.le_of_ble_eq_true rfl) dX7_init_35 (fun H locs I => ?_)
  have I : zGI D cI cJ _ _ _ _ 7 i zσz ad ec [.ref (ad1 (i + 1)), .ref (ad3 (i + 3)), .ref (ad5 (i + 5))] (i + 7) ad6 := I
  refine lv_aload_n hx hb dX7_init_38 rfl (lv_at hl 0 rfl) ?_
  refine gget (k := 2) (v := .ref (ad5 (i + 5))) B I zK7 (by decide) (zin (i := 143) (by decide +kernel) rfl) rfl dX7_init_39 ?_
  refine lv_iconst (v := (0 : Int32)) hx hb dX7_init_42 (by decide) ?_
  refine lv_iconst (v := (3 : Int32)) hx hb dX7_init_43 (by decide) ?_
  refine gstore (a := (i + 5)) (ln := 4) (k := 0) B I ((hk6 (i + 5) (by omega))).symm (by omega) (by omega) (zob_7_5 hi) (zs4 hi) rfl (by decide) (by decide) zlv_X7_30 ⟨Nat.le_of_ble_eq_true rfl, Nat.le_of_ble_eq_true rfl⟩ ⟨Nat.le_of_ble_eq_true rfl, Nat.le_of_ble_eq_true rfl⟩ (Nat.le_of_ble_eq_true rfl) hl.1 dX7_init_44 (fun H locs I => ?_)
  refine lv_aload_n hx hb dX7_init_47 rfl (lv_at hl 0 rfl) ?_
  refine gget (k := 2) (v := .ref (ad5 (i + 5))) B I zK7 (by decide) (zin (i := 143) (by decide +kernel) rfl) rfl dX7_init_48 ?_
  refine lv_iconst (v := (1 : Int32)) hx hb dX7_init_51 (by decide) ?_
  refine lv_iconst (v := (2 : Int32)) hx hb dX7_init_52 (by decide) ?_
  refine gstore (a := (i + 5)) (ln := 4) (k := 1) B I ((hk6 (i + 5) (by omega))).symm (by omega) (by omega) (zob_7_5 hi) (zs4 hi) rfl (by decide) (by decide) zlv_X7_30 ⟨Nat.le_of_ble_eq_true rfl, Nat.le_of_ble_eq_true rfl⟩ ⟨Nat.le_of_ble_eq_true rfl, Nat.le_of_ble_eq_true rfl⟩ (Nat.le_of_ble_eq_true rfl) hl.1 dX7_init_53 (fun H locs I => ?_)
  refine lv_aload_n hx hb dX7_init_56 rfl (lv_at hl 0 rfl) ?_
  refine gget (k := 2) (v := .ref (ad5 (i + 5))) B I zK7 (by decide) (zin (i := 143) (by decide +kernel) rfl) rfl dX7_init_57 ?_
  refine lv_iconst (v := (2 : Int32)) hx hb dX7_init_60 (by decide) ?_
  refine lv_iconst (v := (3 : Int32)) hx hb dX7_init_61 (by decide) ?_
  refine gstore (a := (i + 5)) (ln := 4) (k := 2) B I ((hk6 (i + 5) (by omega))).symm (by omega) (by omega) (zob_7_5 hi) (zs4 hi) rfl (by decide) (by decide) zlv_X7_30 ⟨Nat.le_of_ble_eq_true rfl, Nat.le_of_ble_eq_true rfl⟩ ⟨Nat.le_of_ble_eq_true rfl, Nat.le_of_ble_eq_true rfl⟩ (Nat.le_of_ble_eq_true rfl) hl.1 dX7_init_62 (fun H locs I => ?_)
  refine lv_aload_n hx hb dX7_init_65 rfl (lv_at hl 0 rfl) ?_
  refine gget (k := 2) (v := .ref (ad5 (i + 5))) B I zK7 (by decide) (zin (i := 143) (by decide +kernel) rfl) rfl dX7_init_66 ?_
  refine lv_iconst (v := (3 : Int32)) hx hb dX7_init_69 (by decide) ?_
  refine lv_iconst (v := (4 : Int32)) hx hb dX7_init_70 (by decide) ?_
  refine gstore (a := (i + 5)) (ln := 4) (k := 3) B I ((hk6 (i + 5) (by omega))).symm (by omega) (by omega) (zob_7_5 hi) (zs4 hi) rfl (by decide) (by decide) zlv_X7_30 ⟨Nat.le_of_ble_eq_true rfl, Nat.le_of_ble_eq_true rfl⟩ ⟨Nat.le_of_ble_eq_true rfl, Nat.le_of_ble_eq_true rfl⟩ (Nat.le_of_ble_eq_true rfl) hl.1 dX7_init_71 (fun H locs I => ?_)
  have I := gmu (μ' := zσ0) I (fun j h1 h2 => zσs7 hi j h1 h2)
  refine gend B hr hlocks I ?_ dX7_init_74
  rw [zce_ob hi (by decide)]
  show _ = (Sum.inr (7, [.ref (ad6 (i + 1)), .ref (ad6 (i + 3)), .ref (ad6 (i + 5))]) : va_E)
  rw [(((((hk6 (i + 1) (by omega)).trans (hk5 (i + 1) (by omega))).trans (hk4 (i + 1) (by omega))).trans (hk3 (i + 1) (by omega))).trans (hk2 (i + 1) (by omega)))]
  rw [(((hk6 (i + 3) (by omega)).trans (hk5 (i + 3) (by omega))).trans (hk4 (i + 3) (by omega)))]
  rw [(hk6 (i + 5) (by omega))]
theorem zob_5_1 {i : Nat} (h : zkd i = (5, 0)) : zkd (i + 1) = (0, 0) := (show ∀ i, i < 125 → zkd i = (5, 0) → zkd (i + 1) = (0, 0) by decide +kernel) i (zkd_lt h (by decide)) h
theorem zob_5_10 {i : Nat} (h : zkd i = (5, 0)) : zkd (i + 10) = (2, 0) := (show ∀ i, i < 125 → zkd i = (5, 0) → zkd (i + 10) = (2, 0) by decide +kernel) i (zkd_lt h (by decide)) h
theorem zob_5_19 {i : Nat} (h : zkd i = (5, 0)) : zkd (i + 19) = (3, 0) := (show ∀ i, i < 125 → zkd i = (5, 0) → zkd (i + 19) = (3, 0) by decide +kernel) i (zkd_lt h (by decide)) h
theorem zob_5_22 {i : Nat} (h : zkd i = (5, 0)) : zkd (i + 22) = (1, 0) := (show ∀ i, i < 125 → zkd i = (5, 0) → zkd (i + 22) = (1, 0) by decide +kernel) i (zkd_lt h (by decide)) h
theorem zln_5_22 {i : Nat} (h : zkd i = (5, 0)) : (zkd (i + 22 + 1)).2 = 125 := (show ∀ i, i < 125 → zkd i = (5, 0) → (zkd (i + 22 + 1)).2 = 125 by decide +kernel) i (zkd_lt h (by decide)) h
theorem zob_5_24 {i : Nat} (h : zkd i = (5, 0)) : zkd (i + 24) = (1, 0) := (show ∀ i, i < 125 → zkd i = (5, 0) → zkd (i + 24) = (1, 0) by decide +kernel) i (zkd_lt h (by decide)) h
theorem zln_5_24 {i : Nat} (h : zkd i = (5, 0)) : (zkd (i + 24 + 1)).2 = 24 := (show ∀ i, i < 125 → zkd i = (5, 0) → (zkd (i + 24 + 1)).2 = 24 by decide +kernel) i (zkd_lt h (by decide)) h
theorem zob_5_26 {i : Nat} (h : zkd i = (5, 0)) : zkd (i + 26) = (1, 0) := (show ∀ i, i < 125 → zkd i = (5, 0) → zkd (i + 26) = (1, 0) by decide +kernel) i (zkd_lt h (by decide)) h
theorem zln_5_26 {i : Nat} (h : zkd i = (5, 0)) : (zkd (i + 26 + 1)).2 = 24 := (show ∀ i, i < 125 → zkd i = (5, 0) → (zkd (i + 26 + 1)).2 = 24 by decide +kernel) i (zkd_lt h (by decide)) h
set_option maxHeartbeats 4000000 in
set_option maxRecDepth 100000 in
theorem c_X5_init (l : Launch) (D : va_G) (cI cJ : ClassId) : zCn l D cI cJ yX5_init cX5_init 1 3 61 27 1643 5 (fun _ => True) (fun _ => []) zσz := by
  refine gopen (by decide) rfl (fun _ _ => Nat.le_of_ble_eq_true rfl) ?_
  intro ad ec i hi hX p e s m below meth c B hr hlocks hin ls hl I
  have B : zMB RX5 cX5_init 1 D cI cJ p m c s (Value.ref (ad i) :: []).toArray := B
  have hl : lv_has ls 1 [(0, .ref (ad i))] := hl
  generalize (Value.ref (ad i) :: []).toArray = args at B ⊢
  have hx := B.1.1
  have hb := B.1.2.1
  have hml := B.1.2.2.1
  have hown := B.1.2.2.2.1
  have hts := B.1.2.2.2.2
  have hA : ∀ q, s.heap.size ≤ q → zAn ad i s.heap.size q := fun q h => Or.inr h
  have I : zGI D cI cJ _ _ _ _ 5 i zσz ad ec [.null, .null, .int 0, .int 0, .null, .null, .null, .null] (i + 1) ad := I
  refine lv_aload_n hx hb dX5_init_0 rfl (lv_at hl 0 rfl) ?_
  refine W.objInit hx hb hown (hts _ (zin (i := 190) (by decide +kernel) rfl)) (hts _ (zin (i := 94) (by decide +kernel) rfl)) (hts _ (zin (i := 95) (by decide +kernel) rfl)) rfl (by rw [hml]; exact hl.1) rfl dX5_init_1 (Nat.le_of_ble_eq_true rfl) (Nat.le_of_ble_eq_true rfl) ?_
  refine W.eq (g2 := F0 m 4 ls []) rfl ?_
  refine lv_aload_n hx hb dX5_init_4 rfl (lv_at hl 0 rfl) ?_
  refine gnew B I hA zK0 (zin (i := 191) (by decide +kernel) rfl) (zin (i := 192) (by decide +kernel) rfl) (zin (i := 75) (by decide +kernel) rfl) (by decide +kernel) (Nat.le_of_ble_eq_true rfl) (Nat.le_of_ble_eq_true rfl) dX5_init_5 (fun ad1 H hk1 I => ?_)
  refine lv_dup hx hb dX5_init_8 rfl ?_
  refine ginit (as := fun _ => []) (k := 0) B I hA ((zob_5_1 hi)) trivial (c_X0_init l D cI cJ) (fun _ _ _ => ⟨rfl, rfl⟩) (zclos_0 ((zob_5_1 hi))) (by decide) (Or.inr (List.mem_of_getElem? (i := 5) rfl)) (zin (i := 194) (by decide +kernel) rfl) (zin (i := 75) (by decide +kernel) rfl) (zin (i := 195) (by decide +kernel) rfl) rfl ⟨by decide, by decide, by decide +kernel⟩ ⟨Nat.le_of_ble_eq_true rfl, Nat.le_of_ble_eq_true rfl⟩ ⟨Nat.le_of_ble_eq_true rfl, Nat.le_of_ble_eq_true rfl⟩ rfl rfl (Nat.le_of_ble_eq_true rfl) hl.1 dX5_init_9 (fun ad2 H locs hk2 I => ?_)
  have I : zGI D cI cJ _ _ _ _ 5 i zσz ad ec [.null, .null, .int 0, .int 0, .null, .null, .null, .null] (i + 10) ad2 := I
  refine gputF (k := 0) (t := .object "AnchorChains$Anchors") B hin I zK5 (by decide) (zin (i := 286) (by decide +kernel) rfl) rfl rfl (by decide) rfl rfl (Nat.le_of_ble_eq_true rfl) dX5_init_12 (fun H locs I => ?_)
  have I : zGI D cI cJ _ _ _ _ 5 i zσz ad ec [.ref (ad1 (i + 1)), .null, .int 0, .int 0, .null, .null, .null, .null] (i + 10) ad2 := I
  refine lv_aload_n hx hb dX5_init_15 rfl (lv_at hl 0 rfl) ?_
  refine gnew B I hA zK2 (zin (i := 226) (by decide +kernel) rfl) (zin (i := 227) (by decide +kernel) rfl) (zin (i := 76) (by decide +kernel) rfl) (by decide +kernel) (Nat.le_of_ble_eq_true rfl) (Nat.le_of_ble_eq_true rfl) dX5_init_16 (fun ad3 H hk3 I => ?_)
  refine lv_dup hx hb dX5_init_19 rfl ?_
  refine ginit (as := fun _ => []) (k := 0) B I hA ((zob_5_10 hi)) trivial (c_X2_init l D cI cJ) (fun _ _ _ => ⟨rfl, rfl⟩) (zclos_2 ((zob_5_10 hi))) (by decide) (Or.inr (List.mem_of_getElem? (i := 6) rfl)) (zin (i := 229) (by decide +kernel) rfl) (zin (i := 76) (by decide +kernel) rfl) (zin (i := 230) (by decide +kernel) rfl) rfl ⟨by decide, by decide, by decide +kernel⟩ ⟨Nat.le_of_ble_eq_true rfl, Nat.le_of_ble_eq_true rfl⟩ ⟨Nat.le_of_ble_eq_true rfl, Nat.le_of_ble_eq_true rfl⟩ rfl rfl (Nat.le_of_ble_eq_true rfl) hl.1 dX5_init_20 (fun ad4 H locs hk4 I => ?_)
  have I : zGI D cI cJ _ _ _ _ 5 i zσz ad ec [.ref (ad1 (i + 1)), .null, .int 0, .int 0, .null, .null, .null, .null] (i + 19) ad4 := I
  refine gputF (k := 1) (t := .object "AnchorChains$Chain") B hin I zK5 (by decide) (zin (i := 288) (by decide +kernel) rfl) rfl rfl (by decide) rfl rfl (Nat.le_of_ble_eq_true rfl) dX5_init_23 (fun H locs I => ?_)
  have I : zGI D cI cJ _ _ _ _ 5 i zσz ad ec [.ref (ad1 (i + 1)), .ref (ad3 (i + 10)), .int 0, .int 0, .null, .null, .null, .null] (i + 19) ad4 := I
  refine lv_aload_n hx hb dX5_init_26 rfl (lv_at hl 0 rfl) ?_
  refine lv_iconst (v := (0 : Int32)) hx hb dX5_init_27 (by decide) ?_
  refine gput (k := 2) (t := .int) (v := .int 0) B I zK5 (by decide) (zin (i := 290) (by decide +kernel) rfl) rfl (by decide) (by decide) (by decide) (Nat.le_of_ble_eq_true rfl) dX5_init_28 (fun H locs I => ?_)
  have I : zGI D cI cJ _ _ _ _ 5 i zσz ad ec [.ref (ad1 (i + 1)), .ref (ad3 (i + 10)), .int 0, .int 0, .null, .null, .null, .null] (i + 19) ad4 := I
  refine lv_aload_n hx hb dX5_init_31 rfl (lv_at hl 0 rfl) ?_
  refine lv_iconst (v := (0 : Int32)) hx hb dX5_init_32 (by decide) ?_
  refine gput (k := 3) (t := .int) (v := .int 0) B I zK5 (by decide) (zin (i := 292) (by decide +kernel) rfl) rfl (by decide) (by decide) (by decide) (Nat.le_of_ble_eq_true rfl) dX5_init_33 (fun H locs I => ?_)
  have I : zGI D cI cJ _ _ _ _ 5 i zσz ad ec [.ref (ad1 (i + 1)), .ref (ad3 (i + 10)), .int 0, .int 0, .null, .null, .null, .null] (i + 19) ad4 := I
  refine lv_aload_n hx hb dX5_init_36 rfl (lv_at hl 0 rfl) ?_
  refine gnew B I hA zK3 (zin (i := 255) (by decide +kernel) rfl) (zin (i := 256) (by decide +kernel) rfl) (zin (i := 77) (by decide +kernel) rfl) (by decide +kernel) (Nat.le_of_ble_eq_true rfl) (Nat.le_of_ble_eq_true rfl) dX5_init_37 (fun ad5 H hk5 I => ?_)
  refine lv_dup hx hb dX5_init_40 rfl ?_
  refine ginit (as := fun _ => []) (k := 0) B I hA ((zob_5_19 hi)) trivial (c_X3_init l D cI cJ) (fun _ _ _ => ⟨rfl, rfl⟩) (zclos_3 ((zob_5_19 hi))) (by decide) (Or.inr (List.mem_of_getElem? (i := 7) rfl)) (zin (i := 258) (by decide +kernel) rfl) (zin (i := 77) (by decide +kernel) rfl) (zin (i := 259) (by decide +kernel) rfl) rfl ⟨by decide, by decide, by decide +kernel⟩ ⟨Nat.le_of_ble_eq_true rfl, Nat.le_of_ble_eq_true rfl⟩ ⟨Nat.le_of_ble_eq_true rfl, Nat.le_of_ble_eq_true rfl⟩ rfl rfl (Nat.le_of_ble_eq_true rfl) hl.1 dX5_init_41 (fun ad6 H locs hk6 I => ?_)
  have I : zGI D cI cJ _ _ _ _ 5 i zσz ad ec [.ref (ad1 (i + 1)), .ref (ad3 (i + 10)), .int 0, .int 0, .null, .null, .null, .null] (i + 22) ad6 := I
  refine gputF (k := 4) (t := .object "AnchorChains$Grid") B hin I zK5 (by decide) (zin (i := 294) (by decide +kernel) rfl) rfl rfl (by decide) rfl rfl (Nat.le_of_ble_eq_true rfl) dX5_init_44 (fun H locs I => ?_)
  have I : zGI D cI cJ _ _ _ _ 5 i zσz ad ec [.ref (ad1 (i + 1)), .ref (ad3 (i + 10)), .int 0, .int 0, .ref (ad5 (i + 19)), .null, .null, .null] (i + 22) ad6 := I
  refine lv_aload_n hx hb dX5_init_47 rfl (lv_at hl 0 rfl) ?_
  refine gnew B I hA zK1 (zin (i := 284) (by decide +kernel) rfl) (zin (i := 118) (by decide +kernel) rfl) (zin (i := 71) (by decide +kernel) rfl) (by decide +kernel) (Nat.le_of_ble_eq_true rfl) (Nat.le_of_ble_eq_true rfl) dX5_init_48 (fun ad7 H hk7 I => ?_)
  refine lv_dup hx hb dX5_init_51 rfl ?_
  refine lv_bipush (v := (125 : Int32)) hx hb dX5_init_52 (by decide) ?_
  refine ginit (as := fun _ => [.int (125 : Int32)]) (k := 1) B I hA ((zob_5_22 hi)) (zln_5_22 hi) (c_X1_init l D cI cJ 125 (by decide)) (fun _ _ _ => ⟨rfl, rfl⟩) (zclos_1 ((zob_5_22 hi))) (by decide) (Or.inl (zin (i := 285) (by decide +kernel) rfl)) (zin (i := 120) (by decide +kernel) rfl) (zin (i := 71) (by decide +kernel) rfl) (zin (i := 121) (by decide +kernel) rfl) rfl ⟨by decide, by decide, by decide +kernel⟩ ⟨Nat.le_of_ble_eq_true rfl, Nat.le_of_ble_eq_true rfl⟩ ⟨Nat.le_of_ble_eq_true rfl, Nat.le_of_ble_eq_true rfl⟩ rfl rfl (Nat.le_of_ble_eq_true rfl) hl.1 dX5_init_54 (fun ad8 H locs hk8 I => ?_)
  have I : zGI D cI cJ _ _ _ _ 5 i zσz ad ec [.ref (ad1 (i + 1)), .ref (ad3 (i + 10)), .int 0, .int 0, .ref (ad5 (i + 19)), .null, .null, .null] (i + 24) ad8 := I
  refine gputF (k := 5) (t := .object "AnchorChains$Cells") B hin I zK5 (by decide) (zin (i := 295) (by decide +kernel) rfl) rfl rfl (by decide) rfl rfl (Nat.le_of_ble_eq_true rfl) dX5_init_57 (fun H locs I => ?_)
  have I : zGI D cI cJ _ _ _ _ 5 i zσz ad ec [.ref (ad1 (i + 1)), .ref (ad3 (i + 10)), .int 0, .int 0, .ref (ad5 (i + 19)), .ref (ad7 (i + 22)), .null, .null] (i + 24) ad8 := I
  refine lv_aload_n hx hb dX5_init_60 rfl (lv_at hl 0 rfl) ?_
  refine gnew B I hA zK1 (zin (i := 284) (by decide +kernel) rfl) (zin (i := 118) (by decide +kernel) rfl) (zin (i := 71) (by decide +kernel) rfl) (by decide +kernel) (Nat.le_of_ble_eq_true rfl) (Nat.le_of_ble_eq_true rfl) dX5_init_61 (fun ad9 H hk9 I => ?_)
  refine lv_dup hx hb dX5_init_64 rfl ?_
  refine lv_bipush (v := (24 : Int32)) hx hb dX5_init_65 (by decide) ?_
  refine ginit (as := fun _ => [.int (24 : Int32)]) (k := 1) B I hA ((zob_5_24 hi)) (zln_5_24 hi) (c_X1_init l D cI cJ 24 (by decide)) (fun _ _ _ => ⟨rfl, rfl⟩) (zclos_1 ((zob_5_24 hi))) (by decide) (Or.inl (zin (i := 285) (by decide +kernel) rfl)) (zin (i := 120) (by decide +kernel) rfl) (zin (i := 71) (by decide +kernel) rfl) (zin (i := 121) (by decide +kernel) rfl) rfl ⟨by decide, by decide, by decide +kernel⟩ ⟨Nat.le_of_ble_eq_true rfl, Nat.le_of_ble_eq_true rfl⟩ ⟨Nat.le_of_ble_eq_true rfl, Nat.le_of_ble_eq_true rfl⟩ rfl rfl (Nat.le_of_ble_eq_true rfl) hl.1 dX5_init_67 (fun ad10 H locs hk10 I => ?_)
  have I : zGI D cI cJ _ _ _ _ 5 i zσz ad ec [.ref (ad1 (i + 1)), .ref (ad3 (i + 10)), .int 0, .int 0, .ref (ad5 (i + 19)), .ref (ad7 (i + 22)), .null, .null] (i + 26) ad10 := I
  refine gputF (k := 6) (t := .object "AnchorChains$Cells") B hin I zK5 (by decide) (zin (i := 296) (by decide +kernel) rfl) rfl rfl (by decide) rfl rfl (Nat.le_of_ble_eq_true rfl) dX5_init_70 (fun H locs I => ?_)
  have I : zGI D cI cJ _ _ _ _ 5 i zσz ad ec [.ref (ad1 (i + 1)), .ref (ad3 (i + 10)), .int 0, .int 0, .ref (ad5 (i + 19)), .ref (ad7 (i + 22)), .ref (ad9 (i + 24)), .null] (i + 26) ad10 := I
  refine lv_aload_n hx hb dX5_init_73 rfl (lv_at hl 0 rfl) ?_
  refine gnew B I hA zK1 (zin (i := 284) (by decide +kernel) rfl) (zin (i := 118) (by decide +kernel) rfl) (zin (i := 71) (by decide +kernel) rfl) (by decide +kernel) (Nat.le_of_ble_eq_true rfl) (Nat.le_of_ble_eq_true rfl) dX5_init_74 (fun ad11 H hk11 I => ?_)
  refine lv_dup hx hb dX5_init_77 rfl ?_
  refine lv_bipush (v := (24 : Int32)) hx hb dX5_init_78 (by decide) ?_
  refine ginit (as := fun _ => [.int (24 : Int32)]) (k := 1) B I hA ((zob_5_26 hi)) (zln_5_26 hi) (c_X1_init l D cI cJ 24 (by decide)) (fun _ _ _ => ⟨rfl, rfl⟩) (zclos_1 ((zob_5_26 hi))) (by decide) (Or.inl (zin (i := 285) (by decide +kernel) rfl)) (zin (i := 120) (by decide +kernel) rfl) (zin (i := 71) (by decide +kernel) rfl) (zin (i := 121) (by decide +kernel) rfl) rfl ⟨by decide, by decide, by decide +kernel⟩ ⟨Nat.le_of_ble_eq_true rfl, Nat.le_of_ble_eq_true rfl⟩ ⟨Nat.le_of_ble_eq_true rfl, Nat.le_of_ble_eq_true rfl⟩ rfl rfl (Nat.le_of_ble_eq_true rfl) hl.1 dX5_init_80 (fun ad12 H locs hk12 I => ?_)
  have I : zGI D cI cJ _ _ _ _ 5 i zσz ad ec [.ref (ad1 (i + 1)), .ref (ad3 (i + 10)), .int 0, .int 0, .ref (ad5 (i + 19)), .ref (ad7 (i + 22)), .ref (ad9 (i + 24)), .null] (i + 28) ad12 := I
  refine gputF (k := 7) (t := .object "AnchorChains$Cells") B hin I zK5 (by decide) (zin (i := 297) (by decide +kernel) rfl) rfl rfl (by decide) rfl rfl (Nat.le_of_ble_eq_true rfl) dX5_init_83 (fun H locs I => ?_)
  have I : zGI D cI cJ _ _ _ _ 5 i zσz ad ec [.ref (ad1 (i + 1)), .ref (ad3 (i + 10)), .int 0, .int 0, .ref (ad5 (i + 19)), .ref (ad7 (i + 22)), .ref (ad9 (i + 24)), .ref (ad11 (i + 26))] (i + 28) ad12 := I
  refine gend B hr hlocks I ?_ dX5_init_86
  rw [zce_ob hi (by decide)]
  show _ = (Sum.inr (5, [.ref (ad12 (i + 1)), .ref (ad12 (i + 10)), .int 0, .int 0, .ref (ad12 (i + 19)), .ref (ad12 (i + 22)), .ref (ad12 (i + 24)), .ref (ad12 (i + 26))]) : va_E)
  rw [(((((((((((hk12 (i + 1) (by omega)).trans (hk11 (i + 1) (by omega))).trans (hk10 (i + 1) (by omega))).trans (hk9 (i + 1) (by omega))).trans (hk8 (i + 1) (by omega))).trans (hk7 (i + 1) (by omega))).trans (hk6 (i + 1) (by omega))).trans (hk5 (i + 1) (by omega))).trans (hk4 (i + 1) (by omega))).trans (hk3 (i + 1) (by omega))).trans (hk2 (i + 1) (by omega)))]
  rw [(((((((((hk12 (i + 10) (by omega)).trans (hk11 (i + 10) (by omega))).trans (hk10 (i + 10) (by omega))).trans (hk9 (i + 10) (by omega))).trans (hk8 (i + 10) (by omega))).trans (hk7 (i + 10) (by omega))).trans (hk6 (i + 10) (by omega))).trans (hk5 (i + 10) (by omega))).trans (hk4 (i + 10) (by omega)))]
  rw [(((((((hk12 (i + 19) (by omega)).trans (hk11 (i + 19) (by omega))).trans (hk10 (i + 19) (by omega))).trans (hk9 (i + 19) (by omega))).trans (hk8 (i + 19) (by omega))).trans (hk7 (i + 19) (by omega))).trans (hk6 (i + 19) (by omega)))]
  rw [(((((hk12 (i + 22) (by omega)).trans (hk11 (i + 22) (by omega))).trans (hk10 (i + 22) (by omega))).trans (hk9 (i + 22) (by omega))).trans (hk8 (i + 22) (by omega)))]
  rw [(((hk12 (i + 24) (by omega)).trans (hk11 (i + 24) (by omega))).trans (hk10 (i + 24) (by omega)))]
  rw [(hk12 (i + 26) (by omega))]
set_option maxHeartbeats 4000000 in
set_option maxRecDepth 100000 in
theorem c_X10_init (l : Launch) (D : va_G) (cI cJ : ClassId) : zCn l D cI cJ yX10_init cX10_init 1 4 81 102 4067 10 (fun _ => True) (fun _ => []) zσ0 := by
  refine gopen (by decide) rfl (fun _ _ => Nat.le_of_ble_eq_true rfl) ?_
  intro ad ec i hi hX p e s m below meth c B hr hlocks hin ls hl I
  have hi0 : i = 0 := zone10 hi
  subst hi0
  have B : zMB RX10 cX10_init 1 D cI cJ p m c s (Value.ref (ad 0) :: []).toArray := B
  have hl : lv_has ls 1 [(0, .ref (ad 0))] := hl
  generalize (Value.ref (ad 0) :: []).toArray = args at B ⊢
  have hx := B.1.1
  have hb := B.1.2.1
  have hml := B.1.2.2.1
  have hown := B.1.2.2.2.1
  have hts := B.1.2.2.2.2
  have hA : ∀ q, s.heap.size ≤ q → zAn ad 0 s.heap.size q := fun q h => Or.inr h
  have I := gmu (μ' := zσ0) I (fun j h1 h2 => by omega)
  have I : zGI D cI cJ _ _ _ _ 10 0 zσ0 ad ec [.null, .null, .null, .null, .int 0, .int 0, .null, .null, .null, .null, .null, .int 0] 1 ad := I
  refine lv_aload_n hx hb dX10_init_0 rfl (lv_at hl 0 rfl) ?_
  refine W.objInit hx hb hown (hts _ (zin (i := 93) (by decide +kernel) rfl)) (hts _ (zin (i := 94) (by decide +kernel) rfl)) (hts _ (zin (i := 95) (by decide +kernel) rfl)) rfl (by rw [hml]; exact hl.1) rfl dX10_init_1 (Nat.le_of_ble_eq_true rfl) (Nat.le_of_ble_eq_true rfl) ?_
  refine W.eq (g2 := F0 m 4 ls []) rfl ?_
  refine lv_aload_n hx hb dX10_init_4 rfl (lv_at hl 0 rfl) ?_
  refine gnew B I hA zK7 (zin (i := 96) (by decide +kernel) rfl) (zin (i := 97) (by decide +kernel) rfl) (zin (i := 69) (by decide +kernel) rfl) (by decide +kernel) (Nat.le_of_ble_eq_true rfl) (Nat.le_of_ble_eq_true rfl) dX10_init_5 (fun ad1 H hk1 I => ?_)
  refine lv_dup hx hb dX10_init_8 rfl ?_
  refine ginit (as := fun _ => []) (k := 0) B I hA (zc_1) trivial (c_X7_init l D cI cJ) (fun _ _ _ => ⟨rfl, rfl⟩) (zclos_7 (zc_1)) (by decide) (Or.inl (zin (i := 98) (by decide +kernel) rfl)) (zin (i := 99) (by decide +kernel) rfl) (zin (i := 69) (by decide +kernel) rfl) (zin (i := 100) (by decide +kernel) rfl) rfl ⟨by decide, by decide, by decide +kernel⟩ ⟨Nat.le_of_ble_eq_true rfl, Nat.le_of_ble_eq_true rfl⟩ ⟨Nat.le_of_ble_eq_true rfl, Nat.le_of_ble_eq_true rfl⟩ rfl rfl (Nat.le_of_ble_eq_true rfl) hl.1 dX10_init_9 (fun ad2 H locs hk2 I => ?_)
  have I : zGI D cI cJ _ _ _ _ 10 0 zσ0 ad ec [.null, .null, .null, .null, .int 0, .int 0, .null, .null, .null, .null, .null, .int 0] 8 ad2 := I
  refine gputF (k := 0) (t := .object "AnchorChains$State") B hin I zK10 (by decide) (zin (i := 341) (by decide +kernel) rfl) rfl rfl (by decide) rfl rfl (Nat.le_of_ble_eq_true rfl) dX10_init_12 (fun H locs I => ?_)
  have I : zGI D cI cJ _ _ _ _ 10 0 zσ0 ad ec [.ref (ad1 1), .null, .null, .null, .int 0, .int 0, .null, .null, .null, .null, .null, .int 0] 8 ad2 := I
  refine lv_aload_n hx hb dX10_init_15 rfl (lv_at hl 0 rfl) ?_
  refine gnew B I hA zK7 (zin (i := 96) (by decide +kernel) rfl) (zin (i := 97) (by decide +kernel) rfl) (zin (i := 69) (by decide +kernel) rfl) (by decide +kernel) (Nat.le_of_ble_eq_true rfl) (Nat.le_of_ble_eq_true rfl) dX10_init_16 (fun ad3 H hk3 I => ?_)
  refine lv_dup hx hb dX10_init_19 rfl ?_
  refine ginit (as := fun _ => []) (k := 0) B I hA (zc_8) trivial (c_X7_init l D cI cJ) (fun _ _ _ => ⟨rfl, rfl⟩) (zclos_7 (zc_8)) (by decide) (Or.inl (zin (i := 98) (by decide +kernel) rfl)) (zin (i := 99) (by decide +kernel) rfl) (zin (i := 69) (by decide +kernel) rfl) (zin (i := 100) (by decide +kernel) rfl) rfl ⟨by decide, by decide, by decide +kernel⟩ ⟨Nat.le_of_ble_eq_true rfl, Nat.le_of_ble_eq_true rfl⟩ ⟨Nat.le_of_ble_eq_true rfl, Nat.le_of_ble_eq_true rfl⟩ rfl rfl (Nat.le_of_ble_eq_true rfl) hl.1 dX10_init_20 (fun ad4 H locs hk4 I => ?_)
  have I : zGI D cI cJ _ _ _ _ 10 0 zσ0 ad ec [.ref (ad1 1), .null, .null, .null, .int 0, .int 0, .null, .null, .null, .null, .null, .int 0] 15 ad4 := I
  refine gputF (k := 1) (t := .object "AnchorChains$State") B hin I zK10 (by decide) (zin (i := 342) (by decide +kernel) rfl) rfl rfl (by decide) rfl rfl (Nat.le_of_ble_eq_true rfl) dX10_init_23 (fun H locs I => ?_)
  have I : zGI D cI cJ _ _ _ _ 10 0 zσ0 ad ec [.ref (ad1 1), .ref (ad3 8), .null, .null, .int 0, .int 0, .null, .null, .null, .null, .null, .int 0] 15 ad4 := I
  refine lv_aload_n hx hb dX10_init_26 rfl (lv_at hl 0 rfl) ?_
  refine gnew B I hA zK7 (zin (i := 96) (by decide +kernel) rfl) (zin (i := 97) (by decide +kernel) rfl) (zin (i := 69) (by decide +kernel) rfl) (by decide +kernel) (Nat.le_of_ble_eq_true rfl) (Nat.le_of_ble_eq_true rfl) dX10_init_27 (fun ad5 H hk5 I => ?_)
  refine lv_dup hx hb dX10_init_30 rfl ?_
  refine ginit (as := fun _ => []) (k := 0) B I hA (zc_15) trivial (c_X7_init l D cI cJ) (fun _ _ _ => ⟨rfl, rfl⟩) (zclos_7 (zc_15)) (by decide) (Or.inl (zin (i := 98) (by decide +kernel) rfl)) (zin (i := 99) (by decide +kernel) rfl) (zin (i := 69) (by decide +kernel) rfl) (zin (i := 100) (by decide +kernel) rfl) rfl ⟨by decide, by decide, by decide +kernel⟩ ⟨Nat.le_of_ble_eq_true rfl, Nat.le_of_ble_eq_true rfl⟩ ⟨Nat.le_of_ble_eq_true rfl, Nat.le_of_ble_eq_true rfl⟩ rfl rfl (Nat.le_of_ble_eq_true rfl) hl.1 dX10_init_31 (fun ad6 H locs hk6 I => ?_)
  have I : zGI D cI cJ _ _ _ _ 10 0 zσ0 ad ec [.ref (ad1 1), .ref (ad3 8), .null, .null, .int 0, .int 0, .null, .null, .null, .null, .null, .int 0] 22 ad6 := I
  refine gputF (k := 2) (t := .object "AnchorChains$State") B hin I zK10 (by decide) (zin (i := 343) (by decide +kernel) rfl) rfl rfl (by decide) rfl rfl (Nat.le_of_ble_eq_true rfl) dX10_init_34 (fun H locs I => ?_)
  have I : zGI D cI cJ _ _ _ _ 10 0 zσ0 ad ec [.ref (ad1 1), .ref (ad3 8), .ref (ad5 15), .null, .int 0, .int 0, .null, .null, .null, .null, .null, .int 0] 22 ad6 := I
  refine lv_aload_n hx hb dX10_init_37 rfl (lv_at hl 0 rfl) ?_
  refine gnew B I hA zK7 (zin (i := 96) (by decide +kernel) rfl) (zin (i := 97) (by decide +kernel) rfl) (zin (i := 69) (by decide +kernel) rfl) (by decide +kernel) (Nat.le_of_ble_eq_true rfl) (Nat.le_of_ble_eq_true rfl) dX10_init_38 (fun ad7 H hk7 I => ?_)
  refine lv_dup hx hb dX10_init_41 rfl ?_
  refine ginit (as := fun _ => []) (k := 0) B I hA (zc_22) trivial (c_X7_init l D cI cJ) (fun _ _ _ => ⟨rfl, rfl⟩) (zclos_7 (zc_22)) (by decide) (Or.inl (zin (i := 98) (by decide +kernel) rfl)) (zin (i := 99) (by decide +kernel) rfl) (zin (i := 69) (by decide +kernel) rfl) (zin (i := 100) (by decide +kernel) rfl) rfl ⟨by decide, by decide, by decide +kernel⟩ ⟨Nat.le_of_ble_eq_true rfl, Nat.le_of_ble_eq_true rfl⟩ ⟨Nat.le_of_ble_eq_true rfl, Nat.le_of_ble_eq_true rfl⟩ rfl rfl (Nat.le_of_ble_eq_true rfl) hl.1 dX10_init_42 (fun ad8 H locs hk8 I => ?_)
  have I : zGI D cI cJ _ _ _ _ 10 0 zσ0 ad ec [.ref (ad1 1), .ref (ad3 8), .ref (ad5 15), .null, .int 0, .int 0, .null, .null, .null, .null, .null, .int 0] 29 ad8 := I
  refine gputF (k := 3) (t := .object "AnchorChains$State") B hin I zK10 (by decide) (zin (i := 344) (by decide +kernel) rfl) rfl rfl (by decide) rfl rfl (Nat.le_of_ble_eq_true rfl) dX10_init_45 (fun H locs I => ?_)
  have I : zGI D cI cJ _ _ _ _ 10 0 zσ0 ad ec [.ref (ad1 1), .ref (ad3 8), .ref (ad5 15), .ref (ad7 22), .int 0, .int 0, .null, .null, .null, .null, .null, .int 0] 29 ad8 := I
  refine lv_aload_n hx hb dX10_init_48 rfl (lv_at hl 0 rfl) ?_
  refine lv_iconst (v := (0 : Int32)) hx hb dX10_init_49 (by decide) ?_
  refine gput (k := 4) (t := .boolean) (v := .int 0) B I zK10 (by decide) (zin (i := 345) (by decide +kernel) rfl) rfl (by decide) (by decide) (by decide) (Nat.le_of_ble_eq_true rfl) dX10_init_50 (fun H locs I => ?_)
  have I : zGI D cI cJ _ _ _ _ 10 0 zσ0 ad ec [.ref (ad1 1), .ref (ad3 8), .ref (ad5 15), .ref (ad7 22), .int 0, .int 0, .null, .null, .null, .null, .null, .int 0] 29 ad8 := I
  refine lv_aload_n hx hb dX10_init_53 rfl (lv_at hl 0 rfl) ?_
  refine lv_iconst (v := (0 : Int32)) hx hb dX10_init_54 (by decide) ?_
  refine gput (k := 5) (t := .boolean) (v := .int 0) B I zK10 (by decide) (zin (i := 346) (by decide +kernel) rfl) rfl (by decide) (by decide) (by decide) (Nat.le_of_ble_eq_true rfl) dX10_init_55 (fun H locs I => ?_)
  have I : zGI D cI cJ _ _ _ _ 10 0 zσ0 ad ec [.ref (ad1 1), .ref (ad3 8), .ref (ad5 15), .ref (ad7 22), .int 0, .int 0, .null, .null, .null, .null, .null, .int 0] 29 ad8 := I
  refine lv_aload_n hx hb dX10_init_58 rfl (lv_at hl 0 rfl) ?_
  refine gnew B I hA zK4 (zin (i := 155) (by decide +kernel) rfl) (zin (i := 156) (by decide +kernel) rfl) (zin (i := 72) (by decide +kernel) rfl) (by decide +kernel) (Nat.le_of_ble_eq_true rfl) (Nat.le_of_ble_eq_true rfl) dX10_init_59 (fun ad9 H hk9 I => ?_)
  refine lv_dup hx hb dX10_init_62 rfl ?_
  refine ginit (as := fun _ => []) (k := 0) B I hA (zc_29) trivial (c_X4_init l D cI cJ) (fun j h1 h2 => ⟨(zσ0_z j (zinq 29 32 (by decide) j h1 h2)).symm, rfl⟩) (zclos_4 (zc_29)) (by decide) (Or.inr (List.mem_of_getElem? (i := 1) rfl)) (zin (i := 158) (by decide +kernel) rfl) (zin (i := 72) (by decide +kernel) rfl) (zin (i := 159) (by decide +kernel) rfl) rfl ⟨by decide, by decide, by decide +kernel⟩ ⟨Nat.le_of_ble_eq_true rfl, Nat.le_of_ble_eq_true rfl⟩ ⟨Nat.le_of_ble_eq_true rfl, Nat.le_of_ble_eq_true rfl⟩ rfl rfl (Nat.le_of_ble_eq_true rfl) hl.1 dX10_init_63 (fun ad10 H locs hk10 I => ?_)
  have I : zGI D cI cJ _ _ _ _ 10 0 zσ0 ad ec [.ref (ad1 1), .ref (ad3 8), .ref (ad5 15), .ref (ad7 22), .int 0, .int 0, .null, .null, .null, .null, .null, .int 0] 32 ad10 := I
  refine gputF (k := 6) (t := .object "AnchorChains$History") B hin I zK10 (by decide) (zin (i := 347) (by decide +kernel) rfl) rfl rfl (by decide) rfl rfl (Nat.le_of_ble_eq_true rfl) dX10_init_66 (fun H locs I => ?_)
  have I : zGI D cI cJ _ _ _ _ 10 0 zσ0 ad ec [.ref (ad1 1), .ref (ad3 8), .ref (ad5 15), .ref (ad7 22), .int 0, .int 0, .ref (ad9 29), .null, .null, .null, .null, .int 0] 32 ad10 := I
  refine lv_aload_n hx hb dX10_init_69 rfl (lv_at hl 0 rfl) ?_
  refine gnew B I hA zK8 (zin (i := 170) (by decide +kernel) rfl) (zin (i := 171) (by decide +kernel) rfl) (zin (i := 73) (by decide +kernel) rfl) (by decide +kernel) (Nat.le_of_ble_eq_true rfl) (Nat.le_of_ble_eq_true rfl) dX10_init_70 (fun ad11 H hk11 I => ?_)
  refine lv_dup hx hb dX10_init_73 rfl ?_
  refine ginit (as := fun _ => []) (k := 0) B I hA (zc_32) trivial (c_X8_init l D cI cJ) (fun j h1 h2 => ⟨(zσ0_z j (zinq 32 35 (by decide) j h1 h2)).symm, rfl⟩) (zclos_8 (zc_32)) (by decide) (Or.inr (List.mem_of_getElem? (i := 2) rfl)) (zin (i := 173) (by decide +kernel) rfl) (zin (i := 73) (by decide +kernel) rfl) (zin (i := 174) (by decide +kernel) rfl) rfl ⟨by decide, by decide, by decide +kernel⟩ ⟨Nat.le_of_ble_eq_true rfl, Nat.le_of_ble_eq_true rfl⟩ ⟨Nat.le_of_ble_eq_true rfl, Nat.le_of_ble_eq_true rfl⟩ rfl rfl (Nat.le_of_ble_eq_true rfl) hl.1 dX10_init_74 (fun ad12 H locs hk12 I => ?_)
  have I : zGI D cI cJ _ _ _ _ 10 0 zσ0 ad ec [.ref (ad1 1), .ref (ad3 8), .ref (ad5 15), .ref (ad7 22), .int 0, .int 0, .ref (ad9 29), .null, .null, .null, .null, .int 0] 35 ad12 := I
  refine gputF (k := 7) (t := .object "AnchorChains$Text") B hin I zK10 (by decide) (zin (i := 348) (by decide +kernel) rfl) rfl rfl (by decide) rfl rfl (Nat.le_of_ble_eq_true rfl) dX10_init_77 (fun H locs I => ?_)
  have I : zGI D cI cJ _ _ _ _ 10 0 zσ0 ad ec [.ref (ad1 1), .ref (ad3 8), .ref (ad5 15), .ref (ad7 22), .int 0, .int 0, .ref (ad9 29), .ref (ad11 32), .null, .null, .null, .int 0] 35 ad12 := I
  refine lv_aload_n hx hb dX10_init_80 rfl (lv_at hl 0 rfl) ?_
  refine gnew B I hA zK5 (zin (i := 185) (by decide +kernel) rfl) (zin (i := 186) (by decide +kernel) rfl) (zin (i := 74) (by decide +kernel) rfl) (by decide +kernel) (Nat.le_of_ble_eq_true rfl) (Nat.le_of_ble_eq_true rfl) dX10_init_81 (fun ad13 H hk13 I => ?_)
  refine lv_dup hx hb dX10_init_84 rfl ?_
  refine ginit (as := fun _ => []) (k := 0) B I hA (zc_35) trivial (c_X5_init l D cI cJ) (fun j h1 h2 => ⟨(zσ0_z j (zinq 35 63 (by decide) j h1 h2)).symm, rfl⟩) (zclos_5 (zc_35)) (by decide) (Or.inr (List.mem_of_getElem? (i := 3) rfl)) (zin (i := 188) (by decide +kernel) rfl) (zin (i := 74) (by decide +kernel) rfl) (zin (i := 189) (by decide +kernel) rfl) rfl ⟨by decide, by decide, by decide +kernel⟩ ⟨Nat.le_of_ble_eq_true rfl, Nat.le_of_ble_eq_true rfl⟩ ⟨Nat.le_of_ble_eq_true rfl, Nat.le_of_ble_eq_true rfl⟩ rfl rfl (Nat.le_of_ble_eq_true rfl) hl.1 dX10_init_85 (fun ad14 H locs hk14 I => ?_)
  have I : zGI D cI cJ _ _ _ _ 10 0 zσ0 ad ec [.ref (ad1 1), .ref (ad3 8), .ref (ad5 15), .ref (ad7 22), .int 0, .int 0, .ref (ad9 29), .ref (ad11 32), .null, .null, .null, .int 0] 63 ad14 := I
  refine gputF (k := 8) (t := .object "AnchorChains$Lineup") B hin I zK10 (by decide) (zin (i := 349) (by decide +kernel) rfl) rfl rfl (by decide) rfl rfl (Nat.le_of_ble_eq_true rfl) dX10_init_88 (fun H locs I => ?_)
  have I : zGI D cI cJ _ _ _ _ 10 0 zσ0 ad ec [.ref (ad1 1), .ref (ad3 8), .ref (ad5 15), .ref (ad7 22), .int 0, .int 0, .ref (ad9 29), .ref (ad11 32), .ref (ad13 35), .null, .null, .int 0] 63 ad14 := I
  refine lv_aload_n hx hb dX10_init_91 rfl (lv_at hl 0 rfl) ?_
  refine gnew B I hA zK5 (zin (i := 185) (by decide +kernel) rfl) (zin (i := 186) (by decide +kernel) rfl) (zin (i := 74) (by decide +kernel) rfl) (by decide +kernel) (Nat.le_of_ble_eq_true rfl) (Nat.le_of_ble_eq_true rfl) dX10_init_92 (fun ad15 H hk15 I => ?_)
  refine lv_dup hx hb dX10_init_95 rfl ?_
  refine ginit (as := fun _ => []) (k := 0) B I hA (zc_63) trivial (c_X5_init l D cI cJ) (fun j h1 h2 => ⟨(zσ0_z j (zinq 63 91 (by decide) j h1 h2)).symm, rfl⟩) (zclos_5 (zc_63)) (by decide) (Or.inr (List.mem_of_getElem? (i := 3) rfl)) (zin (i := 188) (by decide +kernel) rfl) (zin (i := 74) (by decide +kernel) rfl) (zin (i := 189) (by decide +kernel) rfl) rfl ⟨by decide, by decide, by decide +kernel⟩ ⟨Nat.le_of_ble_eq_true rfl, Nat.le_of_ble_eq_true rfl⟩ ⟨Nat.le_of_ble_eq_true rfl, Nat.le_of_ble_eq_true rfl⟩ rfl rfl (Nat.le_of_ble_eq_true rfl) hl.1 dX10_init_96 (fun ad16 H locs hk16 I => ?_)
  have I : zGI D cI cJ _ _ _ _ 10 0 zσ0 ad ec [.ref (ad1 1), .ref (ad3 8), .ref (ad5 15), .ref (ad7 22), .int 0, .int 0, .ref (ad9 29), .ref (ad11 32), .ref (ad13 35), .null, .null, .int 0] 91 ad16 := I
  refine gputF (k := 9) (t := .object "AnchorChains$Lineup") B hin I zK10 (by decide) (zin (i := 350) (by decide +kernel) rfl) rfl rfl (by decide) rfl rfl (Nat.le_of_ble_eq_true rfl) dX10_init_99 (fun H locs I => ?_)
  have I : zGI D cI cJ _ _ _ _ 10 0 zσ0 ad ec [.ref (ad1 1), .ref (ad3 8), .ref (ad5 15), .ref (ad7 22), .int 0, .int 0, .ref (ad9 29), .ref (ad11 32), .ref (ad13 35), .ref (ad15 63), .null, .int 0] 91 ad16 := I
  refine lv_aload_n hx hb dX10_init_102 rfl (lv_at hl 0 rfl) ?_
  refine gnew B I hA zK9 (zin (i := 315) (by decide +kernel) rfl) (zin (i := 316) (by decide +kernel) rfl) (zin (i := 78) (by decide +kernel) rfl) (by decide +kernel) (Nat.le_of_ble_eq_true rfl) (Nat.le_of_ble_eq_true rfl) dX10_init_103 (fun ad17 H hk17 I => ?_)
  refine lv_dup hx hb dX10_init_106 rfl ?_
  refine ginit (as := fun _ => []) (k := 0) B I hA (zc_91) trivial (c_X9_init l D cI cJ) (fun j h1 h2 => ⟨(zσ0_z j (zinq 91 103 (by decide) j h1 h2)).symm, rfl⟩) (zclos_9 (zc_91)) (by decide) (Or.inr (List.mem_of_getElem? (i := 4) rfl)) (zin (i := 318) (by decide +kernel) rfl) (zin (i := 78) (by decide +kernel) rfl) (zin (i := 319) (by decide +kernel) rfl) rfl ⟨by decide, by decide, by decide +kernel⟩ ⟨Nat.le_of_ble_eq_true rfl, Nat.le_of_ble_eq_true rfl⟩ ⟨Nat.le_of_ble_eq_true rfl, Nat.le_of_ble_eq_true rfl⟩ rfl rfl (Nat.le_of_ble_eq_true rfl) hl.1 dX10_init_107 (fun ad18 H locs hk18 I => ?_)
  have I : zGI D cI cJ _ _ _ _ 10 0 zσ0 ad ec [.ref (ad1 1), .ref (ad3 8), .ref (ad5 15), .ref (ad7 22), .int 0, .int 0, .ref (ad9 29), .ref (ad11 32), .ref (ad13 35), .ref (ad15 63), .null, .int 0] 103 ad18 := I
  refine gputF (k := 10) (t := .object "AnchorChains$Turnings") B hin I zK10 (by decide) (zin (i := 351) (by decide +kernel) rfl) rfl rfl (by decide) rfl rfl (Nat.le_of_ble_eq_true rfl) dX10_init_110 (fun H locs I => ?_)
  have I : zGI D cI cJ _ _ _ _ 10 0 zσ0 ad ec [.ref (ad1 1), .ref (ad3 8), .ref (ad5 15), .ref (ad7 22), .int 0, .int 0, .ref (ad9 29), .ref (ad11 32), .ref (ad13 35), .ref (ad15 63), .ref (ad17 91), .int 0] 103 ad18 := I
  refine lv_aload_n hx hb dX10_init_113 rfl (lv_at hl 0 rfl) ?_
  refine lv_iconst (v := (1 : Int32)) hx hb dX10_init_114 (by decide) ?_
  refine gput (k := 11) (t := .boolean) (v := .int 1) B I zK10 (by decide) (zin (i := 352) (by decide +kernel) rfl) rfl (by decide) (by decide) (by decide) (Nat.le_of_ble_eq_true rfl) dX10_init_115 (fun H locs I => ?_)
  have I : zGI D cI cJ _ _ _ _ 10 0 zσ0 ad ec [.ref (ad1 1), .ref (ad3 8), .ref (ad5 15), .ref (ad7 22), .int 0, .int 0, .ref (ad9 29), .ref (ad11 32), .ref (ad13 35), .ref (ad15 63), .ref (ad17 91), .int 1] 103 ad18 := I
  refine gend B hr hlocks I ?_ dX10_init_118
  rw [zce_ob hi (by decide)]
  show _ = (Sum.inr (10, [.ref (ad18 1), .ref (ad18 8), .ref (ad18 15), .ref (ad18 22), .int 0, .int 0, .ref (ad18 29), .ref (ad18 32), .ref (ad18 35), .ref (ad18 63), .ref (ad18 91), .int 1]) : va_E)
  rw [(((((((((((((((((hk18 1 (by omega)).trans (hk17 1 (by omega))).trans (hk16 1 (by omega))).trans (hk15 1 (by omega))).trans (hk14 1 (by omega))).trans (hk13 1 (by omega))).trans (hk12 1 (by omega))).trans (hk11 1 (by omega))).trans (hk10 1 (by omega))).trans (hk9 1 (by omega))).trans (hk8 1 (by omega))).trans (hk7 1 (by omega))).trans (hk6 1 (by omega))).trans (hk5 1 (by omega))).trans (hk4 1 (by omega))).trans (hk3 1 (by omega))).trans (hk2 1 (by omega)))]
  rw [(((((((((((((((hk18 8 (by omega)).trans (hk17 8 (by omega))).trans (hk16 8 (by omega))).trans (hk15 8 (by omega))).trans (hk14 8 (by omega))).trans (hk13 8 (by omega))).trans (hk12 8 (by omega))).trans (hk11 8 (by omega))).trans (hk10 8 (by omega))).trans (hk9 8 (by omega))).trans (hk8 8 (by omega))).trans (hk7 8 (by omega))).trans (hk6 8 (by omega))).trans (hk5 8 (by omega))).trans (hk4 8 (by omega)))]
  rw [(((((((((((((hk18 15 (by omega)).trans (hk17 15 (by omega))).trans (hk16 15 (by omega))).trans (hk15 15 (by omega))).trans (hk14 15 (by omega))).trans (hk13 15 (by omega))).trans (hk12 15 (by omega))).trans (hk11 15 (by omega))).trans (hk10 15 (by omega))).trans (hk9 15 (by omega))).trans (hk8 15 (by omega))).trans (hk7 15 (by omega))).trans (hk6 15 (by omega)))]
  rw [(((((((((((hk18 22 (by omega)).trans (hk17 22 (by omega))).trans (hk16 22 (by omega))).trans (hk15 22 (by omega))).trans (hk14 22 (by omega))).trans (hk13 22 (by omega))).trans (hk12 22 (by omega))).trans (hk11 22 (by omega))).trans (hk10 22 (by omega))).trans (hk9 22 (by omega))).trans (hk8 22 (by omega)))]
  rw [(((((((((hk18 29 (by omega)).trans (hk17 29 (by omega))).trans (hk16 29 (by omega))).trans (hk15 29 (by omega))).trans (hk14 29 (by omega))).trans (hk13 29 (by omega))).trans (hk12 29 (by omega))).trans (hk11 29 (by omega))).trans (hk10 29 (by omega)))]
  rw [(((((((hk18 32 (by omega)).trans (hk17 32 (by omega))).trans (hk16 32 (by omega))).trans (hk15 32 (by omega))).trans (hk14 32 (by omega))).trans (hk13 32 (by omega))).trans (hk12 32 (by omega)))]
  rw [(((((hk18 35 (by omega)).trans (hk17 35 (by omega))).trans (hk16 35 (by omega))).trans (hk15 35 (by omega))).trans (hk14 35 (by omega)))]
  rw [(((hk18 63 (by omega)).trans (hk17 63 (by omega))).trans (hk16 63 (by omega)))]
  rw [(hk18 91 (by omega))]
set_option maxHeartbeats 4000000 in
set_option maxRecDepth 100000 in
theorem c_X11_init (l : Launch) (D : va_G) (cI cJ : ClassId) : zCn l D cI cJ yX11_init cX11_init 1 1 20 20 1580 11 (fun _ => True) (fun _ => []) zσ0 := by
  refine gopen (by decide) rfl (fun _ _ => Nat.le_of_ble_eq_true rfl) ?_
  intro ad ec i hi hX p e s m below meth c B hr hlocks hin ls hl I
  have hi0 : i = 103 := zone11 hi
  subst hi0
  have B : zMB RX11 cX11_init 1 D cI cJ p m c s (Value.ref (ad 103) :: []).toArray := B
  have hl : lv_has ls 1 [(0, .ref (ad 103))] := hl
  generalize (Value.ref (ad 103) :: []).toArray = args at B ⊢
  have hx := B.1.1
  have hb := B.1.2.1
  have hml := B.1.2.2.1
  have hown := B.1.2.2.2.1
  have hts := B.1.2.2.2.2
  have hA : ∀ q, s.heap.size ≤ q → zAn ad 103 s.heap.size q := fun q h => Or.inr h
  have I : zGI D cI cJ _ _ _ _ 11 103 zσz ad ec [.null, .int 0, .null, .null, .null, .int 0, .null, .int 0, .null, .null, .int 0, .null, .null, .int 0, .null, .null, .null, .null, .int 0, .null, .null, .null, .int 0, .null, .null, .null, .null, .int 0, .int 0, .long 0] 104 ad := I
  refine lv_aload_n hx hb dX11_init_0 rfl (lv_at hl 0 rfl) ?_
  refine W.objInit hx hb hown (hts _ (zin (i := 1062) (by decide +kernel) rfl)) (hts _ (zin (i := 94) (by decide +kernel) rfl)) (hts _ (zin (i := 95) (by decide +kernel) rfl)) rfl (by rw [hml]; exact hl.1) rfl dX11_init_1 (Nat.le_of_ble_eq_true rfl) (Nat.le_of_ble_eq_true rfl) ?_
  refine W.eq (g2 := F0 m 4 ls []) rfl ?_
  refine lv_aload_n hx hb dX11_init_4 rfl (lv_at hl 0 rfl) ?_
  refine lv_bipush (v := (54 : Int32)) hx hb dX11_init_5 (by decide) ?_
  refine gnewa (ln := 54) B I hA (zc_104) rfl (by decide) rfl (zin (i := 116) (by decide +kernel) rfl) (Nat.le_of_ble_eq_true rfl) (Nat.le_of_ble_eq_true rfl) dX11_init_7 (fun ad1 H hk1 I => ?_)
  have I : zGI D cI cJ _ _ _ _ 11 103 zσz ad ec [.null, .int 0, .null, .null, .null, .int 0, .null, .int 0, .null, .null, .int 0, .null, .null, .int 0, .null, .null, .null, .null, .int 0, .null, .null, .null, .int 0, .null, .null, .null, .null, .int 0, .int 0, .long 0] 105 ad1 := I
  refine gputF (k := 0) (t := .array .int) B hin I zK11 (by decide) (zin (i := 1063) (by decide +kernel) rfl) rfl rfl (by decide) rfl rfl (Nat.le_of_ble_eq_true rfl) dX11_init_9 (fun H locs I => ?_)
  have I : zGI D cI cJ _ _ _ _ 11 103 zσz ad ec [.ref (ad1 104), .int 0, .null, .null, .null, .int 0, .null, .int 0, .null, .null, .int 0, .null, .null, .int 0, .null, .null, .null, .null, .int 0, .null, .null, .null, .int 0, .null, .null, .null, .null, .int 0, .int 0, .long 0] 105 ad1 := I
  refine lv_aload_n hx hb dX11_init_12 rfl (lv_at hl 0 rfl) ?_
  refine lv_sipush (v := (324 : Int32)) hx hb dX11_init_13 (by decide) ?_
  refine gnewa (ln := 324) B I hA (zc_105) rfl (by decide) rfl (zin (i := 116) (by decide +kernel) rfl) (Nat.le_of_ble_eq_true rfl) (Nat.le_of_ble_eq_true rfl) dX11_init_16 (fun ad2 H hk2 I => ?_)
  have I : zGI D cI cJ _ _ _ _ 11 103 zσz ad ec [.ref (ad1 104), .int 0, .null, .null, .null, .int 0, .null, .int 0, .null, .null, .int 0, .null, .null, .int 0, .null, .null, .null, .null, .int 0, .null, .null, .null, .int 0, .null, .null, .null, .null, .int 0, .int 0, .long 0] 106 ad2 := I
  refine gputF (k := 2) (t := .array .int) B hin I zK11 (by decide) (zin (i := 1065) (by decide +kernel) rfl) rfl rfl (by decide) rfl rfl (Nat.le_of_ble_eq_true rfl) dX11_init_18 (fun H locs I => ?_)
  have I : zGI D cI cJ _ _ _ _ 11 103 zσz ad ec [.ref (ad1 104), .int 0, .ref (ad2 105), .null, .null, .int 0, .null, .int 0, .null, .null, .int 0, .null, .null, .int 0, .null, .null, .null, .null, .int 0, .null, .null, .null, .int 0, .null, .null, .null, .null, .int 0, .int 0, .long 0] 106 ad2 := I
  refine lv_aload_n hx hb dX11_init_21 rfl (lv_at hl 0 rfl) ?_
  refine lv_bipush (v := (100 : Int32)) hx hb dX11_init_22 (by decide) ?_
  refine gnewa (ln := 100) B I hA (zc_106) rfl (by decide) rfl (zin (i := 116) (by decide +kernel) rfl) (Nat.le_of_ble_eq_true rfl) (Nat.le_of_ble_eq_true rfl) dX11_init_24 (fun ad3 H hk3 I => ?_)
  have I : zGI D cI cJ _ _ _ _ 11 103 zσz ad ec [.ref (ad1 104), .int 0, .ref (ad2 105), .null, .null, .int 0, .null, .int 0, .null, .null, .int 0, .null, .null, .int 0, .null, .null, .null, .null, .int 0, .null, .null, .null, .int 0, .null, .null, .null, .null, .int 0, .int 0, .long 0] 107 ad3 := I
  refine gputF (k := 3) (t := .array .int) B hin I zK11 (by decide) (zin (i := 1066) (by decide +kernel) rfl) rfl rfl (by decide) rfl rfl (Nat.le_of_ble_eq_true rfl) dX11_init_26 (fun H locs I => ?_)
  have I : zGI D cI cJ _ _ _ _ 11 103 zσz ad ec [.ref (ad1 104), .int 0, .ref (ad2 105), .ref (ad3 106), .null, .int 0, .null, .int 0, .null, .null, .int 0, .null, .null, .int 0, .null, .null, .null, .null, .int 0, .null, .null, .null, .int 0, .null, .null, .null, .null, .int 0, .int 0, .long 0] 107 ad3 := I
  refine lv_aload_n hx hb dX11_init_29 rfl (lv_at hl 0 rfl) ?_
  refine lv_iconst (v := (2 : Int32)) hx hb dX11_init_30 (by decide) ?_
  refine gnewa (ln := 2) B I hA (zc_107) rfl (by decide) rfl (zin (i := 116) (by decide +kernel) rfl) (Nat.le_of_ble_eq_true rfl) (Nat.le_of_ble_eq_true rfl) dX11_init_31 (fun ad4 H hk4 I => ?_)
  have I : zGI D cI cJ _ _ _ _ 11 103 zσz ad ec [.ref (ad1 104), .int 0, .ref (ad2 105), .ref (ad3 106), .null, .int 0, .null, .int 0, .null, .null, .int 0, .null, .null, .int 0, .null, .null, .null, .null, .int 0, .null, .null, .null, .int 0, .null, .null, .null, .null, .int 0, .int 0, .long 0] 108 ad4 := I
  refine gputF (k := 4) (t := .array .int) B hin I zK11 (by decide) (zin (i := 1067) (by decide +kernel) rfl) rfl rfl (by decide) rfl rfl (Nat.le_of_ble_eq_true rfl) dX11_init_33 (fun H locs I => ?_)
  have I : zGI D cI cJ _ _ _ _ 11 103 zσz ad ec [.ref (ad1 104), .int 0, .ref (ad2 105), .ref (ad3 106), .ref (ad4 107), .int 0, .null, .int 0, .null, .null, .int 0, .null, .null, .int 0, .null, .null, .null, .null, .int 0, .null, .null, .null, .int 0, .null, .null, .null, .null, .int 0, .int 0, .long 0] 108 ad4 := I
  refine lv_aload_n hx hb dX11_init_36 rfl (lv_at hl 0 rfl) ?_
  refine lv_bipush (v := (60 : Int32)) hx hb dX11_init_37 (by decide) ?_
  refine gnewa (ln := 60) B I hA (zc_108) rfl (by decide) rfl (zin (i := 116) (by decide +kernel) rfl) (Nat.le_of_ble_eq_true rfl) (Nat.le_of_ble_eq_true rfl) dX11_init_39 (fun ad5 H hk5 I => ?_)
  have I : zGI D cI cJ _ _ _ _ 11 103 zσz ad ec [.ref (ad1 104), .int 0, .ref (ad2 105), .ref (ad3 106), .ref (ad4 107), .int 0, .null, .int 0, .null, .null, .int 0, .null, .null, .int 0, .null, .null, .null, .null, .int 0, .null, .null, .null, .int 0, .null, .null, .null, .null, .int 0, .int 0, .long 0] 109 ad5 := I
  refine gputF (k := 6) (t := .array .int) B hin I zK11 (by decide) (zin (i := 1069) (by decide +kernel) rfl) rfl rfl (by decide) rfl rfl (Nat.le_of_ble_eq_true rfl) dX11_init_41 (fun H locs I => ?_)
  have I : zGI D cI cJ _ _ _ _ 11 103 zσz ad ec [.ref (ad1 104), .int 0, .ref (ad2 105), .ref (ad3 106), .ref (ad4 107), .int 0, .ref (ad5 108), .int 0, .null, .null, .int 0, .null, .null, .int 0, .null, .null, .null, .null, .int 0, .null, .null, .null, .int 0, .null, .null, .null, .null, .int 0, .int 0, .long 0] 109 ad5 := I
  refine lv_aload_n hx hb dX11_init_44 rfl (lv_at hl 0 rfl) ?_
  refine lv_bipush (v := (24 : Int32)) hx hb dX11_init_45 (by decide) ?_
  refine gnewa (ln := 24) B I hA (zc_109) rfl (by decide) rfl (zin (i := 116) (by decide +kernel) rfl) (Nat.le_of_ble_eq_true rfl) (Nat.le_of_ble_eq_true rfl) dX11_init_47 (fun ad6 H hk6 I => ?_)
  have I : zGI D cI cJ _ _ _ _ 11 103 zσz ad ec [.ref (ad1 104), .int 0, .ref (ad2 105), .ref (ad3 106), .ref (ad4 107), .int 0, .ref (ad5 108), .int 0, .null, .null, .int 0, .null, .null, .int 0, .null, .null, .null, .null, .int 0, .null, .null, .null, .int 0, .null, .null, .null, .null, .int 0, .int 0, .long 0] 110 ad6 := I
  refine gputF (k := 8) (t := .array .int) B hin I zK11 (by decide) (zin (i := 1071) (by decide +kernel) rfl) rfl rfl (by decide) rfl rfl (Nat.le_of_ble_eq_true rfl) dX11_init_49 (fun H locs I => ?_)
  have I : zGI D cI cJ _ _ _ _ 11 103 zσz ad ec [.ref (ad1 104), .int 0, .ref (ad2 105), .ref (ad3 106), .ref (ad4 107), .int 0, .ref (ad5 108), .int 0, .ref (ad6 109), .null, .int 0, .null, .null, .int 0, .null, .null, .null, .null, .int 0, .null, .null, .null, .int 0, .null, .null, .null, .null, .int 0, .int 0, .long 0] 110 ad6 := I
  refine lv_aload_n hx hb dX11_init_52 rfl (lv_at hl 0 rfl) ?_
  refine lv_bipush (v := (24 : Int32)) hx hb dX11_init_53 (by decide) ?_
  refine gnewa (ln := 24) B I hA (zc_110) rfl (by decide) rfl (zin (i := 116) (by decide +kernel) rfl) (Nat.le_of_ble_eq_true rfl) (Nat.le_of_ble_eq_true rfl) dX11_init_55 (fun ad7 H hk7 I => ?_)
  have I : zGI D cI cJ _ _ _ _ 11 103 zσz ad ec [.ref (ad1 104), .int 0, .ref (ad2 105), .ref (ad3 106), .ref (ad4 107), .int 0, .ref (ad5 108), .int 0, .ref (ad6 109), .null, .int 0, .null, .null, .int 0, .null, .null, .null, .null, .int 0, .null, .null, .null, .int 0, .null, .null, .null, .null, .int 0, .int 0, .long 0] 111 ad7 := I
  refine gputF (k := 9) (t := .array .int) B hin I zK11 (by decide) (zin (i := 1072) (by decide +kernel) rfl) rfl rfl (by decide) rfl rfl (Nat.le_of_ble_eq_true rfl) dX11_init_57 (fun H locs I => ?_)
  have I : zGI D cI cJ _ _ _ _ 11 103 zσz ad ec [.ref (ad1 104), .int 0, .ref (ad2 105), .ref (ad3 106), .ref (ad4 107), .int 0, .ref (ad5 108), .int 0, .ref (ad6 109), .ref (ad7 110), .int 0, .null, .null, .int 0, .null, .null, .null, .null, .int 0, .null, .null, .null, .int 0, .null, .null, .null, .null, .int 0, .int 0, .long 0] 111 ad7 := I
  refine lv_aload_n hx hb dX11_init_60 rfl (lv_at hl 0 rfl) ?_
  refine lv_bipush (v := (24 : Int32)) hx hb dX11_init_61 (by decide) ?_
  refine gnewa (ln := 24) B I hA (zc_111) rfl (by decide) rfl (zin (i := 116) (by decide +kernel) rfl) (Nat.le_of_ble_eq_true rfl) (Nat.le_of_ble_eq_true rfl) dX11_init_63 (fun ad8 H hk8 I => ?_)
  have I : zGI D cI cJ _ _ _ _ 11 103 zσz ad ec [.ref (ad1 104), .int 0, .ref (ad2 105), .ref (ad3 106), .ref (ad4 107), .int 0, .ref (ad5 108), .int 0, .ref (ad6 109), .ref (ad7 110), .int 0, .null, .null, .int 0, .null, .null, .null, .null, .int 0, .null, .null, .null, .int 0, .null, .null, .null, .null, .int 0, .int 0, .long 0] 112 ad8 := I
  refine gputF (k := 11) (t := .array .int) B hin I zK11 (by decide) (zin (i := 1074) (by decide +kernel) rfl) rfl rfl (by decide) rfl rfl (Nat.le_of_ble_eq_true rfl) dX11_init_65 (fun H locs I => ?_)
  have I : zGI D cI cJ _ _ _ _ 11 103 zσz ad ec [.ref (ad1 104), .int 0, .ref (ad2 105), .ref (ad3 106), .ref (ad4 107), .int 0, .ref (ad5 108), .int 0, .ref (ad6 109), .ref (ad7 110), .int 0, .ref (ad8 111), .null, .int 0, .null, .null, .null, .null, .int 0, .null, .null, .null, .int 0, .null, .null, .null, .null, .int 0, .int 0, .long 0] 112 ad8 := I
  refine lv_aload_n hx hb dX11_init_68 rfl (lv_at hl 0 rfl) ?_
  refine lv_bipush (v := (24 : Int32)) hx hb dX11_init_69 (by decide) ?_
  refine gnewa (ln := 24) B I hA (zc_112) rfl (by decide) rfl (zin (i := 116) (by decide +kernel) rfl) (Nat.le_of_ble_eq_true rfl) (Nat.le_of_ble_eq_true rfl) dX11_init_71 (fun ad9 H hk9 I => ?_)
  have I : zGI D cI cJ _ _ _ _ 11 103 zσz ad ec [.ref (ad1 104), .int 0, .ref (ad2 105), .ref (ad3 106), .ref (ad4 107), .int 0, .ref (ad5 108), .int 0, .ref (ad6 109), .ref (ad7 110), .int 0, .ref (ad8 111), .null, .int 0, .null, .null, .null, .null, .int 0, .null, .null, .null, .int 0, .null, .null, .null, .null, .int 0, .int 0, .long 0] 113 ad9 := I
  refine gputF (k := 12) (t := .array .int) B hin I zK11 (by decide) (zin (i := 1075) (by decide +kernel) rfl) rfl rfl (by decide) rfl rfl (Nat.le_of_ble_eq_true rfl) dX11_init_73 (fun H locs I => ?_)
  have I : zGI D cI cJ _ _ _ _ 11 103 zσz ad ec [.ref (ad1 104), .int 0, .ref (ad2 105), .ref (ad3 106), .ref (ad4 107), .int 0, .ref (ad5 108), .int 0, .ref (ad6 109), .ref (ad7 110), .int 0, .ref (ad8 111), .ref (ad9 112), .int 0, .null, .null, .null, .null, .int 0, .null, .null, .null, .int 0, .null, .null, .null, .null, .int 0, .int 0, .long 0] 113 ad9 := I
  refine lv_aload_n hx hb dX11_init_76 rfl (lv_at hl 0 rfl) ?_
  refine lv_bipush (v := (24 : Int32)) hx hb dX11_init_77 (by decide) ?_
  refine gnewa (ln := 24) B I hA (zc_113) rfl (by decide) rfl (zin (i := 116) (by decide +kernel) rfl) (Nat.le_of_ble_eq_true rfl) (Nat.le_of_ble_eq_true rfl) dX11_init_79 (fun ad10 H hk10 I => ?_)
  have I : zGI D cI cJ _ _ _ _ 11 103 zσz ad ec [.ref (ad1 104), .int 0, .ref (ad2 105), .ref (ad3 106), .ref (ad4 107), .int 0, .ref (ad5 108), .int 0, .ref (ad6 109), .ref (ad7 110), .int 0, .ref (ad8 111), .ref (ad9 112), .int 0, .null, .null, .null, .null, .int 0, .null, .null, .null, .int 0, .null, .null, .null, .null, .int 0, .int 0, .long 0] 114 ad10 := I
  refine gputF (k := 14) (t := .array .int) B hin I zK11 (by decide) (zin (i := 1077) (by decide +kernel) rfl) rfl rfl (by decide) rfl rfl (Nat.le_of_ble_eq_true rfl) dX11_init_81 (fun H locs I => ?_)
  have I : zGI D cI cJ _ _ _ _ 11 103 zσz ad ec [.ref (ad1 104), .int 0, .ref (ad2 105), .ref (ad3 106), .ref (ad4 107), .int 0, .ref (ad5 108), .int 0, .ref (ad6 109), .ref (ad7 110), .int 0, .ref (ad8 111), .ref (ad9 112), .int 0, .ref (ad10 113), .null, .null, .null, .int 0, .null, .null, .null, .int 0, .null, .null, .null, .null, .int 0, .int 0, .long 0] 114 ad10 := I
  refine lv_aload_n hx hb dX11_init_84 rfl (lv_at hl 0 rfl) ?_
  refine lv_bipush (v := (24 : Int32)) hx hb dX11_init_85 (by decide) ?_
  refine gnewa (ln := 24) B I hA (zc_114) rfl (by decide) rfl (zin (i := 116) (by decide +kernel) rfl) (Nat.le_of_ble_eq_true rfl) (Nat.le_of_ble_eq_true rfl) dX11_init_87 (fun ad11 H hk11 I => ?_)
  have I : zGI D cI cJ _ _ _ _ 11 103 zσz ad ec [.ref (ad1 104), .int 0, .ref (ad2 105), .ref (ad3 106), .ref (ad4 107), .int 0, .ref (ad5 108), .int 0, .ref (ad6 109), .ref (ad7 110), .int 0, .ref (ad8 111), .ref (ad9 112), .int 0, .ref (ad10 113), .null, .null, .null, .int 0, .null, .null, .null, .int 0, .null, .null, .null, .null, .int 0, .int 0, .long 0] 115 ad11 := I
  refine gputF (k := 15) (t := .array .int) B hin I zK11 (by decide) (zin (i := 1078) (by decide +kernel) rfl) rfl rfl (by decide) rfl rfl (Nat.le_of_ble_eq_true rfl) dX11_init_89 (fun H locs I => ?_)
  have I : zGI D cI cJ _ _ _ _ 11 103 zσz ad ec [.ref (ad1 104), .int 0, .ref (ad2 105), .ref (ad3 106), .ref (ad4 107), .int 0, .ref (ad5 108), .int 0, .ref (ad6 109), .ref (ad7 110), .int 0, .ref (ad8 111), .ref (ad9 112), .int 0, .ref (ad10 113), .ref (ad11 114), .null, .null, .int 0, .null, .null, .null, .int 0, .null, .null, .null, .null, .int 0, .int 0, .long 0] 115 ad11 := I
  refine lv_aload_n hx hb dX11_init_92 rfl (lv_at hl 0 rfl) ?_
  refine lv_bipush (v := (24 : Int32)) hx hb dX11_init_93 (by decide) ?_
  refine gnewa (ln := 24) B I hA (zc_115) rfl (by decide) rfl (zin (i := 116) (by decide +kernel) rfl) (Nat.le_of_ble_eq_true rfl) (Nat.le_of_ble_eq_true rfl) dX11_init_95 (fun ad12 H hk12 I => ?_)
  have I : zGI D cI cJ _ _ _ _ 11 103 zσz ad ec [.ref (ad1 104), .int 0, .ref (ad2 105), .ref (ad3 106), .ref (ad4 107), .int 0, .ref (ad5 108), .int 0, .ref (ad6 109), .ref (ad7 110), .int 0, .ref (ad8 111), .ref (ad9 112), .int 0, .ref (ad10 113), .ref (ad11 114), .null, .null, .int 0, .null, .null, .null, .int 0, .null, .null, .null, .null, .int 0, .int 0, .long 0] 116 ad12 := I
  refine gputF (k := 16) (t := .array .int) B hin I zK11 (by decide) (zin (i := 1079) (by decide +kernel) rfl) rfl rfl (by decide) rfl rfl (Nat.le_of_ble_eq_true rfl) dX11_init_97 (fun H locs I => ?_)
  have I : zGI D cI cJ _ _ _ _ 11 103 zσz ad ec [.ref (ad1 104), .int 0, .ref (ad2 105), .ref (ad3 106), .ref (ad4 107), .int 0, .ref (ad5 108), .int 0, .ref (ad6 109), .ref (ad7 110), .int 0, .ref (ad8 111), .ref (ad9 112), .int 0, .ref (ad10 113), .ref (ad11 114), .ref (ad12 115), .null, .int 0, .null, .null, .null, .int 0, .null, .null, .null, .null, .int 0, .int 0, .long 0] 116 ad12 := I
  refine lv_aload_n hx hb dX11_init_100 rfl (lv_at hl 0 rfl) ?_
  refine lv_bipush (v := (24 : Int32)) hx hb dX11_init_101 (by decide) ?_
  refine gnewa (ln := 24) B I hA (zc_116) rfl (by decide) rfl (zin (i := 116) (by decide +kernel) rfl) (Nat.le_of_ble_eq_true rfl) (Nat.le_of_ble_eq_true rfl) dX11_init_103 (fun ad13 H hk13 I => ?_)
  have I : zGI D cI cJ _ _ _ _ 11 103 zσz ad ec [.ref (ad1 104), .int 0, .ref (ad2 105), .ref (ad3 106), .ref (ad4 107), .int 0, .ref (ad5 108), .int 0, .ref (ad6 109), .ref (ad7 110), .int 0, .ref (ad8 111), .ref (ad9 112), .int 0, .ref (ad10 113), .ref (ad11 114), .ref (ad12 115), .null, .int 0, .null, .null, .null, .int 0, .null, .null, .null, .null, .int 0, .int 0, .long 0] 117 ad13 := I
  refine gputF (k := 17) (t := .array .int) B hin I zK11 (by decide) (zin (i := 1080) (by decide +kernel) rfl) rfl rfl (by decide) rfl rfl (Nat.le_of_ble_eq_true rfl) dX11_init_105 (fun H locs I => ?_)
  have I : zGI D cI cJ _ _ _ _ 11 103 zσz ad ec [.ref (ad1 104), .int 0, .ref (ad2 105), .ref (ad3 106), .ref (ad4 107), .int 0, .ref (ad5 108), .int 0, .ref (ad6 109), .ref (ad7 110), .int 0, .ref (ad8 111), .ref (ad9 112), .int 0, .ref (ad10 113), .ref (ad11 114), .ref (ad12 115), .ref (ad13 116), .int 0, .null, .null, .null, .int 0, .null, .null, .null, .null, .int 0, .int 0, .long 0] 117 ad13 := I
  refine lv_aload_n hx hb dX11_init_108 rfl (lv_at hl 0 rfl) ?_
  refine lv_bipush (v := (50 : Int32)) hx hb dX11_init_109 (by decide) ?_
  refine gnewa (ln := 50) B I hA (zc_117) rfl (by decide) rfl (zin (i := 116) (by decide +kernel) rfl) (Nat.le_of_ble_eq_true rfl) (Nat.le_of_ble_eq_true rfl) dX11_init_111 (fun ad14 H hk14 I => ?_)
  have I : zGI D cI cJ _ _ _ _ 11 103 zσz ad ec [.ref (ad1 104), .int 0, .ref (ad2 105), .ref (ad3 106), .ref (ad4 107), .int 0, .ref (ad5 108), .int 0, .ref (ad6 109), .ref (ad7 110), .int 0, .ref (ad8 111), .ref (ad9 112), .int 0, .ref (ad10 113), .ref (ad11 114), .ref (ad12 115), .ref (ad13 116), .int 0, .null, .null, .null, .int 0, .null, .null, .null, .null, .int 0, .int 0, .long 0] 118 ad14 := I
  refine gputF (k := 19) (t := .array .int) B hin I zK11 (by decide) (zin (i := 1082) (by decide +kernel) rfl) rfl rfl (by decide) rfl rfl (Nat.le_of_ble_eq_true rfl) dX11_init_113 (fun H locs I => ?_)
  have I : zGI D cI cJ _ _ _ _ 11 103 zσz ad ec [.ref (ad1 104), .int 0, .ref (ad2 105), .ref (ad3 106), .ref (ad4 107), .int 0, .ref (ad5 108), .int 0, .ref (ad6 109), .ref (ad7 110), .int 0, .ref (ad8 111), .ref (ad9 112), .int 0, .ref (ad10 113), .ref (ad11 114), .ref (ad12 115), .ref (ad13 116), .int 0, .ref (ad14 117), .null, .null, .int 0, .null, .null, .null, .null, .int 0, .int 0, .long 0] 118 ad14 := I
  refine lv_aload_n hx hb dX11_init_116 rfl (lv_at hl 0 rfl) ?_
  refine lv_bipush (v := (50 : Int32)) hx hb dX11_init_117 (by decide) ?_
  refine gnewa (ln := 50) B I hA (zc_118) rfl (by decide) rfl (zin (i := 116) (by decide +kernel) rfl) (Nat.le_of_ble_eq_true rfl) (Nat.le_of_ble_eq_true rfl) dX11_init_119 (fun ad15 H hk15 I => ?_)
  have I : zGI D cI cJ _ _ _ _ 11 103 zσz ad ec [.ref (ad1 104), .int 0, .ref (ad2 105), .ref (ad3 106), .ref (ad4 107), .int 0, .ref (ad5 108), .int 0, .ref (ad6 109), .ref (ad7 110), .int 0, .ref (ad8 111), .ref (ad9 112), .int 0, .ref (ad10 113), .ref (ad11 114), .ref (ad12 115), .ref (ad13 116), .int 0, .ref (ad14 117), .null, .null, .int 0, .null, .null, .null, .null, .int 0, .int 0, .long 0] 119 ad15 := I
  refine gputF (k := 20) (t := .array .int) B hin I zK11 (by decide) (zin (i := 1083) (by decide +kernel) rfl) rfl rfl (by decide) rfl rfl (Nat.le_of_ble_eq_true rfl) dX11_init_121 (fun H locs I => ?_)
  have I : zGI D cI cJ _ _ _ _ 11 103 zσz ad ec [.ref (ad1 104), .int 0, .ref (ad2 105), .ref (ad3 106), .ref (ad4 107), .int 0, .ref (ad5 108), .int 0, .ref (ad6 109), .ref (ad7 110), .int 0, .ref (ad8 111), .ref (ad9 112), .int 0, .ref (ad10 113), .ref (ad11 114), .ref (ad12 115), .ref (ad13 116), .int 0, .ref (ad14 117), .ref (ad15 118), .null, .int 0, .null, .null, .null, .null, .int 0, .int 0, .long 0] 119 ad15 := I
  refine lv_aload_n hx hb dX11_init_124 rfl (lv_at hl 0 rfl) ?_
  refine lv_bipush (v := (25 : Int32)) hx hb dX11_init_125 (by decide) ?_
  refine gnewa (ln := 25) B I hA (zc_119) rfl (by decide) rfl (zin (i := 116) (by decide +kernel) rfl) (Nat.le_of_ble_eq_true rfl) (Nat.le_of_ble_eq_true rfl) dX11_init_127 (fun ad16 H hk16 I => ?_)
  have I : zGI D cI cJ _ _ _ _ 11 103 zσz ad ec [.ref (ad1 104), .int 0, .ref (ad2 105), .ref (ad3 106), .ref (ad4 107), .int 0, .ref (ad5 108), .int 0, .ref (ad6 109), .ref (ad7 110), .int 0, .ref (ad8 111), .ref (ad9 112), .int 0, .ref (ad10 113), .ref (ad11 114), .ref (ad12 115), .ref (ad13 116), .int 0, .ref (ad14 117), .ref (ad15 118), .null, .int 0, .null, .null, .null, .null, .int 0, .int 0, .long 0] 120 ad16 := I
  refine gputF (k := 21) (t := .array .int) B hin I zK11 (by decide) (zin (i := 1084) (by decide +kernel) rfl) rfl rfl (by decide) rfl rfl (Nat.le_of_ble_eq_true rfl) dX11_init_129 (fun H locs I => ?_)
  have I : zGI D cI cJ _ _ _ _ 11 103 zσz ad ec [.ref (ad1 104), .int 0, .ref (ad2 105), .ref (ad3 106), .ref (ad4 107), .int 0, .ref (ad5 108), .int 0, .ref (ad6 109), .ref (ad7 110), .int 0, .ref (ad8 111), .ref (ad9 112), .int 0, .ref (ad10 113), .ref (ad11 114), .ref (ad12 115), .ref (ad13 116), .int 0, .ref (ad14 117), .ref (ad15 118), .ref (ad16 119), .int 0, .null, .null, .null, .null, .int 0, .int 0, .long 0] 120 ad16 := I
  refine lv_aload_n hx hb dX11_init_132 rfl (lv_at hl 0 rfl) ?_
  refine lv_bipush (v := (48 : Int32)) hx hb dX11_init_133 (by decide) ?_
  refine gnewa (ln := 48) B I hA (zc_120) rfl (by decide) rfl (zin (i := 116) (by decide +kernel) rfl) (Nat.le_of_ble_eq_true rfl) (Nat.le_of_ble_eq_true rfl) dX11_init_135 (fun ad17 H hk17 I => ?_)
  have I : zGI D cI cJ _ _ _ _ 11 103 zσz ad ec [.ref (ad1 104), .int 0, .ref (ad2 105), .ref (ad3 106), .ref (ad4 107), .int 0, .ref (ad5 108), .int 0, .ref (ad6 109), .ref (ad7 110), .int 0, .ref (ad8 111), .ref (ad9 112), .int 0, .ref (ad10 113), .ref (ad11 114), .ref (ad12 115), .ref (ad13 116), .int 0, .ref (ad14 117), .ref (ad15 118), .ref (ad16 119), .int 0, .null, .null, .null, .null, .int 0, .int 0, .long 0] 121 ad17 := I
  refine gputF (k := 23) (t := .array .int) B hin I zK11 (by decide) (zin (i := 1086) (by decide +kernel) rfl) rfl rfl (by decide) rfl rfl (Nat.le_of_ble_eq_true rfl) dX11_init_137 (fun H locs I => ?_)
  have I : zGI D cI cJ _ _ _ _ 11 103 zσz ad ec [.ref (ad1 104), .int 0, .ref (ad2 105), .ref (ad3 106), .ref (ad4 107), .int 0, .ref (ad5 108), .int 0, .ref (ad6 109), .ref (ad7 110), .int 0, .ref (ad8 111), .ref (ad9 112), .int 0, .ref (ad10 113), .ref (ad11 114), .ref (ad12 115), .ref (ad13 116), .int 0, .ref (ad14 117), .ref (ad15 118), .ref (ad16 119), .int 0, .ref (ad17 120), .null, .null, .null, .int 0, .int 0, .long 0] 121 ad17 := I
  refine lv_aload_n hx hb dX11_init_140 rfl (lv_at hl 0 rfl) ?_
  refine lv_sipush (v := (625 : Int32)) hx hb dX11_init_141 (by decide) ?_
  refine gnewa (ln := 625) B I hA (zc_121) rfl (by decide) rfl (zin (i := 116) (by decide +kernel) rfl) (Nat.le_of_ble_eq_true rfl) (Nat.le_of_ble_eq_true rfl) dX11_init_144 (fun ad18 H hk18 I => ?_)
  have I : zGI D cI cJ _ _ _ _ 11 103 zσz ad ec [.ref (ad1 104), .int 0, .ref (ad2 105), .ref (ad3 106), .ref (ad4 107), .int 0, .ref (ad5 108), .int 0, .ref (ad6 109), .ref (ad7 110), .int 0, .ref (ad8 111), .ref (ad9 112), .int 0, .ref (ad10 113), .ref (ad11 114), .ref (ad12 115), .ref (ad13 116), .int 0, .ref (ad14 117), .ref (ad15 118), .ref (ad16 119), .int 0, .ref (ad17 120), .null, .null, .null, .int 0, .int 0, .long 0] 122 ad18 := I
  refine gputF (k := 24) (t := .array .int) B hin I zK11 (by decide) (zin (i := 1087) (by decide +kernel) rfl) rfl rfl (by decide) rfl rfl (Nat.le_of_ble_eq_true rfl) dX11_init_146 (fun H locs I => ?_)
  have I : zGI D cI cJ _ _ _ _ 11 103 zσz ad ec [.ref (ad1 104), .int 0, .ref (ad2 105), .ref (ad3 106), .ref (ad4 107), .int 0, .ref (ad5 108), .int 0, .ref (ad6 109), .ref (ad7 110), .int 0, .ref (ad8 111), .ref (ad9 112), .int 0, .ref (ad10 113), .ref (ad11 114), .ref (ad12 115), .ref (ad13 116), .int 0, .ref (ad14 117), .ref (ad15 118), .ref (ad16 119), .int 0, .ref (ad17 120), .ref (ad18 121), .null, .null, .int 0, .int 0, .long 0] 122 ad18 := I
  refine lv_aload_n hx hb dX11_init_149 rfl (lv_at hl 0 rfl) ?_
  refine lv_bipush (v := (48 : Int32)) hx hb dX11_init_150 (by decide) ?_
  refine gnewa (ln := 48) B I hA (zc_122) rfl (by decide) rfl (zin (i := 116) (by decide +kernel) rfl) (Nat.le_of_ble_eq_true rfl) (Nat.le_of_ble_eq_true rfl) dX11_init_152 (fun ad19 H hk19 I => ?_)
  have I : zGI D cI cJ _ _ _ _ 11 103 zσz ad ec [.ref (ad1 104), .int 0, .ref (ad2 105), .ref (ad3 106), .ref (ad4 107), .int 0, .ref (ad5 108), .int 0, .ref (ad6 109), .ref (ad7 110), .int 0, .ref (ad8 111), .ref (ad9 112), .int 0, .ref (ad10 113), .ref (ad11 114), .ref (ad12 115), .ref (ad13 116), .int 0, .ref (ad14 117), .ref (ad15 118), .ref (ad16 119), .int 0, .ref (ad17 120), .ref (ad18 121), .null, .null, .int 0, .int 0, .long 0] 123 ad19 := I
  refine gputF (k := 25) (t := .array .int) B hin I zK11 (by decide) (zin (i := 1088) (by decide +kernel) rfl) rfl rfl (by decide) rfl rfl (Nat.le_of_ble_eq_true rfl) dX11_init_154 (fun H locs I => ?_)
  have I : zGI D cI cJ _ _ _ _ 11 103 zσz ad ec [.ref (ad1 104), .int 0, .ref (ad2 105), .ref (ad3 106), .ref (ad4 107), .int 0, .ref (ad5 108), .int 0, .ref (ad6 109), .ref (ad7 110), .int 0, .ref (ad8 111), .ref (ad9 112), .int 0, .ref (ad10 113), .ref (ad11 114), .ref (ad12 115), .ref (ad13 116), .int 0, .ref (ad14 117), .ref (ad15 118), .ref (ad16 119), .int 0, .ref (ad17 120), .ref (ad18 121), .ref (ad19 122), .null, .int 0, .int 0, .long 0] 123 ad19 := I
  refine lv_aload_n hx hb dX11_init_157 rfl (lv_at hl 0 rfl) ?_
  refine lv_iconst (v := (2 : Int32)) hx hb dX11_init_158 (by decide) ?_
  refine gnewa (ln := 2) B I hA (zc_123) rfl (by decide) rfl (zin (i := 116) (by decide +kernel) rfl) (Nat.le_of_ble_eq_true rfl) (Nat.le_of_ble_eq_true rfl) dX11_init_159 (fun ad20 H hk20 I => ?_)
  have I : zGI D cI cJ _ _ _ _ 11 103 zσz ad ec [.ref (ad1 104), .int 0, .ref (ad2 105), .ref (ad3 106), .ref (ad4 107), .int 0, .ref (ad5 108), .int 0, .ref (ad6 109), .ref (ad7 110), .int 0, .ref (ad8 111), .ref (ad9 112), .int 0, .ref (ad10 113), .ref (ad11 114), .ref (ad12 115), .ref (ad13 116), .int 0, .ref (ad14 117), .ref (ad15 118), .ref (ad16 119), .int 0, .ref (ad17 120), .ref (ad18 121), .ref (ad19 122), .null, .int 0, .int 0, .long 0] 124 ad20 := I
  refine gputF (k := 26) (t := .array .int) B hin I zK11 (by decide) (zin (i := 1089) (by decide +kernel) rfl) rfl rfl (by decide) rfl rfl (Nat.le_of_ble_eq_true rfl) dX11_init_161 (fun H locs I => ?_)
  have I : zGI D cI cJ _ _ _ _ 11 103 zσz ad ec [.ref (ad1 104), .int 0, .ref (ad2 105), .ref (ad3 106), .ref (ad4 107), .int 0, .ref (ad5 108), .int 0, .ref (ad6 109), .ref (ad7 110), .int 0, .ref (ad8 111), .ref (ad9 112), .int 0, .ref (ad10 113), .ref (ad11 114), .ref (ad12 115), .ref (ad13 116), .int 0, .ref (ad14 117), .ref (ad15 118), .ref (ad16 119), .int 0, .ref (ad17 120), .ref (ad18 121), .ref (ad19 122), .ref (ad20 123), .int 0, .int 0, .long 0] 124 ad20 := I
  refine lv_aload_n hx hb dX11_init_164 rfl (lv_at hl 0 rfl) ?_
  refine gget (k := 0) (v := .ref (ad1 104)) B I zK11 (by decide) (zin (i := 1063) (by decide +kernel) rfl) rfl dX11_init_165 ?_
  refine lv_iconst (v := (0 : Int32)) hx hb dX11_init_168 (by decide) ?_
  refine lv_iconst (v := (3 : Int32)) hx hb dX11_init_169 (by decide) ?_
  refine giast (a := 104) (ln := 54) (k := 0) B I ((((((((((((((((((((hk20 104 (by omega)).trans (hk19 104 (by omega))).trans (hk18 104 (by omega))).trans (hk17 104 (by omega))).trans (hk16 104 (by omega))).trans (hk15 104 (by omega))).trans (hk14 104 (by omega))).trans (hk13 104 (by omega))).trans (hk12 104 (by omega))).trans (hk11 104 (by omega))).trans (hk10 104 (by omega))).trans (hk9 104 (by omega))).trans (hk8 104 (by omega))).trans (hk7 104 (by omega))).trans (hk6 104 (by omega))).trans (hk5 104 (by omega))).trans (hk4 104 (by omega))).trans (hk3 104 (by omega))).trans (hk2 104 (by omega)))).symm (by decide) (by decide) zc_104 rfl (by decide) (by decide) dX11_init_170 (fun H locs I => ?_)
  refine lv_aload_n hx hb dX11_init_171 rfl (lv_at hl 0 rfl) ?_
  refine gget (k := 0) (v := .ref (ad1 104)) B I zK11 (by decide) (zin (i := 1063) (by decide +kernel) rfl) rfl dX11_init_172 ?_
  refine lv_iconst (v := (1 : Int32)) hx hb dX11_init_175 (by decide) ?_
  refine lv_iconst (v := (2 : Int32)) hx hb dX11_init_176 (by decide) ?_
  refine giast (a := 104) (ln := 54) (k := 1) B I ((((((((((((((((((((hk20 104 (by omega)).trans (hk19 104 (by omega))).trans (hk18 104 (by omega))).trans (hk17 104 (by omega))).trans (hk16 104 (by omega))).trans (hk15 104 (by omega))).trans (hk14 104 (by omega))).trans (hk13 104 (by omega))).trans (hk12 104 (by omega))).trans (hk11 104 (by omega))).trans (hk10 104 (by omega))).trans (hk9 104 (by omega))).trans (hk8 104 (by omega))).trans (hk7 104 (by omega))).trans (hk6 104 (by omega))).trans (hk5 104 (by omega))).trans (hk4 104 (by omega))).trans (hk3 104 (by omega))).trans (hk2 104 (by omega)))).symm (by decide) (by decide) zc_104 rfl (by decide) (by decide) dX11_init_177 (fun H locs I => ?_)
  refine lv_aload_n hx hb dX11_init_178 rfl (lv_at hl 0 rfl) ?_
  refine gget (k := 0) (v := .ref (ad1 104)) B I zK11 (by decide) (zin (i := 1063) (by decide +kernel) rfl) rfl dX11_init_179 ?_
  refine lv_iconst (v := (2 : Int32)) hx hb dX11_init_182 (by decide) ?_
  refine lv_iconst (v := (3 : Int32)) hx hb dX11_init_183 (by decide) ?_
  refine giast (a := 104) (ln := 54) (k := 2) B I ((((((((((((((((((((hk20 104 (by omega)).trans (hk19 104 (by omega))).trans (hk18 104 (by omega))).trans (hk17 104 (by omega))).trans (hk16 104 (by omega))).trans (hk15 104 (by omega))).trans (hk14 104 (by omega))).trans (hk13 104 (by omega))).trans (hk12 104 (by omega))).trans (hk11 104 (by omega))).trans (hk10 104 (by omega))).trans (hk9 104 (by omega))).trans (hk8 104 (by omega))).trans (hk7 104 (by omega))).trans (hk6 104 (by omega))).trans (hk5 104 (by omega))).trans (hk4 104 (by omega))).trans (hk3 104 (by omega))).trans (hk2 104 (by omega)))).symm (by decide) (by decide) zc_104 rfl (by decide) (by decide) dX11_init_184 (fun H locs I => ?_)
  refine lv_aload_n hx hb dX11_init_185 rfl (lv_at hl 0 rfl) ?_
  refine gget (k := 0) (v := .ref (ad1 104)) B I zK11 (by decide) (zin (i := 1063) (by decide +kernel) rfl) rfl dX11_init_186 ?_
  refine lv_iconst (v := (3 : Int32)) hx hb dX11_init_189 (by decide) ?_
  refine lv_iconst (v := (4 : Int32)) hx hb dX11_init_190 (by decide) ?_
  refine giast (a := 104) (ln := 54) (k := 3) B I ((((((((((((((((((((hk20 104 (by omega)).trans (hk19 104 (by omega))).trans (hk18 104 (by omega))).trans (hk17 104 (by omega))).trans (hk16 104 (by omega))).trans (hk15 104 (by omega))).trans (hk14 104 (by omega))).trans (hk13 104 (by omega))).trans (hk12 104 (by omega))).trans (hk11 104 (by omega))).trans (hk10 104 (by omega))).trans (hk9 104 (by omega))).trans (hk8 104 (by omega))).trans (hk7 104 (by omega))).trans (hk6 104 (by omega))).trans (hk5 104 (by omega))).trans (hk4 104 (by omega))).trans (hk3 104 (by omega))).trans (hk2 104 (by omega)))).symm (by decide) (by decide) zc_104 rfl (by decide) (by decide) dX11_init_191 (fun H locs I => ?_)
  have I := gmu (μ' := zσ0) I (fun j h1 h2 => zσs11 j h1 h2)
  refine gend B hr hlocks I ?_ dX11_init_192
  rw [zce_ob hi (by decide)]
  show _ = (Sum.inr (11, [.ref (ad20 104), .int 0, .ref (ad20 105), .ref (ad20 106), .ref (ad20 107), .int 0, .ref (ad20 108), .int 0, .ref (ad20 109), .ref (ad20 110), .int 0, .ref (ad20 111), .ref (ad20 112), .int 0, .ref (ad20 113), .ref (ad20 114), .ref (ad20 115), .ref (ad20 116), .int 0, .ref (ad20 117), .ref (ad20 118), .ref (ad20 119), .int 0, .ref (ad20 120), .ref (ad20 121), .ref (ad20 122), .ref (ad20 123), .int 0, .int 0, .long 0]) : va_E)
  rw [(((((((((((((((((((hk20 104 (by omega)).trans (hk19 104 (by omega))).trans (hk18 104 (by omega))).trans (hk17 104 (by omega))).trans (hk16 104 (by omega))).trans (hk15 104 (by omega))).trans (hk14 104 (by omega))).trans (hk13 104 (by omega))).trans (hk12 104 (by omega))).trans (hk11 104 (by omega))).trans (hk10 104 (by omega))).trans (hk9 104 (by omega))).trans (hk8 104 (by omega))).trans (hk7 104 (by omega))).trans (hk6 104 (by omega))).trans (hk5 104 (by omega))).trans (hk4 104 (by omega))).trans (hk3 104 (by omega))).trans (hk2 104 (by omega)))]
  rw [((((((((((((((((((hk20 105 (by omega)).trans (hk19 105 (by omega))).trans (hk18 105 (by omega))).trans (hk17 105 (by omega))).trans (hk16 105 (by omega))).trans (hk15 105 (by omega))).trans (hk14 105 (by omega))).trans (hk13 105 (by omega))).trans (hk12 105 (by omega))).trans (hk11 105 (by omega))).trans (hk10 105 (by omega))).trans (hk9 105 (by omega))).trans (hk8 105 (by omega))).trans (hk7 105 (by omega))).trans (hk6 105 (by omega))).trans (hk5 105 (by omega))).trans (hk4 105 (by omega))).trans (hk3 105 (by omega)))]
  rw [(((((((((((((((((hk20 106 (by omega)).trans (hk19 106 (by omega))).trans (hk18 106 (by omega))).trans (hk17 106 (by omega))).trans (hk16 106 (by omega))).trans (hk15 106 (by omega))).trans (hk14 106 (by omega))).trans (hk13 106 (by omega))).trans (hk12 106 (by omega))).trans (hk11 106 (by omega))).trans (hk10 106 (by omega))).trans (hk9 106 (by omega))).trans (hk8 106 (by omega))).trans (hk7 106 (by omega))).trans (hk6 106 (by omega))).trans (hk5 106 (by omega))).trans (hk4 106 (by omega)))]
  rw [((((((((((((((((hk20 107 (by omega)).trans (hk19 107 (by omega))).trans (hk18 107 (by omega))).trans (hk17 107 (by omega))).trans (hk16 107 (by omega))).trans (hk15 107 (by omega))).trans (hk14 107 (by omega))).trans (hk13 107 (by omega))).trans (hk12 107 (by omega))).trans (hk11 107 (by omega))).trans (hk10 107 (by omega))).trans (hk9 107 (by omega))).trans (hk8 107 (by omega))).trans (hk7 107 (by omega))).trans (hk6 107 (by omega))).trans (hk5 107 (by omega)))]
  rw [(((((((((((((((hk20 108 (by omega)).trans (hk19 108 (by omega))).trans (hk18 108 (by omega))).trans (hk17 108 (by omega))).trans (hk16 108 (by omega))).trans (hk15 108 (by omega))).trans (hk14 108 (by omega))).trans (hk13 108 (by omega))).trans (hk12 108 (by omega))).trans (hk11 108 (by omega))).trans (hk10 108 (by omega))).trans (hk9 108 (by omega))).trans (hk8 108 (by omega))).trans (hk7 108 (by omega))).trans (hk6 108 (by omega)))]
  rw [((((((((((((((hk20 109 (by omega)).trans (hk19 109 (by omega))).trans (hk18 109 (by omega))).trans (hk17 109 (by omega))).trans (hk16 109 (by omega))).trans (hk15 109 (by omega))).trans (hk14 109 (by omega))).trans (hk13 109 (by omega))).trans (hk12 109 (by omega))).trans (hk11 109 (by omega))).trans (hk10 109 (by omega))).trans (hk9 109 (by omega))).trans (hk8 109 (by omega))).trans (hk7 109 (by omega)))]
  rw [(((((((((((((hk20 110 (by omega)).trans (hk19 110 (by omega))).trans (hk18 110 (by omega))).trans (hk17 110 (by omega))).trans (hk16 110 (by omega))).trans (hk15 110 (by omega))).trans (hk14 110 (by omega))).trans (hk13 110 (by omega))).trans (hk12 110 (by omega))).trans (hk11 110 (by omega))).trans (hk10 110 (by omega))).trans (hk9 110 (by omega))).trans (hk8 110 (by omega)))]
  rw [((((((((((((hk20 111 (by omega)).trans (hk19 111 (by omega))).trans (hk18 111 (by omega))).trans (hk17 111 (by omega))).trans (hk16 111 (by omega))).trans (hk15 111 (by omega))).trans (hk14 111 (by omega))).trans (hk13 111 (by omega))).trans (hk12 111 (by omega))).trans (hk11 111 (by omega))).trans (hk10 111 (by omega))).trans (hk9 111 (by omega)))]
  rw [(((((((((((hk20 112 (by omega)).trans (hk19 112 (by omega))).trans (hk18 112 (by omega))).trans (hk17 112 (by omega))).trans (hk16 112 (by omega))).trans (hk15 112 (by omega))).trans (hk14 112 (by omega))).trans (hk13 112 (by omega))).trans (hk12 112 (by omega))).trans (hk11 112 (by omega))).trans (hk10 112 (by omega)))]
  rw [((((((((((hk20 113 (by omega)).trans (hk19 113 (by omega))).trans (hk18 113 (by omega))).trans (hk17 113 (by omega))).trans (hk16 113 (by omega))).trans (hk15 113 (by omega))).trans (hk14 113 (by omega))).trans (hk13 113 (by omega))).trans (hk12 113 (by omega))).trans (hk11 113 (by omega)))]
  rw [(((((((((hk20 114 (by omega)).trans (hk19 114 (by omega))).trans (hk18 114 (by omega))).trans (hk17 114 (by omega))).trans (hk16 114 (by omega))).trans (hk15 114 (by omega))).trans (hk14 114 (by omega))).trans (hk13 114 (by omega))).trans (hk12 114 (by omega)))]
  rw [((((((((hk20 115 (by omega)).trans (hk19 115 (by omega))).trans (hk18 115 (by omega))).trans (hk17 115 (by omega))).trans (hk16 115 (by omega))).trans (hk15 115 (by omega))).trans (hk14 115 (by omega))).trans (hk13 115 (by omega)))]
  rw [(((((((hk20 116 (by omega)).trans (hk19 116 (by omega))).trans (hk18 116 (by omega))).trans (hk17 116 (by omega))).trans (hk16 116 (by omega))).trans (hk15 116 (by omega))).trans (hk14 116 (by omega)))]
  rw [((((((hk20 117 (by omega)).trans (hk19 117 (by omega))).trans (hk18 117 (by omega))).trans (hk17 117 (by omega))).trans (hk16 117 (by omega))).trans (hk15 117 (by omega)))]
  rw [(((((hk20 118 (by omega)).trans (hk19 118 (by omega))).trans (hk18 118 (by omega))).trans (hk17 118 (by omega))).trans (hk16 118 (by omega)))]
  rw [((((hk20 119 (by omega)).trans (hk19 119 (by omega))).trans (hk18 119 (by omega))).trans (hk17 119 (by omega)))]
  rw [(((hk20 120 (by omega)).trans (hk19 120 (by omega))).trans (hk18 120 (by omega)))]
  rw [((hk20 121 (by omega)).trans (hk19 121 (by omega)))]
  rw [(hk20 122 (by omega))]
