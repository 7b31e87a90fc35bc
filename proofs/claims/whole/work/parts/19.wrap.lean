/-! the law's own calls: each catches what the face throws -/
def zNc (U : State) : Prop := va_Nc (zEx 1) (zEx 0) U ∧ va_Nc (zEx 2) (zEx 0) U ∧ va_Nc (zEx 2) (zEx 1) U
def zPY (g : zgeo) (σ : zmem) (U : State) : Prop := zPX g σ U ∧ zNc U
abbrev zwmW (y : MethodName) (cc : ByteArray) (n : Nat) (r : Option FieldType) (hh : List (Nat × Nat × Nat × Nat)) : List Cond := Cond.codeWith y cc n r hh :: wsL_law
def zCw (l : Launch) (g : zgeo) (y : MethodName) (cc : ByteArray) (nL : Nat) (hh : List (Nat × Nat × Nat × Nat)) (f n : Nat) (as : List Value) (σ : zmem) (r : Int32 × zmem) : Prop := Met l y (zwmW y cc nL (some .int) hh) (zrx f n) (va_Pc as (zPY g σ)) (zQI g r.1 r.2) 1 6 (zAA g)
theorem zNc.moved {s U : State} (hal : s.vm.Alike U.vm) (h : zNc s) : zNc U := ⟨h.1.moved hal, h.2.1.moved hal, h.2.2.moved hal⟩
theorem zopenW {l : Launch} {g : zgeo} {y : MethodName} {cc : ByteArray} {nL : Nat} {hh : List (Nat × Nat × Nat × Nat)} {f n : Nat} {as : List Value} {σ : zmem} {r : Int32 × zmem} (hy : plainName y.cls = true) (hlen : (lg_sl as).length ≤ nL)
    (body : ∀ (p : Program) (e : Env) (s : State) (m : MethodId) (below : List Frame) (meth : Method) (c : Code), zMC y.cls cc nL (some .int) g p m c s as.toArray meth → zPx g s → zNc s → c.exceptionTable.toList = tableOf hh → ∀ ls : Array Slot, lv_has ls nL (lv_args 0 as) → zIV g σ (zAA g) s.heap s.heap [] →
      W p l e (zrx f n) s m as.toArray below meth c s.heap [] 0 0 (MQ below (zQI g r.1 r.2) as.toArray s 1 6 (zAA g)) (F0 m 0 ls [])) : zCw l g y cc nL hh f n as σ r := by
  refine va_MetW (cc := cc) (maxL := nL) (ret := some .int) (hh := hh) hy rfl ?_
  intro p e s m args below meth c s₁ B hml hv
  obtain ⟨rfl, ⟨⟨hP, hK, hD, hNw⟩, hpx⟩, hnc⟩ := hv
  have hts0 := atoms_spec (ws := zwmW y cc nL (some .int) hh) B.pre
  have hts : ∀ w ∈ wsL_law, w.before _ s = true := fun w h => hts0 w (List.mem_cons_of_mem _ h)
  have hown : s.vm.findClass y.cls = some m.cls := findClass_of_methodNamed B.named
  have htab := vx_table (x := y) B (hts0 _ List.mem_cons_self)
  have hl := lv_entry as (n := nL) hlen
  rw [lg_entry_eq]
  exact body p e s m below meth c ⟨⟨B.exec, B.bytes, hml, hown, hts⟩, B.returns, B.notSynchronized, hK, hNw⟩ hpx hnc htab _ hl ⟨hP, hD.weaken (fun k q hq _ => by obtain ⟨hk, rfl⟩ := zwl_key hq; exact ⟨k, hk, rfl⟩), va_S.rf⟩
section ZW
variable {p : Program} {l : Launch} {e : Env} {R : Room} {s : State} {m : MethodId} {args : Array Value} {below : List Frame} {meth : Method} {c : Code} {H : Heap} {locs : List Loc} {cells slots : Nat} {Q : State → Prop}
variable {own : String} {cc : ByteArray} {nL : Nat} {ret : Option FieldType} {g : zgeo} {σ : zmem} {A : Nat → Prop} {H0 : Heap} {pc : Nat} {ls : Array Slot} {rest : List Value}
variable {y : MethodName} {cy : ByteArray} {nY idx k f n : Nat} {rY : Option FieldType} {as st : List Value} {r : zRX}
theorem zrunX (M : zMC own cc nL ret g p m c s args meth) (hpx : zPx g s) (I : zIV g σ (zAA g) s.heap H locs) {i ci : Nat} {C : String} {T : u_T} {N : Nat} (hM : zCx r l g y cy nY rY f n (.ref (zA g i) :: as) σ) (hi : zkd i = (ci, 0)) (hc : vwCl[ci]? = some (C, T, N)) (hci : ci < 100) (hL : zLV own idx C y cy nY rY k)
    (hR : f + 1 ≤ R.frames ∧ 8 + (nY + 11) + n ≤ R.locals) (hcs : cells + 1 ≤ R.cells ∧ slots + 6 ≤ R.slots) (hlen : as.length = k) (hst : st = as.reverse ++ .ref (zA g i) :: rest) (hcat : (rest.map fun v => v.category).sum ≤ 8) (hls : ls.size = nL) (hdg : decode cc pc = .ok (.invokevirtual idx, 3)) :
    vx_Run p l e R s m args below meth c H locs cells slots 1 6 (F0 m pc ls st) rest (zQX g r (Value.ref (zA g i) :: as).toArray) (zXX g r) (zAA g) := by
  obtain ⟨⟨hx, hb, hml, hown, hts⟩, -, -, hK, hNw⟩ := M
  have he := zwl_get (g := g) (σ := σ) (zkd_lt hi (by omega))
  rw [zce_ob hi hci] at he
  exact vx_runV (C := C) ⟨hx, hb, hml, hown, hts⟩ hM (cwV k hts (zLV_in hL) rfl rfl rfl hL.2 hR) ⟨zblindX, va_recv hK I.1 hc he, fun U hU hW => ⟨rfl, zPW_of hK hNw I hU hW, hpx.moved hW (fun q h1 h2 => by rw [hU]; exact I.2.2.2.1 q h1 h2)⟩⟩ rfl hlen hls hst (lv_room hcat) hdg hcs
theorem zcallX (M : zMC own cc nL ret g p m c s args meth) (I : zIV g σ A H0 H locs) {a : Array Value} (hr : vx_Run p l e R s m args below meth c H locs cells slots 1 6 (F0 m pc ls st) rest (zQX g r a) (zXX g r) (zAA g))
    (kx : ∀ k, k < 3 → r.1 = .inl k → ∀ (H : Heap) (locs : List Loc) (ce : Cell) (q9 : Addr), zIV g r.2 A H0 H locs → H[q9]? = some ce → ce.vm = .none → s.vm.findClass (zEx k) = some ce.cls → vx_W p l e R s m args below meth c H locs (cells + 1) (slots + 6) Q (F0 m pc ls rest) q9)
    (kk : ∀ v, r.1 = .inr v → ∀ (H : Heap) (locs : List Loc), zIV g r.2 A H0 H locs → W p l e R s m args below meth c H locs (cells + 1) (slots + 6) Q (F0 m (pc + 3) ls (.int v :: rest))) : W p l e R s m args below meth c H locs cells slots Q (F0 m pc ls st) := by
  refine vx_calli hr I.2.2 (fun q _ h => I.app q h) (fun q h => I.app q h) (fun q _ h => I.app q h) ?_ ?_
  · intro E ce q9 u t H1 locs1 ht hvm hpx hB hz hk hS h1 h2 h3
    obtain ⟨⟨k, hk3, hk1, rfl⟩, hB1, hB2⟩ := hB
    rw [ht] at hB1
    exact kx k hk3 hk1 H1 locs1 ce q9 ⟨hB1, hB2.weaken (fun k q hq _ => by obtain ⟨hk, rfl⟩ := zwl_key hq; exact I.2.1.2 k (zA g k, zce g σ k) (zwl_get hk)), hS⟩ h1 h2 h3
  · intro r' u t H1 locs1 ht hvm hw hB hz hk hS
    exact kk r' hw H1 locs1 (zIV_call M.2.2.2.1 I ht hB hS)
theorem zretW (M : zMC own cc nL (some .int) g p m c s args meth) (I : zIV g σ (zAA g) s.heap H locs) {v : Int32} {q : Int32 × zmem} (h : q = (v, σ)) (hdg : decode cc pc = .ok (.ireturn, 1)) : W p l e R s m args below meth c H locs 1 6 (MQ below (zQI g q.1 q.2) args s 1 6 (zAA g)) (F0 m pc ls [.int v]) := by
  subst h
  obtain ⟨⟨hx, hb, hml, hown, hts⟩, hr, hlocks, hK, hNw⟩ := M
  exact W.iret hx hb hr (fun t ht hW => ⟨⟨v, (), rfl, rfl, zPW_of hK hNw I ht hW⟩, I.2.2.F ht⟩) I.2.2.2.2 hdg hlocks
end ZW
/-- what is past: an earlier row of the table, whose class isn't this one's -/
theorem zpass {s : State} {args : Array Value} {z : ExceptionTableEntry} {k j : Nat} (hn : zNc s) (hts : ∀ w ∈ wsL_law, w.before args s = true) (hjk : j < k) (hk : k < 3) (h0 : z.catchType ≠ 0) (hl : Cond.classLink RL z.catchType (zEx j) ∈ wsL_law) : z.catchType ≠ 0 ∧ ∃ nm : String, (Cond.classLink RL z.catchType nm).before args s = true ∧ va_Nc (zEx k) nm s := by
  refine ⟨h0, zEx j, hts _ hl, ?_⟩
  rcases (show (j = 0 ∧ k = 1) ∨ (j = 0 ∧ k = 2) ∨ (j = 1 ∧ k = 2) by omega) with ⟨rfl, rfl⟩ | ⟨rfl, rfl⟩ | ⟨rfl, rfl⟩
  · exact hn.1
  · exact hn.2.1
  · exact hn.2.2
def m_L_put (fu : Nat) (σ : zmem) (a1 : Int32) (a2 : Int32) (a3 : Int32) : Option (Int32 × zmem) := (m_X10_put fu σ a1 a2 a3).bind fun x => match x.1 with | .inl k => (if k = 0 then some ((1 : Int32), x.2) else if k = 1 then some ((2 : Int32), x.2) else if k = 2 then some ((3 : Int32), x.2) else none) | .inr v => (zwL x.2 124 0 v.toInt64).bind fun s => some ((0 : Int32), s)
set_option maxHeartbeats 4000000 in
set_option maxRecDepth 100000 in
theorem c_L_put (l : Launch) (hl0 : l.stackTraces = false) (g : zgeo) (fu : Nat) {σ : zmem} {a1 : Int32} {a2 : Int32} {a3 : Int32} {r : Int32 × zmem} (hr : m_L_put fu σ a1 a2 a3 = some r) : zCw l g yL_put cL_put 6 [(0, 12, 15, 13), (0, 12, 19, 15), (0, 12, 23, 17)] 7 109 [.ref (zA g 0), .int a1, .int a2, .int a3, .ref (zA g 124)] σ r := by
  refine zopenW (by decide) (Nat.le_of_ble_eq_true rfl) ?_
  intro p e s m below meth c M hpx hnc htab ls hl I
  have M : zMC RL cL_put 6 (some .int) g p m c s ([.ref (zA g 0), .int a1, .int a2, .int a3, .ref (zA g 124)] : List Value).toArray meth := M
  have hl : lv_has ls 6 [(0, .ref (zA g 0)), (1, .int a1), (2, .int a2), (3, .int a3), (4, .ref (zA g 124))] := hl
  generalize ([.ref (zA g 0), .int a1, .int a2, .int a3, .ref (zA g 124)] : List Value).toArray = args at M ⊢
  have hx := M.1.1
  have hb := M.1.2.1
  have hts := M.1.2.2.2.2
  have hown := M.1.2.2.2.1
  unfold m_L_put at hr
  obtain ⟨x, e_x, hr⟩ := zb_some hr
  refine lv_aload hx hb dL_put_0 (lv_at hl 4 rfl) ?_
  refine lv_iconst (v := (0 : Int32)) hx hb dL_put_2 (by decide) ?_
  refine lv_aload_n hx hb dL_put_3 rfl (lv_at hl 0 rfl) ?_
  refine lv_iload_n hx hb dL_put_4 rfl (lv_at hl 1 rfl) ?_
  refine lv_iload_n hx hb dL_put_5 rfl (lv_at hl 2 rfl) ?_
  refine lv_iload_n hx hb dL_put_6 rfl (lv_at hl 3 rfl) ?_
  refine zcallX M I (zrunX (as := [.int a1, .int a2, .int a3]) M hpx I (c_X10_put l hl0 g fu e_x) zc_0 zK10.1 (by decide) zlv_L_7 ⟨Nat.le_of_ble_eq_true rfl, Nat.le_of_ble_eq_true rfl⟩ ⟨Nat.le_refl _, Nat.le_refl _⟩ rfl rfl (Nat.le_of_ble_eq_true rfl) hl.1 dL_put_7) (fun k hk hk1 H locs ce q9 I hce hcv hcl => ?_) (fun v hv H locs I => ?_)
  · rw [hk1] at hr
    dsimp only at hr
    by_cases hk0 : k = 0
    · subst hk0
      have hr := zif_t hr rfl
      refine vx_catch (own := RL) (name := zEx 0) hown [] ⟨0, 12, 15, 13⟩ [⟨0, 12, 19, 15⟩, ⟨0, 12, 23, 17⟩] (htab.trans rfl) (fun z hz => by cases hz) (by decide) (by decide) (hts _ (zin (i := 720) (by decide +kernel) rfl)) (va_Nw.use rfl (hpx.2.2.2.1 0)) hce hcv hcl ?_
      refine lv_astore (lv' := [(5, .ref q9), (0, .ref (zA g 0)), (1, .int a1), (2, .int a2), (3, .int a3), (4, .ref (zA g 124))]) hx hb dL_put_15 hl (by decide) rfl (fun ls hl => ?_)
      refine lv_iconst (v := (1 : Int32)) hx hb dL_put_17 (by decide) ?_
      exact zretW M I (Option.some.inj hr).symm dL_put_18
    have hr := zif_f hr hk0
    by_cases hk1 : k = 1
    · subst hk1
      have hr := zif_t hr rfl
      refine vx_catch (own := RL) (name := zEx 1) hown [⟨0, 12, 15, 13⟩] ⟨0, 12, 19, 15⟩ [⟨0, 12, 23, 17⟩] (htab.trans rfl) (fun z hz => by
        simp only [List.mem_cons, List.not_mem_nil, or_false] at hz
        rcases hz with rfl
        · exact Or.inr (zpass (j := 0) hnc hts (by decide) (by decide) (by decide) (zin (i := 720) (by decide +kernel) rfl))) (by decide) (by decide) (hts _ (zin (i := 721) (by decide +kernel) rfl)) (va_Nw.use rfl (hpx.2.2.2.1 1)) hce hcv hcl ?_
      refine lv_astore (lv' := [(5, .ref q9), (0, .ref (zA g 0)), (1, .int a1), (2, .int a2), (3, .int a3), (4, .ref (zA g 124))]) hx hb dL_put_19 hl (by decide) rfl (fun ls hl => ?_)
      refine lv_iconst (v := (2 : Int32)) hx hb dL_put_21 (by decide) ?_
      exact zretW M I (Option.some.inj hr).symm dL_put_22
    have hr := zif_f hr hk1
    by_cases hk2 : k = 2
    · subst hk2
      have hr := zif_t hr rfl
      refine vx_catch (own := RL) (name := zEx 2) hown [⟨0, 12, 15, 13⟩, ⟨0, 12, 19, 15⟩] ⟨0, 12, 23, 17⟩ [] (htab.trans rfl) (fun z hz => by
        simp only [List.mem_cons, List.not_mem_nil, or_false] at hz
        rcases hz with rfl | rfl
        · exact Or.inr (zpass (j := 0) hnc hts (by decide) (by decide) (by decide) (zin (i := 720) (by decide +kernel) rfl))
        · exact Or.inr (zpass (j := 1) hnc hts (by decide) (by decide) (by decide) (zin (i := 721) (by decide +kernel) rfl))) (by decide) (by decide) (hts _ (zin (i := 722) (by decide +kernel) rfl)) (va_Nw.use rfl (hpx.2.2.2.1 2)) hce hcv hcl ?_
      refine lv_astore (lv' := [(5, .ref q9), (0, .ref (zA g 0)), (1, .int a1), (2, .int a2), (3, .int a3), (4, .ref (zA g 124))]) hx hb dL_put_23 hl (by decide) rfl (fun ls hl => ?_)
      refine lv_iconst (v := (3 : Int32)) hx hb dL_put_25 (by decide) ?_
      exact zretW M I (Option.some.inj hr).symm dL_put_26
    have hr := zif_f hr hk2
    cases hr
  · rw [hv] at hr
    dsimp only at hr
    obtain ⟨s1, e_s1, hr⟩ := zb_some hr
    refine lv_i2l (v := v.toInt64) hx hb dL_put_10 rfl ?_
    refine zlast M I zc_124 e_s1 dL_put_11 (fun H locs I => ?_)
    refine lv_goto (tgt := 27) hx hb dL_put_12 (by decide) ?_
    refine lv_iconst (v := (0 : Int32)) hx hb dL_put_27 (by decide) ?_
    exact zretW M I (Option.some.inj hr).symm dL_put_28
def m_L_take (fu : Nat) (σ : zmem) (a1 : Int32) (a2 : Int32) (a3 : Int32) : Option (Int32 × zmem) := (m_X10_take fu σ a1 a2 a3).bind fun x => match x.1 with | .inl k => (if k = 0 then some ((1 : Int32), x.2) else if k = 1 then some ((2 : Int32), x.2) else none) | .inr v => (zwL x.2 124 0 v.toInt64).bind fun s => some ((0 : Int32), s)
set_option maxHeartbeats 4000000 in
set_option maxRecDepth 100000 in
theorem c_L_take (l : Launch) (hl0 : l.stackTraces = false) (g : zgeo) (fu : Nat) {σ : zmem} {a1 : Int32} {a2 : Int32} {a3 : Int32} {r : Int32 × zmem} (hr : m_L_take fu σ a1 a2 a3 = some r) : zCw l g yL_take cL_take 6 [(0, 12, 15, 13), (0, 12, 19, 15)] 7 109 [.ref (zA g 0), .int a1, .int a2, .int a3, .ref (zA g 124)] σ r := by
  refine zopenW (by decide) (Nat.le_of_ble_eq_true rfl) ?_
  intro p e s m below meth c M hpx hnc htab ls hl I
  have M : zMC RL cL_take 6 (some .int) g p m c s ([.ref (zA g 0), .int a1, .int a2, .int a3, .ref (zA g 124)] : List Value).toArray meth := M
  have hl : lv_has ls 6 [(0, .ref (zA g 0)), (1, .int a1), (2, .int a2), (3, .int a3), (4, .ref (zA g 124))] := hl
  generalize ([.ref (zA g 0), .int a1, .int a2, .int a3, .ref (zA g 124)] : List Value).toArray = args at M ⊢
  have hx := M.1.1
  have hb := M.1.2.1
  have hts := M.1.2.2.2.2
  have hown := M.1.2.2.2.1
  unfold m_L_take at hr
  obtain ⟨x, e_x, hr⟩ := zb_some hr
  refine lv_aload hx hb dL_take_0 (lv_at hl 4 rfl) ?_
  refine lv_iconst (v := (0 : Int32)) hx hb dL_take_2 (by decide) ?_
  refine lv_aload_n hx hb dL_take_3 rfl (lv_at hl 0 rfl) ?_
  refine lv_iload_n hx hb dL_take_4 rfl (lv_at hl 1 rfl) ?_
  refine lv_iload_n hx hb dL_take_5 rfl (lv_at hl 2 rfl) ?_
  refine lv_iload_n hx hb dL_take_6 rfl (lv_at hl 3 rfl) ?_
  refine zcallX M I (zrunX (as := [.int a1, .int a2, .int a3]) M hpx I (c_X10_take l hl0 g fu e_x) zc_0 zK10.1 (by decide) zlv_L_19 ⟨Nat.le_of_ble_eq_true rfl, Nat.le_of_ble_eq_true rfl⟩ ⟨Nat.le_refl _, Nat.le_refl _⟩ rfl rfl (Nat.le_of_ble_eq_true rfl) hl.1 dL_take_7) (fun k hk hk1 H locs ce q9 I hce hcv hcl => ?_) (fun v hv H locs I => ?_)
  · rw [hk1] at hr
    dsimp only at hr
    by_cases hk0 : k = 0
    · subst hk0
      have hr := zif_t hr rfl
      refine vx_catch (own := RL) (name := zEx 0) hown [] ⟨0, 12, 15, 13⟩ [⟨0, 12, 19, 15⟩] (htab.trans rfl) (fun z hz => by cases hz) (by decide) (by decide) (hts _ (zin (i := 720) (by decide +kernel) rfl)) (va_Nw.use rfl (hpx.2.2.2.1 0)) hce hcv hcl ?_
      refine lv_astore (lv' := [(5, .ref q9), (0, .ref (zA g 0)), (1, .int a1), (2, .int a2), (3, .int a3), (4, .ref (zA g 124))]) hx hb dL_take_15 hl (by decide) rfl (fun ls hl => ?_)
      refine lv_iconst (v := (1 : Int32)) hx hb dL_take_17 (by decide) ?_
      exact zretW M I (Option.some.inj hr).symm dL_take_18
    have hr := zif_f hr hk0
    by_cases hk1 : k = 1
    · subst hk1
      have hr := zif_t hr rfl
      refine vx_catch (own := RL) (name := zEx 1) hown [⟨0, 12, 15, 13⟩] ⟨0, 12, 19, 15⟩ [] (htab.trans rfl) (fun z hz => by
        simp only [List.mem_cons, List.not_mem_nil, or_false] at hz
        rcases hz with rfl
        · exact Or.inr (zpass (j := 0) hnc hts (by decide) (by decide) (by decide) (zin (i := 720) (by decide +kernel) rfl))) (by decide) (by decide) (hts _ (zin (i := 721) (by decide +kernel) rfl)) (va_Nw.use rfl (hpx.2.2.2.1 1)) hce hcv hcl ?_
      refine lv_astore (lv' := [(5, .ref q9), (0, .ref (zA g 0)), (1, .int a1), (2, .int a2), (3, .int a3), (4, .ref (zA g 124))]) hx hb dL_take_19 hl (by decide) rfl (fun ls hl => ?_)
      refine lv_iconst (v := (2 : Int32)) hx hb dL_take_21 (by decide) ?_
      exact zretW M I (Option.some.inj hr).symm dL_take_22
    have hr := zif_f hr hk1
    cases hr
  · rw [hv] at hr
    dsimp only at hr
    obtain ⟨s1, e_s1, hr⟩ := zb_some hr
    refine lv_i2l (v := v.toInt64) hx hb dL_take_10 rfl ?_
    refine zlast M I zc_124 e_s1 dL_take_11 (fun H locs I => ?_)
    refine lv_goto (tgt := 23) hx hb dL_take_12 (by decide) ?_
    refine lv_iconst (v := (0 : Int32)) hx hb dL_take_23 (by decide) ?_
    exact zretW M I (Option.some.inj hr).symm dL_take_24
def m_L_change (fu : Nat) (σ : zmem) (a1 : Int32) (a2 : Int32) (a3 : Int32) : Option (Int32 × zmem) := (m_X10_change fu σ a1 a2 a3).bind fun x => match x.1 with | .inl k => (if k = 0 then some ((1 : Int32), x.2) else if k = 1 then some ((2 : Int32), x.2) else none) | .inr v => (zwL x.2 124 0 v.toInt64).bind fun s => some ((0 : Int32), s)
set_option maxHeartbeats 4000000 in
set_option maxRecDepth 100000 in
theorem c_L_change (l : Launch) (hl0 : l.stackTraces = false) (g : zgeo) (fu : Nat) {σ : zmem} {a1 : Int32} {a2 : Int32} {a3 : Int32} {r : Int32 × zmem} (hr : m_L_change fu σ a1 a2 a3 = some r) : zCw l g yL_change cL_change 6 [(0, 12, 15, 13), (0, 12, 19, 15)] 7 110 [.ref (zA g 0), .int a1, .int a2, .int a3, .ref (zA g 124)] σ r := by
  refine zopenW (by decide) (Nat.le_of_ble_eq_true rfl) ?_
  intro p e s m below meth c M hpx hnc htab ls hl I
  have M : zMC RL cL_change 6 (some .int) g p m c s ([.ref (zA g 0), .int a1, .int a2, .int a3, .ref (zA g 124)] : List Value).toArray meth := M
  have hl : lv_has ls 6 [(0, .ref (zA g 0)), (1, .int a1), (2, .int a2), (3, .int a3), (4, .ref (zA g 124))] := hl
  generalize ([.ref (zA g 0), .int a1, .int a2, .int a3, .ref (zA g 124)] : List Value).toArray = args at M ⊢
  have hx := M.1.1
  have hb := M.1.2.1
  have hts := M.1.2.2.2.2
  have hown := M.1.2.2.2.1
  unfold m_L_change at hr
  obtain ⟨x, e_x, hr⟩ := zb_some hr
  refine lv_aload hx hb dL_change_0 (lv_at hl 4 rfl) ?_
  refine lv_iconst (v := (0 : Int32)) hx hb dL_change_2 (by decide) ?_
  refine lv_aload_n hx hb dL_change_3 rfl (lv_at hl 0 rfl) ?_
  refine lv_iload_n hx hb dL_change_4 rfl (lv_at hl 1 rfl) ?_
  refine lv_iload_n hx hb dL_change_5 rfl (lv_at hl 2 rfl) ?_
  refine lv_iload_n hx hb dL_change_6 rfl (lv_at hl 3 rfl) ?_
  refine zcallX M I (zrunX (as := [.int a1, .int a2, .int a3]) M hpx I (c_X10_change l hl0 g fu e_x) zc_0 zK10.1 (by decide) zlv_L_22 ⟨Nat.le_of_ble_eq_true rfl, Nat.le_of_ble_eq_true rfl⟩ ⟨Nat.le_refl _, Nat.le_refl _⟩ rfl rfl (Nat.le_of_ble_eq_true rfl) hl.1 dL_change_7) (fun k hk hk1 H locs ce q9 I hce hcv hcl => ?_) (fun v hv H locs I => ?_)
  · rw [hk1] at hr
    dsimp only at hr
    by_cases hk0 : k = 0
    · subst hk0
      have hr := zif_t hr rfl
      refine vx_catch (own := RL) (name := zEx 0) hown [] ⟨0, 12, 15, 13⟩ [⟨0, 12, 19, 15⟩] (htab.trans rfl) (fun z hz => by cases hz) (by decide) (by decide) (hts _ (zin (i := 720) (by decide +kernel) rfl)) (va_Nw.use rfl (hpx.2.2.2.1 0)) hce hcv hcl ?_
      refine lv_astore (lv' := [(5, .ref q9), (0, .ref (zA g 0)), (1, .int a1), (2, .int a2), (3, .int a3), (4, .ref (zA g 124))]) hx hb dL_change_15 hl (by decide) rfl (fun ls hl => ?_)
      refine lv_iconst (v := (1 : Int32)) hx hb dL_change_17 (by decide) ?_
      exact zretW M I (Option.some.inj hr).symm dL_change_18
    have hr := zif_f hr hk0
    by_cases hk1 : k = 1
    · subst hk1
      have hr := zif_t hr rfl
      refine vx_catch (own := RL) (name := zEx 1) hown [⟨0, 12, 15, 13⟩] ⟨0, 12, 19, 15⟩ [] (htab.trans rfl) (fun z hz => by
        simp only [List.mem_cons, List.not_mem_nil, or_false] at hz
        rcases hz with rfl
        · exact Or.inr (zpass (j := 0) hnc hts (by decide) (by decide) (by decide) (zin (i := 720) (by decide +kernel) rfl))) (by decide) (by decide) (hts _ (zin (i := 721) (by decide +kernel) rfl)) (va_Nw.use rfl (hpx.2.2.2.1 1)) hce hcv hcl ?_
      refine lv_astore (lv' := [(5, .ref q9), (0, .ref (zA g 0)), (1, .int a1), (2, .int a2), (3, .int a3), (4, .ref (zA g 124))]) hx hb dL_change_19 hl (by decide) rfl (fun ls hl => ?_)
      refine lv_iconst (v := (2 : Int32)) hx hb dL_change_21 (by decide) ?_
      exact zretW M I (Option.some.inj hr).symm dL_change_22
    have hr := zif_f hr hk1
    cases hr
  · rw [hv] at hr
    dsimp only at hr
    obtain ⟨s1, e_s1, hr⟩ := zb_some hr
    refine lv_i2l (v := v.toInt64) hx hb dL_change_10 rfl ?_
    refine zlast M I zc_124 e_s1 dL_change_11 (fun H locs I => ?_)
    refine lv_goto (tgt := 23) hx hb dL_change_12 (by decide) ?_
    refine lv_iconst (v := (0 : Int32)) hx hb dL_change_23 (by decide) ?_
    exact zretW M I (Option.some.inj hr).symm dL_change_24
def m_L_turn (fu : Nat) (σ : zmem) (a1 : Int32) (a2 : Int32) (a3 : Int32) : Option (Int32 × zmem) := (m_X10_turn fu σ a1 a2 a3).bind fun x => match x.1 with | .inl k => (if k = 0 then some ((1 : Int32), x.2) else if k = 1 then some ((2 : Int32), x.2) else none) | .inr v => (zwL x.2 124 0 v.toInt64).bind fun s => some ((0 : Int32), s)
set_option maxHeartbeats 4000000 in
set_option maxRecDepth 100000 in
theorem c_L_turn (l : Launch) (hl0 : l.stackTraces = false) (g : zgeo) (fu : Nat) {σ : zmem} {a1 : Int32} {a2 : Int32} {a3 : Int32} {r : Int32 × zmem} (hr : m_L_turn fu σ a1 a2 a3 = some r) : zCw l g yL_turn cL_turn 6 [(0, 12, 15, 13), (0, 12, 19, 15)] 7 109 [.ref (zA g 0), .int a1, .int a2, .int a3, .ref (zA g 124)] σ r := by
  refine zopenW (by decide) (Nat.le_of_ble_eq_true rfl) ?_
  intro p e s m below meth c M hpx hnc htab ls hl I
  have M : zMC RL cL_turn 6 (some .int) g p m c s ([.ref (zA g 0), .int a1, .int a2, .int a3, .ref (zA g 124)] : List Value).toArray meth := M
  have hl : lv_has ls 6 [(0, .ref (zA g 0)), (1, .int a1), (2, .int a2), (3, .int a3), (4, .ref (zA g 124))] := hl
  generalize ([.ref (zA g 0), .int a1, .int a2, .int a3, .ref (zA g 124)] : List Value).toArray = args at M ⊢
  have hx := M.1.1
  have hb := M.1.2.1
  have hts := M.1.2.2.2.2
  have hown := M.1.2.2.2.1
  unfold m_L_turn at hr
  obtain ⟨x, e_x, hr⟩ := zb_some hr
  refine lv_aload hx hb dL_turn_0 (lv_at hl 4 rfl) ?_
  refine lv_iconst (v := (0 : Int32)) hx hb dL_turn_2 (by decide) ?_
  refine lv_aload_n hx hb dL_turn_3 rfl (lv_at hl 0 rfl) ?_
  refine lv_iload_n hx hb dL_turn_4 rfl (lv_at hl 1 rfl) ?_
  refine lv_iload_n hx hb dL_turn_5 rfl (lv_at hl 2 rfl) ?_
  refine lv_iload_n hx hb dL_turn_6 rfl (lv_at hl 3 rfl) ?_
  refine zcallX M I (zrunX (as := [.int a1, .int a2, .int a3]) M hpx I (c_X10_turn l hl0 g fu e_x) zc_0 zK10.1 (by decide) zlv_L_25 ⟨Nat.le_of_ble_eq_true rfl, Nat.le_of_ble_eq_true rfl⟩ ⟨Nat.le_refl _, Nat.le_refl _⟩ rfl rfl (Nat.le_of_ble_eq_true rfl) hl.1 dL_turn_7) (fun k hk hk1 H locs ce q9 I hce hcv hcl => ?_) (fun v hv H locs I => ?_)
  · rw [hk1] at hr
    dsimp only at hr
    by_cases hk0 : k = 0
    · subst hk0
      have hr := zif_t hr rfl
      refine vx_catch (own := RL) (name := zEx 0) hown [] ⟨0, 12, 15, 13⟩ [⟨0, 12, 19, 15⟩] (htab.trans rfl) (fun z hz => by cases hz) (by decide) (by decide) (hts _ (zin (i := 720) (by decide +kernel) rfl)) (va_Nw.use rfl (hpx.2.2.2.1 0)) hce hcv hcl ?_
      refine lv_astore (lv' := [(5, .ref q9), (0, .ref (zA g 0)), (1, .int a1), (2, .int a2), (3, .int a3), (4, .ref (zA g 124))]) hx hb dL_turn_15 hl (by decide) rfl (fun ls hl => ?_)
      refine lv_iconst (v := (1 : Int32)) hx hb dL_turn_17 (by decide) ?_
      exact zretW M I (Option.some.inj hr).symm dL_turn_18
    have hr := zif_f hr hk0
    by_cases hk1 : k = 1
    · subst hk1
      have hr := zif_t hr rfl
      refine vx_catch (own := RL) (name := zEx 1) hown [⟨0, 12, 15, 13⟩] ⟨0, 12, 19, 15⟩ [] (htab.trans rfl) (fun z hz => by
        simp only [List.mem_cons, List.not_mem_nil, or_false] at hz
        rcases hz with rfl
        · exact Or.inr (zpass (j := 0) hnc hts (by decide) (by decide) (by decide) (zin (i := 720) (by decide +kernel) rfl))) (by decide) (by decide) (hts _ (zin (i := 721) (by decide +kernel) rfl)) (va_Nw.use rfl (hpx.2.2.2.1 1)) hce hcv hcl ?_
      refine lv_astore (lv' := [(5, .ref q9), (0, .ref (zA g 0)), (1, .int a1), (2, .int a2), (3, .int a3), (4, .ref (zA g 124))]) hx hb dL_turn_19 hl (by decide) rfl (fun ls hl => ?_)
      refine lv_iconst (v := (2 : Int32)) hx hb dL_turn_21 (by decide) ?_
      exact zretW M I (Option.some.inj hr).symm dL_turn_22
    have hr := zif_f hr hk1
    cases hr
  · rw [hv] at hr
    dsimp only at hr
    obtain ⟨s1, e_s1, hr⟩ := zb_some hr
    refine lv_i2l (v := v.toInt64) hx hb dL_turn_10 rfl ?_
    refine zlast M I zc_124 e_s1 dL_turn_11 (fun H locs I => ?_)
    refine lv_goto (tgt := 23) hx hb dL_turn_12 (by decide) ?_
    refine lv_iconst (v := (0 : Int32)) hx hb dL_turn_23 (by decide) ?_
    exact zretW M I (Option.some.inj hr).symm dL_turn_24
def m_L_copy (fu : Nat) (σ : zmem) (a1 : Int32) (a2 : Int32) (a3 : Int32) (a4 : Int32) : Option (Int32 × zmem) := (m_X10_copy fu σ a1 a2 a3 a4).bind fun x => match x.1 with | .inl k => (if k = 0 then some ((1 : Int32), x.2) else if k = 1 then some ((2 : Int32), x.2) else if k = 2 then some ((3 : Int32), x.2) else none) | .inr v => (zwL x.2 124 0 v.toInt64).bind fun s => some ((0 : Int32), s)
set_option maxHeartbeats 4000000 in
set_option maxRecDepth 100000 in
theorem c_L_copy (l : Launch) (hl0 : l.stackTraces = false) (g : zgeo) (fu : Nat) {σ : zmem} {a1 : Int32} {a2 : Int32} {a3 : Int32} {a4 : Int32} {r : Int32 × zmem} (hr : m_L_copy fu σ a1 a2 a3 a4 = some r) : zCw l g yL_copy cL_copy 7 [(0, 14, 17, 13), (0, 14, 21, 15), (0, 14, 25, 17)] 7 111 [.ref (zA g 0), .int a1, .int a2, .int a3, .int a4, .ref (zA g 124)] σ r := by
  refine zopenW (by decide) (Nat.le_of_ble_eq_true rfl) ?_
  intro p e s m below meth c M hpx hnc htab ls hl I
  have M : zMC RL cL_copy 7 (some .int) g p m c s ([.ref (zA g 0), .int a1, .int a2, .int a3, .int a4, .ref (zA g 124)] : List Value).toArray meth := M
  have hl : lv_has ls 7 [(0, .ref (zA g 0)), (1, .int a1), (2, .int a2), (3, .int a3), (4, .int a4), (5, .ref (zA g 124))] := hl
  generalize ([.ref (zA g 0), .int a1, .int a2, .int a3, .int a4, .ref (zA g 124)] : List Value).toArray = args at M ⊢
  have hx := M.1.1
  have hb := M.1.2.1
  have hts := M.1.2.2.2.2
  have hown := M.1.2.2.2.1
  unfold m_L_copy at hr
  obtain ⟨x, e_x, hr⟩ := zb_some hr
  refine lv_aload hx hb dL_copy_0 (lv_at hl 5 rfl) ?_
  refine lv_iconst (v := (0 : Int32)) hx hb dL_copy_2 (by decide) ?_
  refine lv_aload_n hx hb dL_copy_3 rfl (lv_at hl 0 rfl) ?_
  refine lv_iload_n hx hb dL_copy_4 rfl (lv_at hl 1 rfl) ?_
  refine lv_iload_n hx hb dL_copy_5 rfl (lv_at hl 2 rfl) ?_
  refine lv_iload_n hx hb dL_copy_6 rfl (lv_at hl 3 rfl) ?_
  refine lv_iload hx hb dL_copy_7 (lv_at hl 4 rfl) ?_
  refine zcallX M I (zrunX (as := [.int a1, .int a2, .int a3, .int a4]) M hpx I (c_X10_copy l hl0 g fu e_x) zc_0 zK10.1 (by decide) zlv_L_28 ⟨Nat.le_of_ble_eq_true rfl, Nat.le_of_ble_eq_true rfl⟩ ⟨Nat.le_refl _, Nat.le_refl _⟩ rfl rfl (Nat.le_of_ble_eq_true rfl) hl.1 dL_copy_9) (fun k hk hk1 H locs ce q9 I hce hcv hcl => ?_) (fun v hv H locs I => ?_)
  · rw [hk1] at hr
    dsimp only at hr
    by_cases hk0 : k = 0
    · subst hk0
      have hr := zif_t hr rfl
      refine vx_catch (own := RL) (name := zEx 0) hown [] ⟨0, 14, 17, 13⟩ [⟨0, 14, 21, 15⟩, ⟨0, 14, 25, 17⟩] (htab.trans rfl) (fun z hz => by cases hz) (by decide) (by decide) (hts _ (zin (i := 720) (by decide +kernel) rfl)) (va_Nw.use rfl (hpx.2.2.2.1 0)) hce hcv hcl ?_
      refine lv_astore (lv' := [(6, .ref q9), (0, .ref (zA g 0)), (1, .int a1), (2, .int a2), (3, .int a3), (4, .int a4), (5, .ref (zA g 124))]) hx hb dL_copy_17 hl (by decide) rfl (fun ls hl => ?_)
      refine lv_iconst (v := (1 : Int32)) hx hb dL_copy_19 (by decide) ?_
      exact zretW M I (Option.some.inj hr).symm dL_copy_20
    have hr := zif_f hr hk0
    by_cases hk1 : k = 1
    · subst hk1
      have hr := zif_t hr rfl
      refine vx_catch (own := RL) (name := zEx 1) hown [⟨0, 14, 17, 13⟩] ⟨0, 14, 21, 15⟩ [⟨0, 14, 25, 17⟩] (htab.trans rfl) (fun z hz => by
        simp only [List.mem_cons, List.not_mem_nil, or_false] at hz
        rcases hz with rfl
        · exact Or.inr (zpass (j := 0) hnc hts (by decide) (by decide) (by decide) (zin (i := 720) (by decide +kernel) rfl))) (by decide) (by decide) (hts _ (zin (i := 721) (by decide +kernel) rfl)) (va_Nw.use rfl (hpx.2.2.2.1 1)) hce hcv hcl ?_
      refine lv_astore (lv' := [(6, .ref q9), (0, .ref (zA g 0)), (1, .int a1), (2, .int a2), (3, .int a3), (4, .int a4), (5, .ref (zA g 124))]) hx hb dL_copy_21 hl (by decide) rfl (fun ls hl => ?_)
      refine lv_iconst (v := (2 : Int32)) hx hb dL_copy_23 (by decide) ?_
      exact zretW M I (Option.some.inj hr).symm dL_copy_24
    have hr := zif_f hr hk1
    by_cases hk2 : k = 2
    · subst hk2
      have hr := zif_t hr rfl
      refine vx_catch (own := RL) (name := zEx 2) hown [⟨0, 14, 17, 13⟩, ⟨0, 14, 21, 15⟩] ⟨0, 14, 25, 17⟩ [] (htab.trans rfl) (fun z hz => by
        simp only [List.mem_cons, List.not_mem_nil, or_false] at hz
        rcases hz with rfl | rfl
        · exact Or.inr (zpass (j := 0) hnc hts (by decide) (by decide) (by decide) (zin (i := 720) (by decide +kernel) rfl))
        · exact Or.inr (zpass (j := 1) hnc hts (by decide) (by decide) (by decide) (zin (i := 721) (by decide +kernel) rfl))) (by decide) (by decide) (hts _ (zin (i := 722) (by decide +kernel) rfl)) (va_Nw.use rfl (hpx.2.2.2.1 2)) hce hcv hcl ?_
      refine lv_astore (lv' := [(6, .ref q9), (0, .ref (zA g 0)), (1, .int a1), (2, .int a2), (3, .int a3), (4, .int a4), (5, .ref (zA g 124))]) hx hb dL_copy_25 hl (by decide) rfl (fun ls hl => ?_)
      refine lv_iconst (v := (3 : Int32)) hx hb dL_copy_27 (by decide) ?_
      exact zretW M I (Option.some.inj hr).symm dL_copy_28
    have hr := zif_f hr hk2
    cases hr
  · rw [hv] at hr
    dsimp only at hr
    obtain ⟨s1, e_s1, hr⟩ := zb_some hr
    refine lv_i2l (v := v.toInt64) hx hb dL_copy_12 rfl ?_
    refine zlast M I zc_124 e_s1 dL_copy_13 (fun H locs I => ?_)
    refine lv_goto (tgt := 29) hx hb dL_copy_14 (by decide) ?_
    refine lv_iconst (v := (0 : Int32)) hx hb dL_copy_29 (by decide) ?_
    exact zretW M I (Option.some.inj hr).symm dL_copy_30
def m_L_set (fu : Nat) (σ : zmem) (a1 : Int32) (a2 : Int32) : Option (Int32 × zmem) := (m_X10_set fu σ a1 a2).bind fun x => match x.1 with | .inl k => (if k = 0 then some ((1 : Int32), x.2) else if k = 1 then some ((2 : Int32), x.2) else none) | .inr v => (zwL x.2 124 0 v.toInt64).bind fun s => some ((0 : Int32), s)
set_option maxHeartbeats 4000000 in
set_option maxRecDepth 100000 in
theorem c_L_set (l : Launch) (hl0 : l.stackTraces = false) (g : zgeo) (fu : Nat) {σ : zmem} {a1 : Int32} {a2 : Int32} {r : Int32 × zmem} (hr : m_L_set fu σ a1 a2 = some r) : zCw l g yL_set cL_set 5 [(0, 10, 13, 13), (0, 10, 17, 15)] 7 109 [.ref (zA g 0), .int a1, .int a2, .ref (zA g 124)] σ r := by
  refine zopenW (by decide) (Nat.le_of_ble_eq_true rfl) ?_
  intro p e s m below meth c M hpx hnc htab ls hl I
  have M : zMC RL cL_set 5 (some .int) g p m c s ([.ref (zA g 0), .int a1, .int a2, .ref (zA g 124)] : List Value).toArray meth := M
  have hl : lv_has ls 5 [(0, .ref (zA g 0)), (1, .int a1), (2, .int a2), (3, .ref (zA g 124))] := hl
  generalize ([.ref (zA g 0), .int a1, .int a2, .ref (zA g 124)] : List Value).toArray = args at M ⊢
  have hx := M.1.1
  have hb := M.1.2.1
  have hts := M.1.2.2.2.2
  have hown := M.1.2.2.2.1
  unfold m_L_set at hr
  obtain ⟨x, e_x, hr⟩ := zb_some hr
  refine lv_aload_n hx hb dL_set_0 rfl (lv_at hl 3 rfl) ?_
  refine lv_iconst (v := (0 : Int32)) hx hb dL_set_1 (by decide) ?_
  refine lv_aload_n hx hb dL_set_2 rfl (lv_at hl 0 rfl) ?_
  refine lv_iload_n hx hb dL_set_3 rfl (lv_at hl 1 rfl) ?_
  refine lv_iload_n hx hb dL_set_4 rfl (lv_at hl 2 rfl) ?_
  refine zcallX M I (zrunX (as := [.int a1, .int a2]) M hpx I (c_X10_set l hl0 g fu e_x) zc_0 zK10.1 (by decide) zlv_L_32 ⟨Nat.le_of_ble_eq_true rfl, Nat.le_of_ble_eq_true rfl⟩ ⟨Nat.le_refl _, Nat.le_refl _⟩ rfl rfl (Nat.le_of_ble_eq_true rfl) hl.1 dL_set_5) (fun k hk hk1 H locs ce q9 I hce hcv hcl => ?_) (fun v hv H locs I => ?_)
  · rw [hk1] at hr
    dsimp only at hr
    by_cases hk0 : k = 0
    · subst hk0
      have hr := zif_t hr rfl
      refine vx_catch (own := RL) (name := zEx 0) hown [] ⟨0, 10, 13, 13⟩ [⟨0, 10, 17, 15⟩] (htab.trans rfl) (fun z hz => by cases hz) (by decide) (by decide) (hts _ (zin (i := 720) (by decide +kernel) rfl)) (va_Nw.use rfl (hpx.2.2.2.1 0)) hce hcv hcl ?_
      refine lv_astore (lv' := [(4, .ref q9), (0, .ref (zA g 0)), (1, .int a1), (2, .int a2), (3, .ref (zA g 124))]) hx hb dL_set_13 hl (by decide) rfl (fun ls hl => ?_)
      refine lv_iconst (v := (1 : Int32)) hx hb dL_set_15 (by decide) ?_
      exact zretW M I (Option.some.inj hr).symm dL_set_16
    have hr := zif_f hr hk0
    by_cases hk1 : k = 1
    · subst hk1
      have hr := zif_t hr rfl
      refine vx_catch (own := RL) (name := zEx 1) hown [⟨0, 10, 13, 13⟩] ⟨0, 10, 17, 15⟩ [] (htab.trans rfl) (fun z hz => by
        simp only [List.mem_cons, List.not_mem_nil, or_false] at hz
        rcases hz with rfl
        · exact Or.inr (zpass (j := 0) hnc hts (by decide) (by decide) (by decide) (zin (i := 720) (by decide +kernel) rfl))) (by decide) (by decide) (hts _ (zin (i := 721) (by decide +kernel) rfl)) (va_Nw.use rfl (hpx.2.2.2.1 1)) hce hcv hcl ?_
      refine lv_astore (lv' := [(4, .ref q9), (0, .ref (zA g 0)), (1, .int a1), (2, .int a2), (3, .ref (zA g 124))]) hx hb dL_set_17 hl (by decide) rfl (fun ls hl => ?_)
      refine lv_iconst (v := (2 : Int32)) hx hb dL_set_19 (by decide) ?_
      exact zretW M I (Option.some.inj hr).symm dL_set_20
    have hr := zif_f hr hk1
    cases hr
  · rw [hv] at hr
    dsimp only at hr
    obtain ⟨s1, e_s1, hr⟩ := zb_some hr
    refine lv_i2l (v := v.toInt64) hx hb dL_set_8 rfl ?_
    refine zlast M I zc_124 e_s1 dL_set_9 (fun H locs I => ?_)
    refine lv_goto (tgt := 21) hx hb dL_set_10 (by decide) ?_
    refine lv_iconst (v := (0 : Int32)) hx hb dL_set_21 (by decide) ?_
    exact zretW M I (Option.some.inj hr).symm dL_set_22
def m_L_append (fu : Nat) (σ : zmem) (a1 : Int32) : Option (Int32 × zmem) := (m_X10_append fu σ a1).bind fun x => match x.1 with | .inl k => (if k = 1 then some ((1 : Int32), x.2) else if k = 2 then some ((2 : Int32), x.2) else none) | .inr v => (zwL x.2 124 0 v.toInt64).bind fun s => some ((0 : Int32), s)
set_option maxHeartbeats 4000000 in
set_option maxRecDepth 100000 in
theorem c_L_append (l : Launch) (hl0 : l.stackTraces = false) (g : zgeo) (fu : Nat) {σ : zmem} {a1 : Int32} {r : Int32 × zmem} (hr : m_L_append fu σ a1 = some r) : zCw l g yL_append cL_append 4 [(0, 9, 12, 15), (0, 9, 15, 17)] 7 103 [.ref (zA g 0), .int a1, .ref (zA g 124)] σ r := by
  refine zopenW (by decide) (Nat.le_of_ble_eq_true rfl) ?_
  intro p e s m below meth c M hpx hnc htab ls hl I
  have M : zMC RL cL_append 4 (some .int) g p m c s ([.ref (zA g 0), .int a1, .ref (zA g 124)] : List Value).toArray meth := M
  have hl : lv_has ls 4 [(0, .ref (zA g 0)), (1, .int a1), (2, .ref (zA g 124))] := hl
  generalize ([.ref (zA g 0), .int a1, .ref (zA g 124)] : List Value).toArray = args at M ⊢
  have hx := M.1.1
  have hb := M.1.2.1
  have hts := M.1.2.2.2.2
  have hown := M.1.2.2.2.1
  unfold m_L_append at hr
  obtain ⟨x, e_x, hr⟩ := zb_some hr
  refine lv_aload_n hx hb dL_append_0 rfl (lv_at hl 2 rfl) ?_
  refine lv_iconst (v := (0 : Int32)) hx hb dL_append_1 (by decide) ?_
  refine lv_aload_n hx hb dL_append_2 rfl (lv_at hl 0 rfl) ?_
  refine lv_iload_n hx hb dL_append_3 rfl (lv_at hl 1 rfl) ?_
  refine zcallX M I (zrunX (as := [.int a1]) M hpx I (c_X10_append l hl0 g fu e_x) zc_0 zK10.1 (by decide) zlv_L_36 ⟨Nat.le_of_ble_eq_true rfl, Nat.le_of_ble_eq_true rfl⟩ ⟨Nat.le_refl _, Nat.le_refl _⟩ rfl rfl (Nat.le_of_ble_eq_true rfl) hl.1 dL_append_4) (fun k hk hk1 H locs ce q9 I hce hcv hcl => ?_) (fun v hv H locs I => ?_)
  · rw [hk1] at hr
    dsimp only at hr
    by_cases hk1 : k = 1
    · subst hk1
      have hr := zif_t hr rfl
      refine vx_catch (own := RL) (name := zEx 1) hown [] ⟨0, 9, 12, 15⟩ [⟨0, 9, 15, 17⟩] (htab.trans rfl) (fun z hz => by cases hz) (by decide) (by decide) (hts _ (zin (i := 721) (by decide +kernel) rfl)) (va_Nw.use rfl (hpx.2.2.2.1 1)) hce hcv hcl ?_
      refine lv_astore_n (lv' := [(3, .ref q9), (0, .ref (zA g 0)), (1, .int a1), (2, .ref (zA g 124))]) hx hb dL_append_12 rfl hl (by decide) rfl (fun ls hl => ?_)
      refine lv_iconst (v := (1 : Int32)) hx hb dL_append_13 (by decide) ?_
      exact zretW M I (Option.some.inj hr).symm dL_append_14
    have hr := zif_f hr hk1
    by_cases hk2 : k = 2
    · subst hk2
      have hr := zif_t hr rfl
      refine vx_catch (own := RL) (name := zEx 2) hown [⟨0, 9, 12, 15⟩] ⟨0, 9, 15, 17⟩ [] (htab.trans rfl) (fun z hz => by
        simp only [List.mem_cons, List.not_mem_nil, or_false] at hz
        rcases hz with rfl
        · exact Or.inr (zpass (j := 1) hnc hts (by decide) (by decide) (by decide) (zin (i := 721) (by decide +kernel) rfl))) (by decide) (by decide) (hts _ (zin (i := 722) (by decide +kernel) rfl)) (va_Nw.use rfl (hpx.2.2.2.1 2)) hce hcv hcl ?_
      refine lv_astore_n (lv' := [(3, .ref q9), (0, .ref (zA g 0)), (1, .int a1), (2, .ref (zA g 124))]) hx hb dL_append_15 rfl hl (by decide) rfl (fun ls hl => ?_)
      refine lv_iconst (v := (2 : Int32)) hx hb dL_append_16 (by decide) ?_
      exact zretW M I (Option.some.inj hr).symm dL_append_17
    have hr := zif_f hr hk2
    cases hr
  · rw [hv] at hr
    dsimp only at hr
    obtain ⟨s1, e_s1, hr⟩ := zb_some hr
    refine lv_i2l (v := v.toInt64) hx hb dL_append_7 rfl ?_
    refine zlast M I zc_124 e_s1 dL_append_8 (fun H locs I => ?_)
    refine lv_goto (tgt := 18) hx hb dL_append_9 (by decide) ?_
    refine lv_iconst (v := (0 : Int32)) hx hb dL_append_18 (by decide) ?_
    exact zretW M I (Option.some.inj hr).symm dL_append_19
def m_L_read (fu : Nat) (σ : zmem) : Option (Int32 × zmem) := (m_X10_read fu σ).bind fun x => match x.1 with | .inl k => (if k = 1 then some ((1 : Int32), x.2) else none) | .inr v => (zwL x.2 124 0 v.toInt64).bind fun s => some ((0 : Int32), s)
set_option maxHeartbeats 4000000 in
set_option maxRecDepth 100000 in
theorem c_L_read (l : Launch) (hl0 : l.stackTraces = false) (g : zgeo) (fu : Nat) {σ : zmem} {r : Int32 × zmem} (hr : m_L_read fu σ = some r) : zCw l g yL_read cL_read 3 [(0, 8, 11, 15)] 7 173 [.ref (zA g 0), .ref (zA g 124)] σ r := by
  refine zopenW (by decide) (Nat.le_of_ble_eq_true rfl) ?_
  intro p e s m below meth c M hpx hnc htab ls hl I
  have M : zMC RL cL_read 3 (some .int) g p m c s ([.ref (zA g 0), .ref (zA g 124)] : List Value).toArray meth := M
  have hl : lv_has ls 3 [(0, .ref (zA g 0)), (1, .ref (zA g 124))] := hl
  generalize ([.ref (zA g 0), .ref (zA g 124)] : List Value).toArray = args at M ⊢
  have hx := M.1.1
  have hb := M.1.2.1
  have hts := M.1.2.2.2.2
  have hown := M.1.2.2.2.1
  unfold m_L_read at hr
  obtain ⟨x, e_x, hr⟩ := zb_some hr
  refine lv_aload_n hx hb dL_read_0 rfl (lv_at hl 1 rfl) ?_
  refine lv_iconst (v := (0 : Int32)) hx hb dL_read_1 (by decide) ?_
  refine lv_aload_n hx hb dL_read_2 rfl (lv_at hl 0 rfl) ?_
  refine zcallX M I (zrunX (as := []) M hpx I (c_X10_read l hl0 g fu e_x) zc_0 zK10.1 (by decide) zlv_L_40 ⟨Nat.le_of_ble_eq_true rfl, Nat.le_of_ble_eq_true rfl⟩ ⟨Nat.le_refl _, Nat.le_refl _⟩ rfl rfl (Nat.le_of_ble_eq_true rfl) hl.1 dL_read_3) (fun k hk hk1 H locs ce q9 I hce hcv hcl => ?_) (fun v hv H locs I => ?_)
  · rw [hk1] at hr
    dsimp only at hr
    by_cases hk1 : k = 1
    · subst hk1
      have hr := zif_t hr rfl
      refine vx_catch (own := RL) (name := zEx 1) hown [] ⟨0, 8, 11, 15⟩ [] (htab.trans rfl) (fun z hz => by cases hz) (by decide) (by decide) (hts _ (zin (i := 721) (by decide +kernel) rfl)) (va_Nw.use rfl (hpx.2.2.2.1 1)) hce hcv hcl ?_
      refine lv_astore_n (lv' := [(2, .ref q9), (0, .ref (zA g 0)), (1, .ref (zA g 124))]) hx hb dL_read_11 rfl hl (by decide) rfl (fun ls hl => ?_)
      refine lv_iconst (v := (1 : Int32)) hx hb dL_read_12 (by decide) ?_
      exact zretW M I (Option.some.inj hr).symm dL_read_13
    have hr := zif_f hr hk1
    cases hr
  · rw [hv] at hr
    dsimp only at hr
    obtain ⟨s1, e_s1, hr⟩ := zb_some hr
    refine lv_i2l (v := v.toInt64) hx hb dL_read_6 rfl ?_
    refine zlast M I zc_124 e_s1 dL_read_7 (fun H locs I => ?_)
    refine lv_goto (tgt := 14) hx hb dL_read_8 (by decide) ?_
    refine lv_iconst (v := (0 : Int32)) hx hb dL_read_14 (by decide) ?_
    exact zretW M I (Option.some.inj hr).symm dL_read_15
def m_L_keep (fu : Nat) (σ : zmem) (a1 : Int32) : Option (Int32 × zmem) := (m_X10_keep fu σ a1).bind fun x => match x.1 with | .inl k => (if k = 0 then some ((1 : Int32), x.2) else none) | .inr v => (zwL x.2 124 0 v.toInt64).bind fun s => some ((0 : Int32), s)
set_option maxHeartbeats 4000000 in
set_option maxRecDepth 100000 in
theorem c_L_keep (l : Launch) (hl0 : l.stackTraces = false) (g : zgeo) (fu : Nat) {σ : zmem} {a1 : Int32} {r : Int32 × zmem} (hr : m_L_keep fu σ a1 = some r) : zCw l g yL_keep cL_keep 4 [(0, 9, 12, 13)] 7 103 [.ref (zA g 0), .int a1, .ref (zA g 124)] σ r := by
  refine zopenW (by decide) (Nat.le_of_ble_eq_true rfl) ?_
  intro p e s m below meth c M hpx hnc htab ls hl I
  have M : zMC RL cL_keep 4 (some .int) g p m c s ([.ref (zA g 0), .int a1, .ref (zA g 124)] : List Value).toArray meth := M
  have hl : lv_has ls 4 [(0, .ref (zA g 0)), (1, .int a1), (2, .ref (zA g 124))] := hl
  generalize ([.ref (zA g 0), .int a1, .ref (zA g 124)] : List Value).toArray = args at M ⊢
  have hx := M.1.1
  have hb := M.1.2.1
  have hts := M.1.2.2.2.2
  have hown := M.1.2.2.2.1
  unfold m_L_keep at hr
  obtain ⟨x, e_x, hr⟩ := zb_some hr
  refine lv_aload_n hx hb dL_keep_0 rfl (lv_at hl 2 rfl) ?_
  refine lv_iconst (v := (0 : Int32)) hx hb dL_keep_1 (by decide) ?_
  refine lv_aload_n hx hb dL_keep_2 rfl (lv_at hl 0 rfl) ?_
  refine lv_iload_n hx hb dL_keep_3 rfl (lv_at hl 1 rfl) ?_
  refine zcallX M I (zrunX (as := [.int a1]) M hpx I (c_X10_keep l hl0 g fu e_x) zc_0 zK10.1 (by decide) zlv_L_44 ⟨Nat.le_of_ble_eq_true rfl, Nat.le_of_ble_eq_true rfl⟩ ⟨Nat.le_refl _, Nat.le_refl _⟩ rfl rfl (Nat.le_of_ble_eq_true rfl) hl.1 dL_keep_4) (fun k hk hk1 H locs ce q9 I hce hcv hcl => ?_) (fun v hv H locs I => ?_)
  · rw [hk1] at hr
    dsimp only at hr
    by_cases hk0 : k = 0
    · subst hk0
      have hr := zif_t hr rfl
      refine vx_catch (own := RL) (name := zEx 0) hown [] ⟨0, 9, 12, 13⟩ [] (htab.trans rfl) (fun z hz => by cases hz) (by decide) (by decide) (hts _ (zin (i := 720) (by decide +kernel) rfl)) (va_Nw.use rfl (hpx.2.2.2.1 0)) hce hcv hcl ?_
      refine lv_astore_n (lv' := [(3, .ref q9), (0, .ref (zA g 0)), (1, .int a1), (2, .ref (zA g 124))]) hx hb dL_keep_12 rfl hl (by decide) rfl (fun ls hl => ?_)
      refine lv_iconst (v := (1 : Int32)) hx hb dL_keep_13 (by decide) ?_
      exact zretW M I (Option.some.inj hr).symm dL_keep_14
    have hr := zif_f hr hk0
    cases hr
  · rw [hv] at hr
    dsimp only at hr
    obtain ⟨s1, e_s1, hr⟩ := zb_some hr
    refine lv_i2l (v := v.toInt64) hx hb dL_keep_7 rfl ?_
    refine zlast M I zc_124 e_s1 dL_keep_8 (fun H locs I => ?_)
    refine lv_goto (tgt := 15) hx hb dL_keep_9 (by decide) ?_
    refine lv_iconst (v := (0 : Int32)) hx hb dL_keep_15 (by decide) ?_
    exact zretW M I (Option.some.inj hr).symm dL_keep_16
def m_L_restore (fu : Nat) (σ : zmem) (a1 : Int32) : Option (Int32 × zmem) := (m_X10_restore fu σ a1).bind fun x => match x.1 with | .inl k => (if k = 0 then some ((1 : Int32), x.2) else if k = 2 then some ((2 : Int32), x.2) else none) | .inr v => (zwL x.2 124 0 v.toInt64).bind fun s => some ((0 : Int32), s)
set_option maxHeartbeats 4000000 in
set_option maxRecDepth 100000 in
theorem c_L_restore (l : Launch) (hl0 : l.stackTraces = false) (g : zgeo) (fu : Nat) {σ : zmem} {a1 : Int32} {r : Int32 × zmem} (hr : m_L_restore fu σ a1 = some r) : zCw l g yL_restore cL_restore 4 [(0, 9, 12, 13), (0, 9, 15, 17)] 7 107 [.ref (zA g 0), .int a1, .ref (zA g 124)] σ r := by
  refine zopenW (by decide) (Nat.le_of_ble_eq_true rfl) ?_
  intro p e s m below meth c M hpx hnc htab ls hl I
  have M : zMC RL cL_restore 4 (some .int) g p m c s ([.ref (zA g 0), .int a1, .ref (zA g 124)] : List Value).toArray meth := M
  have hl : lv_has ls 4 [(0, .ref (zA g 0)), (1, .int a1), (2, .ref (zA g 124))] := hl
  generalize ([.ref (zA g 0), .int a1, .ref (zA g 124)] : List Value).toArray = args at M ⊢
  have hx := M.1.1
  have hb := M.1.2.1
  have hts := M.1.2.2.2.2
  have hown := M.1.2.2.2.1
  unfold m_L_restore at hr
  obtain ⟨x, e_x, hr⟩ := zb_some hr
  refine lv_aload_n hx hb dL_restore_0 rfl (lv_at hl 2 rfl) ?_
  refine lv_iconst (v := (0 : Int32)) hx hb dL_restore_1 (by decide) ?_
  refine lv_aload_n hx hb dL_restore_2 rfl (lv_at hl 0 rfl) ?_
  refine lv_iload_n hx hb dL_restore_3 rfl (lv_at hl 1 rfl) ?_
  refine zcallX M I (zrunX (as := [.int a1]) M hpx I (c_X10_restore l hl0 g fu e_x) zc_0 zK10.1 (by decide) zlv_L_47 ⟨Nat.le_of_ble_eq_true rfl, Nat.le_of_ble_eq_true rfl⟩ ⟨Nat.le_refl _, Nat.le_refl _⟩ rfl rfl (Nat.le_of_ble_eq_true rfl) hl.1 dL_restore_4) (fun k hk hk1 H locs ce q9 I hce hcv hcl => ?_) (fun v hv H locs I => ?_)
  · rw [hk1] at hr
    dsimp only at hr
    by_cases hk0 : k = 0
    · subst hk0
      have hr := zif_t hr rfl
      refine vx_catch (own := RL) (name := zEx 0) hown [] ⟨0, 9, 12, 13⟩ [⟨0, 9, 15, 17⟩] (htab.trans rfl) (fun z hz => by cases hz) (by decide) (by decide) (hts _ (zin (i := 720) (by decide +kernel) rfl)) (va_Nw.use rfl (hpx.2.2.2.1 0)) hce hcv hcl ?_
      refine lv_astore_n (lv' := [(3, .ref q9), (0, .ref (zA g 0)), (1, .int a1), (2, .ref (zA g 124))]) hx hb dL_restore_12 rfl hl (by decide) rfl (fun ls hl => ?_)
      refine lv_iconst (v := (1 : Int32)) hx hb dL_restore_13 (by decide) ?_
      exact zretW M I (Option.some.inj hr).symm dL_restore_14
    have hr := zif_f hr hk0
    by_cases hk2 : k = 2
    · subst hk2
      have hr := zif_t hr rfl
      refine vx_catch (own := RL) (name := zEx 2) hown [⟨0, 9, 12, 13⟩] ⟨0, 9, 15, 17⟩ [] (htab.trans rfl) (fun z hz => by
        simp only [List.mem_cons, List.not_mem_nil, or_false] at hz
        rcases hz with rfl
        · exact Or.inr (zpass (j := 0) hnc hts (by decide) (by decide) (by decide) (zin (i := 720) (by decide +kernel) rfl))) (by decide) (by decide) (hts _ (zin (i := 722) (by decide +kernel) rfl)) (va_Nw.use rfl (hpx.2.2.2.1 2)) hce hcv hcl ?_
      refine lv_astore_n (lv' := [(3, .ref q9), (0, .ref (zA g 0)), (1, .int a1), (2, .ref (zA g 124))]) hx hb dL_restore_15 rfl hl (by decide) rfl (fun ls hl => ?_)
      refine lv_iconst (v := (2 : Int32)) hx hb dL_restore_16 (by decide) ?_
      exact zretW M I (Option.some.inj hr).symm dL_restore_17
    have hr := zif_f hr hk2
    cases hr
  · rw [hv] at hr
    dsimp only at hr
    obtain ⟨s1, e_s1, hr⟩ := zb_some hr
    refine lv_i2l (v := v.toInt64) hx hb dL_restore_7 rfl ?_
    refine zlast M I zc_124 e_s1 dL_restore_8 (fun H locs I => ?_)
    refine lv_goto (tgt := 18) hx hb dL_restore_9 (by decide) ?_
    refine lv_iconst (v := (0 : Int32)) hx hb dL_restore_18 (by decide) ?_
    exact zretW M I (Option.some.inj hr).symm dL_restore_19
def m_L_undo (fu : Nat) (σ : zmem) : Option (Int32 × zmem) := (m_X10_undo fu σ).bind fun x => match x.1 with | .inl k => (if k = 2 then some ((1 : Int32), x.2) else none) | .inr v => (zwL x.2 124 0 v.toInt64).bind fun s => some ((0 : Int32), s)
set_option maxHeartbeats 4000000 in
set_option maxRecDepth 100000 in
theorem c_L_undo (l : Launch) (hl0 : l.stackTraces = false) (g : zgeo) (fu : Nat) {σ : zmem} {r : Int32 × zmem} (hr : m_L_undo fu σ = some r) : zCw l g yL_undo cL_undo 3 [(0, 8, 11, 17)] 7 102 [.ref (zA g 0), .ref (zA g 124)] σ r := by
  refine zopenW (by decide) (Nat.le_of_ble_eq_true rfl) ?_
  intro p e s m below meth c M hpx hnc htab ls hl I
  have M : zMC RL cL_undo 3 (some .int) g p m c s ([.ref (zA g 0), .ref (zA g 124)] : List Value).toArray meth := M
  have hl : lv_has ls 3 [(0, .ref (zA g 0)), (1, .ref (zA g 124))] := hl
  generalize ([.ref (zA g 0), .ref (zA g 124)] : List Value).toArray = args at M ⊢
  have hx := M.1.1
  have hb := M.1.2.1
  have hts := M.1.2.2.2.2
  have hown := M.1.2.2.2.1
  unfold m_L_undo at hr
  obtain ⟨x, e_x, hr⟩ := zb_some hr
  refine lv_aload_n hx hb dL_undo_0 rfl (lv_at hl 1 rfl) ?_
  refine lv_iconst (v := (0 : Int32)) hx hb dL_undo_1 (by decide) ?_
  refine lv_aload_n hx hb dL_undo_2 rfl (lv_at hl 0 rfl) ?_
  refine zcallX M I (zrunX (as := []) M hpx I (c_X10_undo l hl0 g fu e_x) zc_0 zK10.1 (by decide) zlv_L_50 ⟨Nat.le_of_ble_eq_true rfl, Nat.le_of_ble_eq_true rfl⟩ ⟨Nat.le_refl _, Nat.le_refl _⟩ rfl rfl (Nat.le_of_ble_eq_true rfl) hl.1 dL_undo_3) (fun k hk hk1 H locs ce q9 I hce hcv hcl => ?_) (fun v hv H locs I => ?_)
  · rw [hk1] at hr
    dsimp only at hr
    by_cases hk2 : k = 2
    · subst hk2
      have hr := zif_t hr rfl
      refine vx_catch (own := RL) (name := zEx 2) hown [] ⟨0, 8, 11, 17⟩ [] (htab.trans rfl) (fun z hz => by cases hz) (by decide) (by decide) (hts _ (zin (i := 722) (by decide +kernel) rfl)) (va_Nw.use rfl (hpx.2.2.2.1 2)) hce hcv hcl ?_
      refine lv_astore_n (lv' := [(2, .ref q9), (0, .ref (zA g 0)), (1, .ref (zA g 124))]) hx hb dL_undo_11 rfl hl (by decide) rfl (fun ls hl => ?_)
      refine lv_iconst (v := (1 : Int32)) hx hb dL_undo_12 (by decide) ?_
      exact zretW M I (Option.some.inj hr).symm dL_undo_13
    have hr := zif_f hr hk2
    cases hr
  · rw [hv] at hr
    dsimp only at hr
    obtain ⟨s1, e_s1, hr⟩ := zb_some hr
    refine lv_i2l (v := v.toInt64) hx hb dL_undo_6 rfl ?_
    refine zlast M I zc_124 e_s1 dL_undo_7 (fun H locs I => ?_)
    refine lv_goto (tgt := 14) hx hb dL_undo_8 (by decide) ?_
    refine lv_iconst (v := (0 : Int32)) hx hb dL_undo_14 (by decide) ?_
    exact zretW M I (Option.some.inj hr).symm dL_undo_15
def m_L_sign (fu : Nat) (σ : zmem) (a1 : Int32) (a2 : Int32) : Option (Int32 × zmem) := (m_X10_sign fu σ a1 a2).bind fun x => match x.1 with | .inl k => (if k = 0 then some ((1 : Int32), x.2) else none) | .inr v => (zwL x.2 124 0 v.toInt64).bind fun s => some ((0 : Int32), s)
set_option maxHeartbeats 4000000 in
set_option maxRecDepth 100000 in
theorem c_L_sign (l : Launch) (hl0 : l.stackTraces = false) (g : zgeo) (fu : Nat) {σ : zmem} {a1 : Int32} {a2 : Int32} {r : Int32 × zmem} (hr : m_L_sign fu σ a1 a2 = some r) : zCw l g yL_sign cL_sign 5 [(0, 10, 13, 13)] 7 104 [.ref (zA g 0), .int a1, .int a2, .ref (zA g 124)] σ r := by
  refine zopenW (by decide) (Nat.le_of_ble_eq_true rfl) ?_
  intro p e s m below meth c M hpx hnc htab ls hl I
  have M : zMC RL cL_sign 5 (some .int) g p m c s ([.ref (zA g 0), .int a1, .int a2, .ref (zA g 124)] : List Value).toArray meth := M
  have hl : lv_has ls 5 [(0, .ref (zA g 0)), (1, .int a1), (2, .int a2), (3, .ref (zA g 124))] := hl
  generalize ([.ref (zA g 0), .int a1, .int a2, .ref (zA g 124)] : List Value).toArray = args at M ⊢
  have hx := M.1.1
  have hb := M.1.2.1
  have hts := M.1.2.2.2.2
  have hown := M.1.2.2.2.1
  unfold m_L_sign at hr
  obtain ⟨x, e_x, hr⟩ := zb_some hr
  refine lv_aload_n hx hb dL_sign_0 rfl (lv_at hl 3 rfl) ?_
  refine lv_iconst (v := (0 : Int32)) hx hb dL_sign_1 (by decide) ?_
  refine lv_aload_n hx hb dL_sign_2 rfl (lv_at hl 0 rfl) ?_
  refine lv_iload_n hx hb dL_sign_3 rfl (lv_at hl 1 rfl) ?_
  refine lv_iload_n hx hb dL_sign_4 rfl (lv_at hl 2 rfl) ?_
  refine zcallX M I (zrunX (as := [.int a1, .int a2]) M hpx I (c_X10_sign l hl0 g fu e_x) zc_0 zK10.1 (by decide) zlv_L_53 ⟨Nat.le_of_ble_eq_true rfl, Nat.le_of_ble_eq_true rfl⟩ ⟨Nat.le_refl _, Nat.le_refl _⟩ rfl rfl (Nat.le_of_ble_eq_true rfl) hl.1 dL_sign_5) (fun k hk hk1 H locs ce q9 I hce hcv hcl => ?_) (fun v hv H locs I => ?_)
  · rw [hk1] at hr
    dsimp only at hr
    by_cases hk0 : k = 0
    · subst hk0
      have hr := zif_t hr rfl
      refine vx_catch (own := RL) (name := zEx 0) hown [] ⟨0, 10, 13, 13⟩ [] (htab.trans rfl) (fun z hz => by cases hz) (by decide) (by decide) (hts _ (zin (i := 720) (by decide +kernel) rfl)) (va_Nw.use rfl (hpx.2.2.2.1 0)) hce hcv hcl ?_
      refine lv_astore (lv' := [(4, .ref q9), (0, .ref (zA g 0)), (1, .int a1), (2, .int a2), (3, .ref (zA g 124))]) hx hb dL_sign_13 hl (by decide) rfl (fun ls hl => ?_)
      refine lv_iconst (v := (1 : Int32)) hx hb dL_sign_15 (by decide) ?_
      exact zretW M I (Option.some.inj hr).symm dL_sign_16
    have hr := zif_f hr hk0
    cases hr
  · rw [hv] at hr
    dsimp only at hr
    obtain ⟨s1, e_s1, hr⟩ := zb_some hr
    refine lv_i2l (v := v.toInt64) hx hb dL_sign_8 rfl ?_
    refine zlast M I zc_124 e_s1 dL_sign_9 (fun H locs I => ?_)
    refine lv_goto (tgt := 17) hx hb dL_sign_10 (by decide) ?_
    refine lv_iconst (v := (0 : Int32)) hx hb dL_sign_17 (by decide) ?_
    exact zretW M I (Option.some.inj hr).symm dL_sign_18
def m_L_anchor (fu : Nat) (σ : zmem) (a1 : Int32) (a2 : Int32) : Option (Int32 × zmem) := (m_X10_anchor fu σ a1 a2).bind fun x => match x.1 with | .inl k => (if k = 0 then some ((1 : Int32), x.2) else if k = 1 then some ((2 : Int32), x.2) else none) | .inr v => (zwL x.2 124 0 v.toInt64).bind fun s => some ((0 : Int32), s)
set_option maxHeartbeats 4000000 in
set_option maxRecDepth 100000 in
theorem c_L_anchor (l : Launch) (hl0 : l.stackTraces = false) (g : zgeo) (fu : Nat) {σ : zmem} {a1 : Int32} {a2 : Int32} {r : Int32 × zmem} (hr : m_L_anchor fu σ a1 a2 = some r) : zCw l g yL_anchor cL_anchor 5 [(0, 10, 13, 13), (0, 10, 17, 15)] 7 175 [.ref (zA g 0), .int a1, .int a2, .ref (zA g 124)] σ r := by
  refine zopenW (by decide) (Nat.le_of_ble_eq_true rfl) ?_
  intro p e s m below meth c M hpx hnc htab ls hl I
  have M : zMC RL cL_anchor 5 (some .int) g p m c s ([.ref (zA g 0), .int a1, .int a2, .ref (zA g 124)] : List Value).toArray meth := M
  have hl : lv_has ls 5 [(0, .ref (zA g 0)), (1, .int a1), (2, .int a2), (3, .ref (zA g 124))] := hl
  generalize ([.ref (zA g 0), .int a1, .int a2, .ref (zA g 124)] : List Value).toArray = args at M ⊢
  have hx := M.1.1
  have hb := M.1.2.1
  have hts := M.1.2.2.2.2
  have hown := M.1.2.2.2.1
  unfold m_L_anchor at hr
  obtain ⟨x, e_x, hr⟩ := zb_some hr
  refine lv_aload_n hx hb dL_anchor_0 rfl (lv_at hl 3 rfl) ?_
  refine lv_iconst (v := (0 : Int32)) hx hb dL_anchor_1 (by decide) ?_
  refine lv_aload_n hx hb dL_anchor_2 rfl (lv_at hl 0 rfl) ?_
  refine lv_iload_n hx hb dL_anchor_3 rfl (lv_at hl 1 rfl) ?_
  refine lv_iload_n hx hb dL_anchor_4 rfl (lv_at hl 2 rfl) ?_
  refine zcallX M I (zrunX (as := [.int a1, .int a2]) M hpx I (c_X10_anchor l hl0 g fu e_x) zc_0 zK10.1 (by decide) zlv_L_56 ⟨Nat.le_of_ble_eq_true rfl, Nat.le_of_ble_eq_true rfl⟩ ⟨Nat.le_refl _, Nat.le_refl _⟩ rfl rfl (Nat.le_of_ble_eq_true rfl) hl.1 dL_anchor_5) (fun k hk hk1 H locs ce q9 I hce hcv hcl => ?_) (fun v hv H locs I => ?_)
  · rw [hk1] at hr
    dsimp only at hr
    by_cases hk0 : k = 0
    · subst hk0
      have hr := zif_t hr rfl
      refine vx_catch (own := RL) (name := zEx 0) hown [] ⟨0, 10, 13, 13⟩ [⟨0, 10, 17, 15⟩] (htab.trans rfl) (fun z hz => by cases hz) (by decide) (by decide) (hts _ (zin (i := 720) (by decide +kernel) rfl)) (va_Nw.use rfl (hpx.2.2.2.1 0)) hce hcv hcl ?_
      refine lv_astore (lv' := [(4, .ref q9), (0, .ref (zA g 0)), (1, .int a1), (2, .int a2), (3, .ref (zA g 124))]) hx hb dL_anchor_13 hl (by decide) rfl (fun ls hl => ?_)
      refine lv_iconst (v := (1 : Int32)) hx hb dL_anchor_15 (by decide) ?_
      exact zretW M I (Option.some.inj hr).symm dL_anchor_16
    have hr := zif_f hr hk0
    by_cases hk1 : k = 1
    · subst hk1
      have hr := zif_t hr rfl
      refine vx_catch (own := RL) (name := zEx 1) hown [⟨0, 10, 13, 13⟩] ⟨0, 10, 17, 15⟩ [] (htab.trans rfl) (fun z hz => by
        simp only [List.mem_cons, List.not_mem_nil, or_false] at hz
        rcases hz with rfl
        · exact Or.inr (zpass (j := 0) hnc hts (by decide) (by decide) (by decide) (zin (i := 720) (by decide +kernel) rfl))) (by decide) (by decide) (hts _ (zin (i := 721) (by decide +kernel) rfl)) (va_Nw.use rfl (hpx.2.2.2.1 1)) hce hcv hcl ?_
      refine lv_astore (lv' := [(4, .ref q9), (0, .ref (zA g 0)), (1, .int a1), (2, .int a2), (3, .ref (zA g 124))]) hx hb dL_anchor_17 hl (by decide) rfl (fun ls hl => ?_)
      refine lv_iconst (v := (2 : Int32)) hx hb dL_anchor_19 (by decide) ?_
      exact zretW M I (Option.some.inj hr).symm dL_anchor_20
    have hr := zif_f hr hk1
    cases hr
  · rw [hv] at hr
    dsimp only at hr
    obtain ⟨s1, e_s1, hr⟩ := zb_some hr
    refine lv_i2l (v := v.toInt64) hx hb dL_anchor_8 rfl ?_
    refine zlast M I zc_124 e_s1 dL_anchor_9 (fun H locs I => ?_)
    refine lv_goto (tgt := 21) hx hb dL_anchor_10 (by decide) ?_
    refine lv_iconst (v := (0 : Int32)) hx hb dL_anchor_21 (by decide) ?_
    exact zretW M I (Option.some.inj hr).symm dL_anchor_22
def m_L_turned (fu : Nat) (σ : zmem) (a1 : Int32) (a2 : Int32) : Option (Int32 × zmem) := (m_X10_turned fu σ a1 a2).bind fun x => match x.1 with | .inl k => (if k = 0 then some ((1 : Int32), x.2) else if k = 1 then some ((2 : Int32), x.2) else none) | .inr v => (zwL x.2 124 0 v.toInt64).bind fun s => some ((0 : Int32), s)
set_option maxHeartbeats 4000000 in
set_option maxRecDepth 100000 in
theorem c_L_turned (l : Launch) (hl0 : l.stackTraces = false) (g : zgeo) (fu : Nat) {σ : zmem} {a1 : Int32} {a2 : Int32} {r : Int32 × zmem} (hr : m_L_turned fu σ a1 a2 = some r) : zCw l g yL_turned cL_turned 5 [(0, 10, 13, 13), (0, 10, 17, 15)] 7 175 [.ref (zA g 0), .int a1, .int a2, .ref (zA g 124)] σ r := by
  refine zopenW (by decide) (Nat.le_of_ble_eq_true rfl) ?_
  intro p e s m below meth c M hpx hnc htab ls hl I
  have M : zMC RL cL_turned 5 (some .int) g p m c s ([.ref (zA g 0), .int a1, .int a2, .ref (zA g 124)] : List Value).toArray meth := M
  have hl : lv_has ls 5 [(0, .ref (zA g 0)), (1, .int a1), (2, .int a2), (3, .ref (zA g 124))] := hl
  generalize ([.ref (zA g 0), .int a1, .int a2, .ref (zA g 124)] : List Value).toArray = args at M ⊢
  have hx := M.1.1
  have hb := M.1.2.1
  have hts := M.1.2.2.2.2
  have hown := M.1.2.2.2.1
  unfold m_L_turned at hr
  obtain ⟨x, e_x, hr⟩ := zb_some hr
  refine lv_aload_n hx hb dL_turned_0 rfl (lv_at hl 3 rfl) ?_
  refine lv_iconst (v := (0 : Int32)) hx hb dL_turned_1 (by decide) ?_
  refine lv_aload_n hx hb dL_turned_2 rfl (lv_at hl 0 rfl) ?_
  refine lv_iload_n hx hb dL_turned_3 rfl (lv_at hl 1 rfl) ?_
  refine lv_iload_n hx hb dL_turned_4 rfl (lv_at hl 2 rfl) ?_
  refine zcallX M I (zrunX (as := [.int a1, .int a2]) M hpx I (c_X10_turned l hl0 g fu e_x) zc_0 zK10.1 (by decide) zlv_L_59 ⟨Nat.le_of_ble_eq_true rfl, Nat.le_of_ble_eq_true rfl⟩ ⟨Nat.le_refl _, Nat.le_refl _⟩ rfl rfl (Nat.le_of_ble_eq_true rfl) hl.1 dL_turned_5) (fun k hk hk1 H locs ce q9 I hce hcv hcl => ?_) (fun v hv H locs I => ?_)
  · rw [hk1] at hr
    dsimp only at hr
    by_cases hk0 : k = 0
    · subst hk0
      have hr := zif_t hr rfl
      refine vx_catch (own := RL) (name := zEx 0) hown [] ⟨0, 10, 13, 13⟩ [⟨0, 10, 17, 15⟩] (htab.trans rfl) (fun z hz => by cases hz) (by decide) (by decide) (hts _ (zin (i := 720) (by decide +kernel) rfl)) (va_Nw.use rfl (hpx.2.2.2.1 0)) hce hcv hcl ?_
      refine lv_astore (lv' := [(4, .ref q9), (0, .ref (zA g 0)), (1, .int a1), (2, .int a2), (3, .ref (zA g 124))]) hx hb dL_turned_13 hl (by decide) rfl (fun ls hl => ?_)
      refine lv_iconst (v := (1 : Int32)) hx hb dL_turned_15 (by decide) ?_
      exact zretW M I (Option.some.inj hr).symm dL_turned_16
    have hr := zif_f hr hk0
    by_cases hk1 : k = 1
    · subst hk1
      have hr := zif_t hr rfl
      refine vx_catch (own := RL) (name := zEx 1) hown [⟨0, 10, 13, 13⟩] ⟨0, 10, 17, 15⟩ [] (htab.trans rfl) (fun z hz => by
        simp only [List.mem_cons, List.not_mem_nil, or_false] at hz
        rcases hz with rfl
        · exact Or.inr (zpass (j := 0) hnc hts (by decide) (by decide) (by decide) (zin (i := 720) (by decide +kernel) rfl))) (by decide) (by decide) (hts _ (zin (i := 721) (by decide +kernel) rfl)) (va_Nw.use rfl (hpx.2.2.2.1 1)) hce hcv hcl ?_
      refine lv_astore (lv' := [(4, .ref q9), (0, .ref (zA g 0)), (1, .int a1), (2, .int a2), (3, .ref (zA g 124))]) hx hb dL_turned_17 hl (by decide) rfl (fun ls hl => ?_)
      refine lv_iconst (v := (2 : Int32)) hx hb dL_turned_19 (by decide) ?_
      exact zretW M I (Option.some.inj hr).symm dL_turned_20
    have hr := zif_f hr hk1
    cases hr
  · rw [hv] at hr
    dsimp only at hr
    obtain ⟨s1, e_s1, hr⟩ := zb_some hr
    refine lv_i2l (v := v.toInt64) hx hb dL_turned_8 rfl ?_
    refine zlast M I zc_124 e_s1 dL_turned_9 (fun H locs I => ?_)
    refine lv_goto (tgt := 21) hx hb dL_turned_10 (by decide) ?_
    refine lv_iconst (v := (0 : Int32)) hx hb dL_turned_21 (by decide) ?_
    exact zretW M I (Option.some.inj hr).symm dL_turned_22
def m_L_gap (fu : Nat) (σ : zmem) (a1 : Int32) (a2 : Int32) : Option (Int32 × zmem) := (m_X10_gap fu σ a1 a2).bind fun x => match x.1 with | .inl k => (if k = 1 then some ((1 : Int32), x.2) else none) | .inr v => (zwL x.2 124 0 v.toInt64).bind fun s => some ((0 : Int32), s)
set_option maxHeartbeats 4000000 in
set_option maxRecDepth 100000 in
theorem c_L_gap (l : Launch) (hl0 : l.stackTraces = false) (g : zgeo) (fu : Nat) {σ : zmem} {a1 : Int32} {a2 : Int32} {r : Int32 × zmem} (hr : m_L_gap fu σ a1 a2 = some r) : zCw l g yL_gap cL_gap 5 [(0, 10, 13, 15)] 7 175 [.ref (zA g 0), .int a1, .int a2, .ref (zA g 124)] σ r := by
  refine zopenW (by decide) (Nat.le_of_ble_eq_true rfl) ?_
  intro p e s m below meth c M hpx hnc htab ls hl I
  have M : zMC RL cL_gap 5 (some .int) g p m c s ([.ref (zA g 0), .int a1, .int a2, .ref (zA g 124)] : List Value).toArray meth := M
  have hl : lv_has ls 5 [(0, .ref (zA g 0)), (1, .int a1), (2, .int a2), (3, .ref (zA g 124))] := hl
  generalize ([.ref (zA g 0), .int a1, .int a2, .ref (zA g 124)] : List Value).toArray = args at M ⊢
  have hx := M.1.1
  have hb := M.1.2.1
  have hts := M.1.2.2.2.2
  have hown := M.1.2.2.2.1
  unfold m_L_gap at hr
  obtain ⟨x, e_x, hr⟩ := zb_some hr
  refine lv_aload_n hx hb dL_gap_0 rfl (lv_at hl 3 rfl) ?_
  refine lv_iconst (v := (0 : Int32)) hx hb dL_gap_1 (by decide) ?_
  refine lv_aload_n hx hb dL_gap_2 rfl (lv_at hl 0 rfl) ?_
  refine lv_iload_n hx hb dL_gap_3 rfl (lv_at hl 1 rfl) ?_
  refine lv_iload_n hx hb dL_gap_4 rfl (lv_at hl 2 rfl) ?_
  refine zcallX M I (zrunX (as := [.int a1, .int a2]) M hpx I (c_X10_gap l hl0 g fu e_x) zc_0 zK10.1 (by decide) zlv_L_62 ⟨Nat.le_of_ble_eq_true rfl, Nat.le_of_ble_eq_true rfl⟩ ⟨Nat.le_refl _, Nat.le_refl _⟩ rfl rfl (Nat.le_of_ble_eq_true rfl) hl.1 dL_gap_5) (fun k hk hk1 H locs ce q9 I hce hcv hcl => ?_) (fun v hv H locs I => ?_)
  · rw [hk1] at hr
    dsimp only at hr
    by_cases hk1 : k = 1
    · subst hk1
      have hr := zif_t hr rfl
      refine vx_catch (own := RL) (name := zEx 1) hown [] ⟨0, 10, 13, 15⟩ [] (htab.trans rfl) (fun z hz => by cases hz) (by decide) (by decide) (hts _ (zin (i := 721) (by decide +kernel) rfl)) (va_Nw.use rfl (hpx.2.2.2.1 1)) hce hcv hcl ?_
      refine lv_astore (lv' := [(4, .ref q9), (0, .ref (zA g 0)), (1, .int a1), (2, .int a2), (3, .ref (zA g 124))]) hx hb dL_gap_13 hl (by decide) rfl (fun ls hl => ?_)
      refine lv_iconst (v := (1 : Int32)) hx hb dL_gap_15 (by decide) ?_
      exact zretW M I (Option.some.inj hr).symm dL_gap_16
    have hr := zif_f hr hk1
    cases hr
  · rw [hv] at hr
    dsimp only at hr
    obtain ⟨s1, e_s1, hr⟩ := zb_some hr
    refine lv_i2l (v := v.toInt64) hx hb dL_gap_8 rfl ?_
    refine zlast M I zc_124 e_s1 dL_gap_9 (fun H locs I => ?_)
    refine lv_goto (tgt := 17) hx hb dL_gap_10 (by decide) ?_
    refine lv_iconst (v := (0 : Int32)) hx hb dL_gap_17 (by decide) ?_
    exact zretW M I (Option.some.inj hr).symm dL_gap_18
def m_L_partner (fu : Nat) (σ : zmem) (a1 : Int32) (a2 : Int32) : Option (Int32 × zmem) := (m_X10_partner fu σ a1 a2).bind fun x => match x.1 with | .inl k => (if k = 0 then some ((1 : Int32), x.2) else none) | .inr v => (zwL x.2 124 0 v.toInt64).bind fun s => some ((0 : Int32), s)
set_option maxHeartbeats 4000000 in
set_option maxRecDepth 100000 in
theorem c_L_partner (l : Launch) (hl0 : l.stackTraces = false) (g : zgeo) (fu : Nat) {σ : zmem} {a1 : Int32} {a2 : Int32} {r : Int32 × zmem} (hr : m_L_partner fu σ a1 a2 = some r) : zCw l g yL_partner cL_partner 5 [(0, 10, 13, 13)] 7 175 [.ref (zA g 0), .int a1, .int a2, .ref (zA g 124)] σ r := by
  refine zopenW (by decide) (Nat.le_of_ble_eq_true rfl) ?_
  intro p e s m below meth c M hpx hnc htab ls hl I
  have M : zMC RL cL_partner 5 (some .int) g p m c s ([.ref (zA g 0), .int a1, .int a2, .ref (zA g 124)] : List Value).toArray meth := M
  have hl : lv_has ls 5 [(0, .ref (zA g 0)), (1, .int a1), (2, .int a2), (3, .ref (zA g 124))] := hl
  generalize ([.ref (zA g 0), .int a1, .int a2, .ref (zA g 124)] : List Value).toArray = args at M ⊢
  have hx := M.1.1
  have hb := M.1.2.1
  have hts := M.1.2.2.2.2
  have hown := M.1.2.2.2.1
  unfold m_L_partner at hr
  obtain ⟨x, e_x, hr⟩ := zb_some hr
  refine lv_aload_n hx hb dL_partner_0 rfl (lv_at hl 3 rfl) ?_
  refine lv_iconst (v := (0 : Int32)) hx hb dL_partner_1 (by decide) ?_
  refine lv_aload_n hx hb dL_partner_2 rfl (lv_at hl 0 rfl) ?_
  refine lv_iload_n hx hb dL_partner_3 rfl (lv_at hl 1 rfl) ?_
  refine lv_iload_n hx hb dL_partner_4 rfl (lv_at hl 2 rfl) ?_
  refine zcallX M I (zrunX (as := [.int a1, .int a2]) M hpx I (c_X10_partner l hl0 g fu e_x) zc_0 zK10.1 (by decide) zlv_L_65 ⟨Nat.le_of_ble_eq_true rfl, Nat.le_of_ble_eq_true rfl⟩ ⟨Nat.le_refl _, Nat.le_refl _⟩ rfl rfl (Nat.le_of_ble_eq_true rfl) hl.1 dL_partner_5) (fun k hk hk1 H locs ce q9 I hce hcv hcl => ?_) (fun v hv H locs I => ?_)
  · rw [hk1] at hr
    dsimp only at hr
    by_cases hk0 : k = 0
    · subst hk0
      have hr := zif_t hr rfl
      refine vx_catch (own := RL) (name := zEx 0) hown [] ⟨0, 10, 13, 13⟩ [] (htab.trans rfl) (fun z hz => by cases hz) (by decide) (by decide) (hts _ (zin (i := 720) (by decide +kernel) rfl)) (va_Nw.use rfl (hpx.2.2.2.1 0)) hce hcv hcl ?_
      refine lv_astore (lv' := [(4, .ref q9), (0, .ref (zA g 0)), (1, .int a1), (2, .int a2), (3, .ref (zA g 124))]) hx hb dL_partner_13 hl (by decide) rfl (fun ls hl => ?_)
      refine lv_iconst (v := (1 : Int32)) hx hb dL_partner_15 (by decide) ?_
      exact zretW M I (Option.some.inj hr).symm dL_partner_16
    have hr := zif_f hr hk0
    cases hr
  · rw [hv] at hr
    dsimp only at hr
    obtain ⟨s1, e_s1, hr⟩ := zb_some hr
    refine lv_i2l (v := v.toInt64) hx hb dL_partner_8 rfl ?_
    refine zlast M I zc_124 e_s1 dL_partner_9 (fun H locs I => ?_)
    refine lv_goto (tgt := 17) hx hb dL_partner_10 (by decide) ?_
    refine lv_iconst (v := (0 : Int32)) hx hb dL_partner_17 (by decide) ?_
    exact zretW M I (Option.some.inj hr).symm dL_partner_18
def m_L_doubled (fu : Nat) (σ : zmem) (a1 : Int32) (a2 : Int32) : Option (Int32 × zmem) := (m_X10_doubled fu σ a1 a2).bind fun x => match x.1 with | .inl k => (if k = 0 then some ((1 : Int32), x.2) else if k = 1 then some ((2 : Int32), x.2) else none) | .inr v => (zwL x.2 124 0 v.toInt64).bind fun s => some ((0 : Int32), s)
set_option maxHeartbeats 4000000 in
set_option maxRecDepth 100000 in
theorem c_L_doubled (l : Launch) (hl0 : l.stackTraces = false) (g : zgeo) (fu : Nat) {σ : zmem} {a1 : Int32} {a2 : Int32} {r : Int32 × zmem} (hr : m_L_doubled fu σ a1 a2 = some r) : zCw l g yL_doubled cL_doubled 5 [(0, 10, 13, 13), (0, 10, 17, 15)] 7 116 [.ref (zA g 0), .int a1, .int a2, .ref (zA g 124)] σ r := by
  refine zopenW (by decide) (Nat.le_of_ble_eq_true rfl) ?_
  intro p e s m below meth c M hpx hnc htab ls hl I
  have M : zMC RL cL_doubled 5 (some .int) g p m c s ([.ref (zA g 0), .int a1, .int a2, .ref (zA g 124)] : List Value).toArray meth := M
  have hl : lv_has ls 5 [(0, .ref (zA g 0)), (1, .int a1), (2, .int a2), (3, .ref (zA g 124))] := hl
  generalize ([.ref (zA g 0), .int a1, .int a2, .ref (zA g 124)] : List Value).toArray = args at M ⊢
  have hx := M.1.1
  have hb := M.1.2.1
  have hts := M.1.2.2.2.2
  have hown := M.1.2.2.2.1
  unfold m_L_doubled at hr
  obtain ⟨x, e_x, hr⟩ := zb_some hr
  refine lv_aload_n hx hb dL_doubled_0 rfl (lv_at hl 3 rfl) ?_
  refine lv_iconst (v := (0 : Int32)) hx hb dL_doubled_1 (by decide) ?_
  refine lv_aload_n hx hb dL_doubled_2 rfl (lv_at hl 0 rfl) ?_
  refine lv_iload_n hx hb dL_doubled_3 rfl (lv_at hl 1 rfl) ?_
  refine lv_iload_n hx hb dL_doubled_4 rfl (lv_at hl 2 rfl) ?_
  refine zcallX M I (zrunX (as := [.int a1, .int a2]) M hpx I (c_X10_doubled l hl0 g fu e_x) zc_0 zK10.1 (by decide) zlv_L_68 ⟨Nat.le_of_ble_eq_true rfl, Nat.le_of_ble_eq_true rfl⟩ ⟨Nat.le_refl _, Nat.le_refl _⟩ rfl rfl (Nat.le_of_ble_eq_true rfl) hl.1 dL_doubled_5) (fun k hk hk1 H locs ce q9 I hce hcv hcl => ?_) (fun v hv H locs I => ?_)
  · rw [hk1] at hr
    dsimp only at hr
    by_cases hk0 : k = 0
    · subst hk0
      have hr := zif_t hr rfl
      refine vx_catch (own := RL) (name := zEx 0) hown [] ⟨0, 10, 13, 13⟩ [⟨0, 10, 17, 15⟩] (htab.trans rfl) (fun z hz => by cases hz) (by decide) (by decide) (hts _ (zin (i := 720) (by decide +kernel) rfl)) (va_Nw.use rfl (hpx.2.2.2.1 0)) hce hcv hcl ?_
      refine lv_astore (lv' := [(4, .ref q9), (0, .ref (zA g 0)), (1, .int a1), (2, .int a2), (3, .ref (zA g 124))]) hx hb dL_doubled_13 hl (by decide) rfl (fun ls hl => ?_)
      refine lv_iconst (v := (1 : Int32)) hx hb dL_doubled_15 (by decide) ?_
      exact zretW M I (Option.some.inj hr).symm dL_doubled_16
    have hr := zif_f hr hk0
    by_cases hk1 : k = 1
    · subst hk1
      have hr := zif_t hr rfl
      refine vx_catch (own := RL) (name := zEx 1) hown [⟨0, 10, 13, 13⟩] ⟨0, 10, 17, 15⟩ [] (htab.trans rfl) (fun z hz => by
        simp only [List.mem_cons, List.not_mem_nil, or_false] at hz
        rcases hz with rfl
        · exact Or.inr (zpass (j := 0) hnc hts (by decide) (by decide) (by decide) (zin (i := 720) (by decide +kernel) rfl))) (by decide) (by decide) (hts _ (zin (i := 721) (by decide +kernel) rfl)) (va_Nw.use rfl (hpx.2.2.2.1 1)) hce hcv hcl ?_
      refine lv_astore (lv' := [(4, .ref q9), (0, .ref (zA g 0)), (1, .int a1), (2, .int a2), (3, .ref (zA g 124))]) hx hb dL_doubled_17 hl (by decide) rfl (fun ls hl => ?_)
      refine lv_iconst (v := (2 : Int32)) hx hb dL_doubled_19 (by decide) ?_
      exact zretW M I (Option.some.inj hr).symm dL_doubled_20
    have hr := zif_f hr hk1
    cases hr
  · rw [hv] at hr
    dsimp only at hr
    obtain ⟨s1, e_s1, hr⟩ := zb_some hr
    refine lv_i2l (v := v.toInt64) hx hb dL_doubled_8 rfl ?_
    refine zlast M I zc_124 e_s1 dL_doubled_9 (fun H locs I => ?_)
    refine lv_goto (tgt := 21) hx hb dL_doubled_10 (by decide) ?_
    refine lv_iconst (v := (0 : Int32)) hx hb dL_doubled_21 (by decide) ?_
    exact zretW M I (Option.some.inj hr).symm dL_doubled_22
def m_L_count (fu : Nat) (σ : zmem) (a1 : Int32) : Option (Int32 × zmem) := (m_X10_count fu σ a1).bind fun x => match x.1 with | .inl k => (if k = 1 then some ((1 : Int32), x.2) else none) | .inr v => (zwL x.2 124 0 v.toInt64).bind fun s => some ((0 : Int32), s)
set_option maxHeartbeats 4000000 in
set_option maxRecDepth 100000 in
theorem c_L_count (l : Launch) (hl0 : l.stackTraces = false) (g : zgeo) (fu : Nat) {σ : zmem} {a1 : Int32} {r : Int32 × zmem} (hr : m_L_count fu σ a1 = some r) : zCw l g yL_count cL_count 4 [(0, 9, 12, 15)] 7 174 [.ref (zA g 0), .int a1, .ref (zA g 124)] σ r := by
  refine zopenW (by decide) (Nat.le_of_ble_eq_true rfl) ?_
  intro p e s m below meth c M hpx hnc htab ls hl I
  have M : zMC RL cL_count 4 (some .int) g p m c s ([.ref (zA g 0), .int a1, .ref (zA g 124)] : List Value).toArray meth := M
  have hl : lv_has ls 4 [(0, .ref (zA g 0)), (1, .int a1), (2, .ref (zA g 124))] := hl
  generalize ([.ref (zA g 0), .int a1, .ref (zA g 124)] : List Value).toArray = args at M ⊢
  have hx := M.1.1
  have hb := M.1.2.1
  have hts := M.1.2.2.2.2
  have hown := M.1.2.2.2.1
  unfold m_L_count at hr
  obtain ⟨x, e_x, hr⟩ := zb_some hr
  refine lv_aload_n hx hb dL_count_0 rfl (lv_at hl 2 rfl) ?_
  refine lv_iconst (v := (0 : Int32)) hx hb dL_count_1 (by decide) ?_
  refine lv_aload_n hx hb dL_count_2 rfl (lv_at hl 0 rfl) ?_
  refine lv_iload_n hx hb dL_count_3 rfl (lv_at hl 1 rfl) ?_
  refine zcallX M I (zrunX (as := [.int a1]) M hpx I (c_X10_count l hl0 g fu e_x) zc_0 zK10.1 (by decide) zlv_L_71 ⟨Nat.le_of_ble_eq_true rfl, Nat.le_of_ble_eq_true rfl⟩ ⟨Nat.le_refl _, Nat.le_refl _⟩ rfl rfl (Nat.le_of_ble_eq_true rfl) hl.1 dL_count_4) (fun k hk hk1 H locs ce q9 I hce hcv hcl => ?_) (fun v hv H locs I => ?_)
  · rw [hk1] at hr
    dsimp only at hr
    by_cases hk1 : k = 1
    · subst hk1
      have hr := zif_t hr rfl
      refine vx_catch (own := RL) (name := zEx 1) hown [] ⟨0, 9, 12, 15⟩ [] (htab.trans rfl) (fun z hz => by cases hz) (by decide) (by decide) (hts _ (zin (i := 721) (by decide +kernel) rfl)) (va_Nw.use rfl (hpx.2.2.2.1 1)) hce hcv hcl ?_
      refine lv_astore_n (lv' := [(3, .ref q9), (0, .ref (zA g 0)), (1, .int a1), (2, .ref (zA g 124))]) hx hb dL_count_12 rfl hl (by decide) rfl (fun ls hl => ?_)
      refine lv_iconst (v := (1 : Int32)) hx hb dL_count_13 (by decide) ?_
      exact zretW M I (Option.some.inj hr).symm dL_count_14
    have hr := zif_f hr hk1
    cases hr
  · rw [hv] at hr
    dsimp only at hr
    obtain ⟨s1, e_s1, hr⟩ := zb_some hr
    refine lv_i2l (v := v.toInt64) hx hb dL_count_7 rfl ?_
    refine zlast M I zc_124 e_s1 dL_count_8 (fun H locs I => ?_)
    refine lv_goto (tgt := 15) hx hb dL_count_9 (by decide) ?_
    refine lv_iconst (v := (0 : Int32)) hx hb dL_count_15 (by decide) ?_
    exact zretW M I (Option.some.inj hr).symm dL_count_16
def m_L_setting (fu : Nat) (σ : zmem) (a1 : Int32) : Option (Int32 × zmem) := (m_X10_setting fu σ a1).bind fun x => match x.1 with | .inl k => (if k = 0 then some ((1 : Int32), x.2) else none) | .inr v => (zwL x.2 124 0 v.toInt64).bind fun s => some ((0 : Int32), s)
set_option maxHeartbeats 4000000 in
set_option maxRecDepth 100000 in
theorem c_L_setting (l : Launch) (hl0 : l.stackTraces = false) (g : zgeo) (fu : Nat) {σ : zmem} {a1 : Int32} {r : Int32 × zmem} (hr : m_L_setting fu σ a1 = some r) : zCw l g yL_setting cL_setting 4 [(0, 9, 12, 13)] 7 103 [.ref (zA g 0), .int a1, .ref (zA g 124)] σ r := by
  refine zopenW (by decide) (Nat.le_of_ble_eq_true rfl) ?_
  intro p e s m below meth c M hpx hnc htab ls hl I
  have M : zMC RL cL_setting 4 (some .int) g p m c s ([.ref (zA g 0), .int a1, .ref (zA g 124)] : List Value).toArray meth := M
  have hl : lv_has ls 4 [(0, .ref (zA g 0)), (1, .int a1), (2, .ref (zA g 124))] := hl
  generalize ([.ref (zA g 0), .int a1, .ref (zA g 124)] : List Value).toArray = args at M ⊢
  have hx := M.1.1
  have hb := M.1.2.1
  have hts := M.1.2.2.2.2
  have hown := M.1.2.2.2.1
  unfold m_L_setting at hr
  obtain ⟨x, e_x, hr⟩ := zb_some hr
  refine lv_aload_n hx hb dL_setting_0 rfl (lv_at hl 2 rfl) ?_
  refine lv_iconst (v := (0 : Int32)) hx hb dL_setting_1 (by decide) ?_
  refine lv_aload_n hx hb dL_setting_2 rfl (lv_at hl 0 rfl) ?_
  refine lv_iload_n hx hb dL_setting_3 rfl (lv_at hl 1 rfl) ?_
  refine zcallX M I (zrunX (as := [.int a1]) M hpx I (c_X10_setting l hl0 g fu e_x) zc_0 zK10.1 (by decide) zlv_L_74 ⟨Nat.le_of_ble_eq_true rfl, Nat.le_of_ble_eq_true rfl⟩ ⟨Nat.le_refl _, Nat.le_refl _⟩ rfl rfl (Nat.le_of_ble_eq_true rfl) hl.1 dL_setting_4) (fun k hk hk1 H locs ce q9 I hce hcv hcl => ?_) (fun v hv H locs I => ?_)
  · rw [hk1] at hr
    dsimp only at hr
    by_cases hk0 : k = 0
    · subst hk0
      have hr := zif_t hr rfl
      refine vx_catch (own := RL) (name := zEx 0) hown [] ⟨0, 9, 12, 13⟩ [] (htab.trans rfl) (fun z hz => by cases hz) (by decide) (by decide) (hts _ (zin (i := 720) (by decide +kernel) rfl)) (va_Nw.use rfl (hpx.2.2.2.1 0)) hce hcv hcl ?_
      refine lv_astore_n (lv' := [(3, .ref q9), (0, .ref (zA g 0)), (1, .int a1), (2, .ref (zA g 124))]) hx hb dL_setting_12 rfl hl (by decide) rfl (fun ls hl => ?_)
      refine lv_iconst (v := (1 : Int32)) hx hb dL_setting_13 (by decide) ?_
      exact zretW M I (Option.some.inj hr).symm dL_setting_14
    have hr := zif_f hr hk0
    cases hr
  · rw [hv] at hr
    dsimp only at hr
    obtain ⟨s1, e_s1, hr⟩ := zb_some hr
    refine lv_i2l (v := v.toInt64) hx hb dL_setting_7 rfl ?_
    refine zlast M I zc_124 e_s1 dL_setting_8 (fun H locs I => ?_)
    refine lv_goto (tgt := 15) hx hb dL_setting_9 (by decide) ?_
    refine lv_iconst (v := (0 : Int32)) hx hb dL_setting_15 (by decide) ?_
    exact zretW M I (Option.some.inj hr).symm dL_setting_16
def m_L_ifSet (fu : Nat) (σ : zmem) (a1 : Int32) (a2 : Int32) : Option (Int32 × zmem) := (m_X10_ifSet fu σ a1 a2).bind fun x => match x.1 with | .inl k => (if k = 0 then some ((1 : Int32), x.2) else if k = 1 then some ((2 : Int32), x.2) else none) | .inr v => (zwL x.2 124 0 v.toInt64).bind fun s => some ((0 : Int32), s)
set_option maxHeartbeats 4000000 in
set_option maxRecDepth 100000 in
theorem c_L_ifSet (l : Launch) (hl0 : l.stackTraces = false) (g : zgeo) (fu : Nat) {σ : zmem} {a1 : Int32} {a2 : Int32} {r : Int32 × zmem} (hr : m_L_ifSet fu σ a1 a2 = some r) : zCw l g yL_ifSet cL_ifSet 5 [(0, 10, 13, 13), (0, 10, 17, 15)] 7 177 [.ref (zA g 0), .int a1, .int a2, .ref (zA g 124)] σ r := by
  refine zopenW (by decide) (Nat.le_of_ble_eq_true rfl) ?_
  intro p e s m below meth c M hpx hnc htab ls hl I
  have M : zMC RL cL_ifSet 5 (some .int) g p m c s ([.ref (zA g 0), .int a1, .int a2, .ref (zA g 124)] : List Value).toArray meth := M
  have hl : lv_has ls 5 [(0, .ref (zA g 0)), (1, .int a1), (2, .int a2), (3, .ref (zA g 124))] := hl
  generalize ([.ref (zA g 0), .int a1, .int a2, .ref (zA g 124)] : List Value).toArray = args at M ⊢
  have hx := M.1.1
  have hb := M.1.2.1
  have hts := M.1.2.2.2.2
  have hown := M.1.2.2.2.1
  unfold m_L_ifSet at hr
  obtain ⟨x, e_x, hr⟩ := zb_some hr
  refine lv_aload_n hx hb dL_ifSet_0 rfl (lv_at hl 3 rfl) ?_
  refine lv_iconst (v := (0 : Int32)) hx hb dL_ifSet_1 (by decide) ?_
  refine lv_aload_n hx hb dL_ifSet_2 rfl (lv_at hl 0 rfl) ?_
  refine lv_iload_n hx hb dL_ifSet_3 rfl (lv_at hl 1 rfl) ?_
  refine lv_iload_n hx hb dL_ifSet_4 rfl (lv_at hl 2 rfl) ?_
  refine zcallX M I (zrunX (as := [.int a1, .int a2]) M hpx I (c_X10_ifSet l hl0 g fu e_x) zc_0 zK10.1 (by decide) zlv_L_77 ⟨Nat.le_of_ble_eq_true rfl, Nat.le_of_ble_eq_true rfl⟩ ⟨Nat.le_refl _, Nat.le_refl _⟩ rfl rfl (Nat.le_of_ble_eq_true rfl) hl.1 dL_ifSet_5) (fun k hk hk1 H locs ce q9 I hce hcv hcl => ?_) (fun v hv H locs I => ?_)
  · rw [hk1] at hr
    dsimp only at hr
    by_cases hk0 : k = 0
    · subst hk0
      have hr := zif_t hr rfl
      refine vx_catch (own := RL) (name := zEx 0) hown [] ⟨0, 10, 13, 13⟩ [⟨0, 10, 17, 15⟩] (htab.trans rfl) (fun z hz => by cases hz) (by decide) (by decide) (hts _ (zin (i := 720) (by decide +kernel) rfl)) (va_Nw.use rfl (hpx.2.2.2.1 0)) hce hcv hcl ?_
      refine lv_astore (lv' := [(4, .ref q9), (0, .ref (zA g 0)), (1, .int a1), (2, .int a2), (3, .ref (zA g 124))]) hx hb dL_ifSet_13 hl (by decide) rfl (fun ls hl => ?_)
      refine lv_iconst (v := (1 : Int32)) hx hb dL_ifSet_15 (by decide) ?_
      exact zretW M I (Option.some.inj hr).symm dL_ifSet_16
    have hr := zif_f hr hk0
    by_cases hk1 : k = 1
    · subst hk1
      have hr := zif_t hr rfl
      refine vx_catch (own := RL) (name := zEx 1) hown [⟨0, 10, 13, 13⟩] ⟨0, 10, 17, 15⟩ [] (htab.trans rfl) (fun z hz => by
        simp only [List.mem_cons, List.not_mem_nil, or_false] at hz
        rcases hz with rfl
        · exact Or.inr (zpass (j := 0) hnc hts (by decide) (by decide) (by decide) (zin (i := 720) (by decide +kernel) rfl))) (by decide) (by decide) (hts _ (zin (i := 721) (by decide +kernel) rfl)) (va_Nw.use rfl (hpx.2.2.2.1 1)) hce hcv hcl ?_
      refine lv_astore (lv' := [(4, .ref q9), (0, .ref (zA g 0)), (1, .int a1), (2, .int a2), (3, .ref (zA g 124))]) hx hb dL_ifSet_17 hl (by decide) rfl (fun ls hl => ?_)
      refine lv_iconst (v := (2 : Int32)) hx hb dL_ifSet_19 (by decide) ?_
      exact zretW M I (Option.some.inj hr).symm dL_ifSet_20
    have hr := zif_f hr hk1
    cases hr
  · rw [hv] at hr
    dsimp only at hr
    obtain ⟨s1, e_s1, hr⟩ := zb_some hr
    refine lv_i2l (v := v.toInt64) hx hb dL_ifSet_8 rfl ?_
    refine zlast M I zc_124 e_s1 dL_ifSet_9 (fun H locs I => ?_)
    refine lv_goto (tgt := 21) hx hb dL_ifSet_10 (by decide) ?_
    refine lv_iconst (v := (0 : Int32)) hx hb dL_ifSet_21 (by decide) ?_
    exact zretW M I (Option.some.inj hr).symm dL_ifSet_22
def m_L_ifChanged (fu : Nat) (σ : zmem) (a1 : Int32) (a2 : Int32) (a3 : Int32) : Option (Int32 × zmem) := (m_X10_ifChanged fu σ a1 a2 a3).bind fun x => match x.1 with | .inl k => (if k = 0 then some ((1 : Int32), x.2) else if k = 1 then some ((2 : Int32), x.2) else none) | .inr v => (zwL x.2 124 0 v.toInt64).bind fun s => some ((0 : Int32), s)
set_option maxHeartbeats 4000000 in
set_option maxRecDepth 100000 in
theorem c_L_ifChanged (l : Launch) (hl0 : l.stackTraces = false) (g : zgeo) (fu : Nat) {σ : zmem} {a1 : Int32} {a2 : Int32} {a3 : Int32} {r : Int32 × zmem} (hr : m_L_ifChanged fu σ a1 a2 a3 = some r) : zCw l g yL_ifChanged cL_ifChanged 6 [(0, 12, 15, 13), (0, 12, 19, 15)] 7 179 [.ref (zA g 0), .int a1, .int a2, .int a3, .ref (zA g 124)] σ r := by
  refine zopenW (by decide) (Nat.le_of_ble_eq_true rfl) ?_
  intro p e s m below meth c M hpx hnc htab ls hl I
  have M : zMC RL cL_ifChanged 6 (some .int) g p m c s ([.ref (zA g 0), .int a1, .int a2, .int a3, .ref (zA g 124)] : List Value).toArray meth := M
  have hl : lv_has ls 6 [(0, .ref (zA g 0)), (1, .int a1), (2, .int a2), (3, .int a3), (4, .ref (zA g 124))] := hl
  generalize ([.ref (zA g 0), .int a1, .int a2, .int a3, .ref (zA g 124)] : List Value).toArray = args at M ⊢
  have hx := M.1.1
  have hb := M.1.2.1
  have hts := M.1.2.2.2.2
  have hown := M.1.2.2.2.1
  unfold m_L_ifChanged at hr
  obtain ⟨x, e_x, hr⟩ := zb_some hr
  refine lv_aload hx hb dL_ifChanged_0 (lv_at hl 4 rfl) ?_
  refine lv_iconst (v := (0 : Int32)) hx hb dL_ifChanged_2 (by decide) ?_
  refine lv_aload_n hx hb dL_ifChanged_3 rfl (lv_at hl 0 rfl) ?_
  refine lv_iload_n hx hb dL_ifChanged_4 rfl (lv_at hl 1 rfl) ?_
  refine lv_iload_n hx hb dL_ifChanged_5 rfl (lv_at hl 2 rfl) ?_
  refine lv_iload_n hx hb dL_ifChanged_6 rfl (lv_at hl 3 rfl) ?_
  refine zcallX M I (zrunX (as := [.int a1, .int a2, .int a3]) M hpx I (c_X10_ifChanged l hl0 g fu e_x) zc_0 zK10.1 (by decide) zlv_L_80 ⟨Nat.le_of_ble_eq_true rfl, Nat.le_of_ble_eq_true rfl⟩ ⟨Nat.le_refl _, Nat.le_refl _⟩ rfl rfl (Nat.le_of_ble_eq_true rfl) hl.1 dL_ifChanged_7) (fun k hk hk1 H locs ce q9 I hce hcv hcl => ?_) (fun v hv H locs I => ?_)
  · rw [hk1] at hr
    dsimp only at hr
    by_cases hk0 : k = 0
    · subst hk0
      have hr := zif_t hr rfl
      refine vx_catch (own := RL) (name := zEx 0) hown [] ⟨0, 12, 15, 13⟩ [⟨0, 12, 19, 15⟩] (htab.trans rfl) (fun z hz => by cases hz) (by decide) (by decide) (hts _ (zin (i := 720) (by decide +kernel) rfl)) (va_Nw.use rfl (hpx.2.2.2.1 0)) hce hcv hcl ?_
      refine lv_astore (lv' := [(5, .ref q9), (0, .ref (zA g 0)), (1, .int a1), (2, .int a2), (3, .int a3), (4, .ref (zA g 124))]) hx hb dL_ifChanged_15 hl (by decide) rfl (fun ls hl => ?_)
      refine lv_iconst (v := (1 : Int32)) hx hb dL_ifChanged_17 (by decide) ?_
      exact zretW M I (Option.some.inj hr).symm dL_ifChanged_18
    have hr := zif_f hr hk0
    by_cases hk1 : k = 1
    · subst hk1
      have hr := zif_t hr rfl
      refine vx_catch (own := RL) (name := zEx 1) hown [⟨0, 12, 15, 13⟩] ⟨0, 12, 19, 15⟩ [] (htab.trans rfl) (fun z hz => by
        simp only [List.mem_cons, List.not_mem_nil, or_false] at hz
        rcases hz with rfl
        · exact Or.inr (zpass (j := 0) hnc hts (by decide) (by decide) (by decide) (zin (i := 720) (by decide +kernel) rfl))) (by decide) (by decide) (hts _ (zin (i := 721) (by decide +kernel) rfl)) (va_Nw.use rfl (hpx.2.2.2.1 1)) hce hcv hcl ?_
      refine lv_astore (lv' := [(5, .ref q9), (0, .ref (zA g 0)), (1, .int a1), (2, .int a2), (3, .int a3), (4, .ref (zA g 124))]) hx hb dL_ifChanged_19 hl (by decide) rfl (fun ls hl => ?_)
      refine lv_iconst (v := (2 : Int32)) hx hb dL_ifChanged_21 (by decide) ?_
      exact zretW M I (Option.some.inj hr).symm dL_ifChanged_22
    have hr := zif_f hr hk1
    cases hr
  · rw [hv] at hr
    dsimp only at hr
    obtain ⟨s1, e_s1, hr⟩ := zb_some hr
    refine lv_i2l (v := v.toInt64) hx hb dL_ifChanged_10 rfl ?_
    refine zlast M I zc_124 e_s1 dL_ifChanged_11 (fun H locs I => ?_)
    refine lv_goto (tgt := 23) hx hb dL_ifChanged_12 (by decide) ?_
    refine lv_iconst (v := (0 : Int32)) hx hb dL_ifChanged_23 (by decide) ?_
    exact zretW M I (Option.some.inj hr).symm dL_ifChanged_24
