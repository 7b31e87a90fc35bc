def zstrs : List (Nat × String) := [(82, "there is no such row or place"), (92, "a sign is 0 to 3"), (97, "the row is full"), (111, "there are not so many signs from this place on"), (123, "the last place is ahead of the first one"), (129, "the row would have too many signs"), (154, "there is no such setting"), (159, "the setting can't have this value"), (173, "a character code is 33 to 126"), (176, "the buffer is full"), (191, "the buffer is not a complete pair of rows"), (200, "there is no such snapshot"), (212, "the snapshot was not taken"), (215, "there is no saved state"), (220, "there is no such anchor"), (222, "there is no such property"), (228, "there is no such turned anchor"), (233, "gaps are numbered from 0"), (242, "there is no such row"), (247, "there is no such number")]
/-! methods of the face that throw: what they need beside, and how they end -/
def zEx (k : Nat) : String := if k = 0 then "java/lang/IndexOutOfBoundsException" else if k = 1 then "java/lang/IllegalArgumentException" else "java/lang/IllegalStateException"
abbrev zNm : List String := ["java/lang/RuntimeException", "java/lang/Exception"]
def zic (k : Nat) : Nat := if k = 0 then 84 else if k = 1 then 94 else 99
abbrev zDn : List String := ["java/lang/RuntimeException", "java/lang/Exception", "java/lang/Throwable"]
/-- what a throw needs of the state: the two statics, the texts, three casts -/
def zPx (g : zgeo) (U : State) : Prop := vx_Zq Bundle.tN "UNASSIGNED_STACK" Bundle.steD (zAA g) U U.heap ∧ vx_Zq Bundle.tN "SUPPRESSED_SENTINEL" Bundle.listD (zAA g) U U.heap ∧ (∀ q ∈ zstrs, ∃ a, vk_R RX10 q.1 q.2 a U) ∧ (∀ k, va_Nw (.castable (zEx k) (zEx k)) U) ∧ ∀ n ∈ zDn, va_Nw (.declares (Bundle.initS n)) U
theorem zPx.moved {g : zgeo} {s U : State} (h : zPx g s) (hW : s.WarmedH U.vm) (hk : ∀ q : Nat, q < s.heap.size → ¬ zAA g q → U.heap[q]? = s.heap[q]?) : zPx g U :=
  ⟨vx_Zq.moved hW.alike (h.1.kept hk), vx_Zq.moved hW.alike (h.2.1.kept hk), fun q hq => (h.2.2.1 q hq).imp fun a ha => ha.warm hW, fun k => va_Nw.warmC hW (h.2.2.2.1 k), fun n hn => va_Nw.warmD hW (h.2.2.2.2 n hn)⟩
def zPX (g : zgeo) (σ : zmem) (U : State) : Prop := zPW g σ U ∧ zPx g U
abbrev zRX : Type := (Nat ⊕ Int32) × zmem
def zrx (f n : Nat) : Room := { frames := f, cells := 1, slots := 6, locals := n }
abbrev zQX (g : zgeo) (r : zRX) := va_Qi (fun v (_ : Unit) => r.1 = .inr v) (fun _ => zPW g r.2) (zAA g)
def zPQ (g : zgeo) (σ : zmem) (U : State) : Prop := va_P (zD g) vwCl (zwl g σ) U.heap ∧ va_D (fun _ => True) (zwl g σ)
abbrev zXX (g : zgeo) (r : zRX) := vx_X (fun (_ : Unit) => True) (fun E _ t => (∃ k, k < 3 ∧ r.1 = .inl k ∧ E = zEx k) ∧ zPQ g r.2 t) (zAA g)
def zCx (r : zRX) (l : Launch) (g : zgeo) (y : MethodName) (cc : ByteArray) (nL : Nat) (ret : Option FieldType) (f n : Nat) (as : List Value) (σ : zmem) : Prop := vx_Met l y (zwm y cc nL ret) (zrx f n) (va_Pc as (zPX g σ)) (zQX g r) (zXX g r) 1 6 (zAA g)
theorem zblindX {g : zgeo} {σ : zmem} {as : List Value} : FrameBlind (va_Pc as (zPX g σ)) := fun a U k mk q => by
  obtain ⟨q0, qW, q1, q2, q3, q4⟩ := q
  have hW : U.WarmedH (U.calling k mk a).vm := State.WarmedH.refl U
  exact ⟨q0, (zblind a U k mk ⟨q0, qW⟩).2, zPx.moved (s := U) (U := U.calling k mk a) ⟨q1, q2, q3, q4⟩ hW (fun _ _ _ => rfl)⟩
/-- the walk's own method, one that throws -/
def zMX (own : String) (cc : ByteArray) (nL : Nat) (ret : Option FieldType) (g : zgeo) (l : Launch) (p : Program) (m : MethodId) (c : Code) (s : State) (args : Array Value) (meth : Method) : Prop :=
  zMC own cc nL ret g p m c s args meth ∧ l.stackTraces = false ∧ zPx g s ∧ ∀ x ∈ c.exceptionTable.toList, False
theorem zopenX {r : zRX} {l : Launch} {g : zgeo} {y : MethodName} {cc : ByteArray} {nL : Nat} {ret : Option FieldType} {f n : Nat} {as : List Value} {σ : zmem} (hl0 : l.stackTraces = false) (hy : plainName y.cls = true) (hlen : (lg_sl as).length ≤ nL)
    (body : ∀ (p : Program) (e : Env) (s : State) (m : MethodId) (below : List Frame) (meth : Method) (c : Code), zMX y.cls cc nL ret g l p m c s as.toArray meth → ∀ ls : Array Slot, lv_has ls nL (lv_args 0 as) → zIV g σ (zAA g) s.heap s.heap [] →
      W p l e (zrx f n) s m as.toArray below meth c s.heap [] 0 0 (vx_MQ below (zQX g r) (zXX g r) as.toArray s 1 6 (zAA g)) (F0 m 0 ls [])) : zCx r l g y cc nL ret f n as σ := by
  refine vx_ofW (cc := cc) (maxL := nL) (ret := ret) hy rfl ?_
  intro p e s m args below meth c s₁ B hml htab hv
  obtain ⟨rfl, ⟨hP, hK, hD, hNw⟩, hpx⟩ := hv
  have hts := atoms_spec (ws := zwm y cc nL ret) B.pre
  have hts : ∀ w ∈ wsL_law, w.before _ s = true := fun w h => hts w (List.mem_cons_of_mem _ h)
  have hown : s.vm.findClass y.cls = some m.cls := findClass_of_methodNamed B.named
  have hl := lv_entry as (n := nL) hlen
  rw [lg_entry_eq]
  exact body p e s m below meth c ⟨⟨⟨B.exec, B.bytes, hml, hown, hts⟩, B.returns, B.notSynchronized, hK, hNw⟩, hl0, hpx, htab⟩ _ hl ⟨hP, hD.weaken (fun k q hq _ => by obtain ⟨hk, rfl⟩ := zwl_key hq; exact ⟨k, hk, rfl⟩), va_S.rf⟩
set_option maxRecDepth 20000 in
theorem zatin0 : ∀ w ∈ (vx_atS RX10 84 "java/lang/IndexOutOfBoundsException" zNm).filter goodWord, w ∈ lw_tbl := by decide +kernel
theorem zatng0 : ∀ w ∈ (vx_atS RX10 84 "java/lang/IndexOutOfBoundsException" zNm).filter (fun w => !goodWord w), w ∈ Cond.castable "java/lang/IndexOutOfBoundsException" "java/lang/IndexOutOfBoundsException" :: zDn.map (fun n => Cond.declares (Bundle.initS n)) := by decide +kernel
theorem zatot0 : ∀ w ∈ vx_atS RX10 84 "java/lang/IndexOutOfBoundsException" zNm, vx_ot w = true := by decide +kernel
set_option maxRecDepth 20000 in
theorem zatin1 : ∀ w ∈ (vx_atS RX10 94 "java/lang/IllegalArgumentException" zNm).filter goodWord, w ∈ lw_tbl := by decide +kernel
theorem zatng1 : ∀ w ∈ (vx_atS RX10 94 "java/lang/IllegalArgumentException" zNm).filter (fun w => !goodWord w), w ∈ Cond.castable "java/lang/IllegalArgumentException" "java/lang/IllegalArgumentException" :: zDn.map (fun n => Cond.declares (Bundle.initS n)) := by decide +kernel
theorem zatot1 : ∀ w ∈ vx_atS RX10 94 "java/lang/IllegalArgumentException" zNm, vx_ot w = true := by decide +kernel
set_option maxRecDepth 20000 in
theorem zatin2 : ∀ w ∈ (vx_atS RX10 99 "java/lang/IllegalStateException" zNm).filter goodWord, w ∈ lw_tbl := by decide +kernel
theorem zatng2 : ∀ w ∈ (vx_atS RX10 99 "java/lang/IllegalStateException" zNm).filter (fun w => !goodWord w), w ∈ Cond.castable "java/lang/IllegalStateException" "java/lang/IllegalStateException" :: zDn.map (fun n => Cond.declares (Bundle.initS n)) := by decide +kernel
theorem zatot2 : ∀ w ∈ vx_atS RX10 99 "java/lang/IllegalStateException" zNm, vx_ot w = true := by decide +kernel
theorem zatin (k : Nat) (hk : k < 3) : ∀ w ∈ (vx_atS RX10 (zic k) (zEx k) zNm).filter goodWord, w ∈ wsL_law := by
  rcases (show k = 0 ∨ k = 1 ∨ k = 2 by omega) with rfl | rfl | rfl
  · exact fun w h => List.mem_filter.mpr ⟨zatin0 w h, (List.mem_filter.mp h).2⟩
  · exact fun w h => List.mem_filter.mpr ⟨zatin1 w h, (List.mem_filter.mp h).2⟩
  · exact fun w h => List.mem_filter.mpr ⟨zatin2 w h, (List.mem_filter.mp h).2⟩
theorem zatng (k : Nat) (hk : k < 3) : ∀ w ∈ (vx_atS RX10 (zic k) (zEx k) zNm).filter (fun w => !goodWord w), w ∈ Cond.castable (zEx k) (zEx k) :: zDn.map (fun n => Cond.declares (Bundle.initS n)) := by
  rcases (show k = 0 ∨ k = 1 ∨ k = 2 by omega) with rfl | rfl | rfl
  · exact zatng0
  · exact zatng1
  · exact zatng2
theorem zatot (k : Nat) (hk : k < 3) (ik : Nat) : ∀ w ∈ Cond.classLink RX10 ik (zEx k) :: Cond.initialized (zEx k) :: vx_atS RX10 (zic k) (zEx k) zNm, vx_ot w = true := by
  intro w hw
  rcases List.mem_cons.mp hw with rfl | hw
  · rfl
  rcases List.mem_cons.mp hw with rfl | hw
  · rfl
  revert w
  rcases (show k = 0 ∨ k = 1 ∨ k = 2 by omega) with rfl | rfl | rfl
  · exact fun w _ _ h => zatot0 w h
  · exact fun w _ _ h => zatot1 w h
  · exact fun w _ _ h => zatot2 w h
theorem zfit (k : Nat) (hk : k < 3) : Bundle.fit (zEx k) = true := by
  rcases (show k = 0 ∨ k = 1 ∨ k = 2 by omega) with rfl | rfl | rfl
  · decide
  · decide
  · decide
section ZX
variable {p : Program} {l : Launch} {e : Env} {s : State} {m : MethodId} {args : Array Value} {below : List Frame} {meth : Method} {c : Code} {H : Heap} {locs : List Loc}
variable {cc : ByteArray} {nL : Nat} {g : zgeo} {σ : zmem} {pc : Nat} {ls : Array Slot} {f n : Nat} {r : zRX}
theorem zretX {own : String} (MX : zMX own cc nL (some .int) g l p m c s args meth) (I : zIV g σ (zAA g) s.heap H locs) {v : Int32} (h1 : r = (.inr v, σ)) (hdg : decode cc pc = .ok (.ireturn, 1)) : W p l e (zrx f n) s m args below meth c H locs 0 0 (vx_MQ below (zQX g r) (zXX g r) args s 1 6 (zAA g)) (F0 m pc ls [.int v]) := by
  subst h1
  obtain ⟨⟨⟨hx, hb, hml, hown, hts⟩, hr, hlocks, hK, hNw⟩, -⟩ := MX
  refine vx_ret (W.widen (k := 1) (n := 6) (Nat.zero_le _) (Nat.zero_le _) ?_)
  exact W.iret hx hb hr (fun t ht hW => ⟨⟨v, (), rfl, rfl, zPW_of hK hNw I ht hW⟩, I.2.2.F ht⟩) I.2.2.2.2 hdg hlocks
theorem zhat {k : Nat} (hk : k < 3) (hts : ∀ w ∈ wsL_law, w.before args s = true) (h : zPx g s) : ∀ w ∈ vx_atS RX10 (zic k) (zEx k) zNm, w.before args s = true := by
  intro w hw
  by_cases hg : goodWord w = true
  · exact hts w (zatin k hk w (List.mem_filter.mpr ⟨hw, hg⟩))
  · rcases List.mem_cons.mp (zatng k hk w (List.mem_filter.mpr ⟨hw, by simpa using hg⟩)) with h2 | h2
    · rw [h2]
      exact va_Nw.use rfl (h.2.2.2.1 k)
    · obtain ⟨n, hn, rfl⟩ := List.mem_map.mp h2
      exact va_Nw.use rfl (h.2.2.2.2 n hn)
theorem zthrow (MX : zMX RX10 cc nL (some .int) g l p m c s args meth) (I : zIV g σ (zAA g) s.heap H locs) {k ik is : Nat} {text : String} (hk : k < 3) (h1 : r = (.inl k, σ)) (hik : Cond.classLink RX10 ik (zEx k) ∈ wsL_law) (hin : Cond.initialized (zEx k) ∈ wsL_law) (hstr : (is, text) ∈ zstrs)
    (d0 : decode cc pc = .ok (.new ik, 3)) (d3 : decode cc (pc + 3) = .ok (.dup, 1)) (d4 : decode cc (pc + 4) = .ok (.ldc is, 2)) (d6 : decode cc (pc + 6) = .ok (.invokespecial (zic k), 3)) (d9 : decode cc (pc + 9) = .ok (.athrow, 1)) (hsz : ls.size = nL) (hR : 6 ≤ f ∧ 82 ≤ n) :
    W p l e (zrx f n) s m args below meth c H locs 0 0 (vx_MQ below (zQX g r) (zXX g r) args s 1 6 (zAA g)) (F0 m pc ls []) := by
  subst h1
  obtain ⟨⟨⟨hx, hb, hml, hown, hts⟩, hr, hlocks, hK, hNw⟩, hl0, hpx, htab⟩ := MX
  obtain ⟨sa, hsa⟩ := hpx.2.2.1 _ hstr
  refine vx_throwS (A := zAA g) (names := zNm) (ik := ik) (is := is) (ic := zic k) (text := text) (sa := sa) hx hb hl0 hown (zfit k hk) (by decide) (hts _ hik) (hts _ hin) hsa (zhat hk hts hpx) (zatot k hk ik) hpx.1 hpx.2.1 I.2.2 (hsz.trans hml.symm) d0 d3 d4 d6 d9 (fun x hx => (htab x hx).elim) (by show 2 + 3 < f; omega) (by show 0 + (13 * (2 + 1) + 43) ≤ n; omega) (Nat.le_refl _) (Nat.le_refl _) hlocks ?_ I.2.2.2.2 (Nat.le_refl _) (Nat.le_refl _)
  intro t hal hz hkk
  refine ⟨(), trivial, ⟨⟨k, hk, rfl, rfl⟩, ?_⟩, ?_⟩
  · exact ⟨I.1.kept (fun j q hq => hkk q.1 (vx_lt I.1 hq)), I.2.1.weaken (fun _ _ _ _ => trivial)⟩
  · exact ⟨Nat.le_trans I.2.2.1 hz, fun q h1 h2 => (hkk q (Nat.lt_of_lt_of_le h1 I.2.2.1)).trans (I.2.2.2.1 q h1 h2)⟩
theorem zthrowW (MX : zMX RX10 cc nL (some .int) g l p m c s args meth) (I : zIV g σ (zAA g) s.heap H locs) {k ik is : Nat} {text : String} (hk : k < 3) (h1 : r = (.inl k, σ)) (hik : Cond.classLink RX10 ik (zEx k) ∈ wsL_law) (hin : Cond.initialized (zEx k) ∈ wsL_law) (hstr : (is, text) ∈ zstrs)
    (d0 : decode cc pc = .ok (.new ik, 3)) (d3 : decode cc (pc + 3) = .ok (.dup, 1)) (d4 : decode cc (pc + 4) = .ok (.ldc_w is, 3)) (d7 : decode cc (pc + 7) = .ok (.invokespecial (zic k), 3)) (d10 : decode cc (pc + 10) = .ok (.athrow, 1)) (hsz : ls.size = nL) (hR : 6 ≤ f ∧ 82 ≤ n) :
    W p l e (zrx f n) s m args below meth c H locs 0 0 (vx_MQ below (zQX g r) (zXX g r) args s 1 6 (zAA g)) (F0 m pc ls []) := by
  subst h1
  obtain ⟨⟨⟨hx, hb, hml, hown, hts⟩, hr, hlocks, hK, hNw⟩, hl0, hpx, htab⟩ := MX
  obtain ⟨sa, hsa⟩ := hpx.2.2.1 _ hstr
  refine vx_throwSW (A := zAA g) (names := zNm) (ik := ik) (is := is) (ic := zic k) (text := text) (sa := sa) hx hb hl0 hown (zfit k hk) (by decide) (hts _ hik) (hts _ hin) hsa (zhat hk hts hpx) (zatot k hk ik) hpx.1 hpx.2.1 I.2.2 (hsz.trans hml.symm) d0 d3 d4 d7 d10 (fun x hx => (htab x hx).elim) (by show 2 + 3 < f; omega) (by show 0 + (13 * (2 + 1) + 43) ≤ n; omega) (Nat.le_refl _) (Nat.le_refl _) hlocks ?_ I.2.2.2.2 (Nat.le_refl _) (Nat.le_refl _)
  intro t hal hz hkk
  refine ⟨(), trivial, ⟨⟨k, hk, rfl, rfl⟩, ?_⟩, ?_⟩
  · exact ⟨I.1.kept (fun j q hq => hkk q.1 (vx_lt I.1 hq)), I.2.1.weaken (fun _ _ _ _ => trivial)⟩
  · exact ⟨Nat.le_trans I.2.2.1 hz, fun q h1 h2 => (hkk q (Nat.lt_of_lt_of_le h1 I.2.2.1)).trans (I.2.2.2.1 q h1 h2)⟩
end ZX
