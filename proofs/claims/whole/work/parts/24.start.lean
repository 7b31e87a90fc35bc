/-- all that is laid is done -/
def zHI (D : va_G) (cI cJ : ClassId) (A : Nat → Prop) (H0 H : Heap) (locs : List Loc) (μ : zmem) (n : Nat) (ad : Nat → Nat) : Prop := ∃ ec : Nat → va_E, zIG D A H0 H locs ad ec n ∧ ∀ j, j < n → ec j = zce (zG D cI cJ ad) μ j ∧ zcl j n
def zHP (D : va_G) (cI cJ : ClassId) (A : Nat → Prop) (H0 H : Heap) (locs : List Loc) (μ : zmem) (n ci : Nat) (ad : Nat → Nat) : Prop := ∃ ec : Nat → va_E, zIG D A H0 H locs ad ec (n + 1) ∧ (∀ j, j < n → ec j = zce (zG D cI cJ ad) μ j ∧ zcl j n) ∧ ec n = .inr (ci, zbl ci)
section ZH
variable {p : Program} {l : Launch} {e : Env} {R : Room} {s : State} {m : MethodId} {args : Array Value} {below : List Frame} {meth : Method} {c : Code} {H : Heap} {locs : List Loc} {cells slots : Nat} {Q : State → Prop}
variable {own : String} {cc : ByteArray} {nL : Nat} {D : va_G} {cI cJ : ClassId} {A : Nat → Prop} {H0 : Heap} {pc : Nat} {ls : Array Slot} {rest : List Value}
variable {n : Nat} {μ : zmem} {ad : Nat → Nat}
theorem hnew (B : zMB own cc nL D cI cJ p m c s args) (I : zHI D cI cJ A H0 H locs μ n ad) (hA : ∀ q, H0.size ≤ q → A q) {ci N idx : Nat} {C : String} {T : u_T} {ty : Nat → FieldType} (K : zCK ci C T N ty) (w1 : Cond.classLink own idx C ∈ wsL_law) (w2 : Cond.instantiable C N ∈ wsL_law) (w3 : Cond.initialized C ∈ wsL_law)
    (hbl : ∀ j, j < N → defaultValue (ty j) = vp_V (zbl ci) j) (hcells : cells + 1 ≤ R.cells) (hslots : slots + N ≤ R.slots) (hdg : decode cc pc = .ok (.new idx, 3))
    (kk : ∀ (ad' : Nat → Nat) (H : Heap), (∀ j, j < n → ad' j = ad j) → zHP D cI cJ A H0 H locs μ n ci ad' → W p l e R s m args below meth c H locs (cells + 1) (slots + N) Q (F0 m (pc + 3) ls (.ref (ad' n) :: rest))) : W p l e R s m args below meth c H locs cells slots Q (F0 m pc ls rest) := by
  obtain ⟨⟨hx, hb, hml, hown, hts⟩, hK, hNi⟩ := B
  obtain ⟨ec, ⟨hP, hD, hS⟩, h5⟩ := I
  obtain ⟨k1, k2, k3, k4, k5, k6⟩ := K
  refine va_new hx hb hts k2 ty k3 hown (hts _ w1) (hts _ w2) (hts _ w3) hK hP hD hS hA k1 (fs := zbl ci) hbl hcells hslots hdg (fun q H1 hP hD hS => ?_)
  rw [zwN_push] at hP hD
  have hk : ∀ j, j < n → zu ad n q j = ad j := fun j hj => zu_ne (by omega)
  have := kk (zu ad n q) H1 hk ⟨zu ec n (.inr (ci, zbl ci)), ⟨hP, hD, hS⟩, fun j hj2 => ⟨(zu_ne (by omega)).trans ((h5 j hj2).1.trans (zce_ad (h5 j hj2).2 hk).symm), (h5 j hj2).2⟩, zu_at⟩
  rwa [zu_at] at this
theorem hnewL (B : zMB own cc nL D cI cJ p m c s args) (I : zHI D cI cJ A H0 H locs μ n ad) (hA : ∀ q, H0.size ≤ q → A q) {ln : Nat} {v : Int32} (hn : zkd n = (101, ln)) (hv : v = nI ln) (hl : ln ≤ 10000) (hμ : μ.2 n = fun _ => 0) (w1 : Cond.arrayClass .long ∈ wsL_law)
    (hcells : cells + 1 ≤ R.cells) (hslots : slots + ln ≤ R.slots) (hdg : decode cc pc = .ok (.newarray .long, 2))
    (kk : ∀ (ad' : Nat → Nat) (H : Heap), (∀ j, j < n → ad' j = ad j) → zHI D cI cJ A H0 H locs μ (n + 1) ad' → W p l e R s m args below meth c H locs (cells + 1) (slots + ln) Q (F0 m (pc + 2) ls (.ref (ad' n) :: rest))) : W p l e R s m args below meth c H locs cells slots Q (F0 m pc ls (.int v :: rest)) := by
  obtain ⟨⟨hx, hb, hml, hown, hts⟩, hK, hNi⟩ := B
  obtain ⟨ec, ⟨hP, hD, hS⟩, h5⟩ := I
  subst hv
  refine va_newa (atype := .long) (a0 := (ln, .inr (.inl (fun _ => 0)))) hx hb (hts _ w1) rfl hK hP hD hS hA (fun _ => rfl) (nI_pos (by omega)) (nI_clamp (by omega)) (by show ln * 8 ≤ _; omega) hcells hslots hdg (fun q cA H1 hK2 hP hD hS => ?_)
  have e1 : cA = cJ := by
    have a1 := (hK2.2 2 (cA, .long) rfl).2
    have a2 := (hK.2 1 (cJ, .long) rfl).2
    exact Option.some.inj (a1.symm.trans a2)
  subst e1
  rw [zwN_push] at hP hD
  have hk : ∀ j, j < n → zu ad n q j = ad j := fun j hj => zu_ne (by omega)
  have := kk (zu ad n q) H1 hk ⟨zu ec n (.inl (cA, ln, .inr (.inl (fun _ => 0)))), ⟨hP, hD, hS⟩, fun j hj2 => ?_⟩
  · rwa [zu_at] at this
  · by_cases hjn : j = n
    · subst hjn
      refine ⟨?_, fun d hd => ?_⟩
      · rw [zu_at, zce_la hn, hμ]
        rfl
      · rw [hn] at hd
        exact nomatch (show d ∈ ([] : List Nat) from hd)
    · have h6 := h5 j (by omega)
      exact ⟨(zu_ne hjn).trans (h6.1.trans (zce_ad h6.2 hk).symm), fun d hd h2 => Nat.lt_succ_of_lt (h6.2 d hd h2)⟩
theorem hinit (B : zMB own cc nL D cI cJ p m c s args) {ci : Nat} (I : zHP D cI cJ A H0 H locs μ n ci ad) (hA : ∀ q, H0.size ≤ q → A q) (hn : zkd n = (ci, 0)) {y : MethodName} {cy : ByteArray} {nY f o mc ms k idx : Nat} {X : Nat → Prop} {as : Nat → List Value} (hX : X n) (hM : zCn l D cI cJ y cy nY f o mc ms ci X as μ)
    (hcl : ∀ j, n ≤ j → j < n + zsz ci → zcl j (n + zsz ci)) (hsz : 0 < zsz ci) (hlk : Cond.methodLink own idx y ∈ wsL_law) (w1 : Cond.instanceMethod y ∈ wsL_law) (w2 : Cond.initialized y.cls ∈ wsL_law) (w3 : Cond.code y cy nY none ∈ wsL_law) (hy1 : y.name = "<init>")
    (hd : y.cls ≠ "java/lang/invoke/MethodHandle" ∧ y.cls ≠ "java/lang/invoke/VarHandle" ∧ (parseMethodDescriptor y.desc).map (fun d => d.parameters.length) = some k) (hR : f + 1 ≤ R.frames ∧ 8 + (nY + 11) + o ≤ R.locals) (hcs : cells + mc ≤ R.cells ∧ slots + ms ≤ R.slots) (hlen : (as n).length = k) {st : List Value} (hst : st = (as n).reverse ++ .ref (ad n) :: rest) (hcat : (rest.map fun v => v.category).sum ≤ 8) (hls : ls.size = nL) (hdg : decode cc pc = .ok (.invokespecial idx, 3))
    (kk : ∀ (ad' : Nat → Nat) (H : Heap) (locs : List Loc), (∀ j, j ≤ n → ad' j = ad j) → zHI D cI cJ A H0 H locs μ (n + zsz ci) ad' → W p l e R s m args below meth c H locs (cells + mc) (slots + ms) Q (F0 m (pc + 3) ls rest)) : W p l e R s m args below meth c H locs cells slots Q (F0 m pc ls st) := by
  obtain ⟨⟨hx, hb, hml, hown, hts⟩, hK, hNi⟩ := B
  obtain ⟨ec, ⟨hP, hD, hS⟩, h5, h6⟩ := I
  have hm := hM ad ec n H.size hn hX h6
  have hG : GoodIn wsL_law (zwm y cy nY none) := fun w hw => zbig w (by
    rcases List.mem_cons.mp hw with rfl | hw
    · exact w3
    · exact hw)
  have hpre : ∀ U : State, U.heap = H → s.WarmedH U.vm → va_Pc (.ref (ad n) :: as n) (zPG D cI cJ ad ec (n + 1) H.size) (Value.ref (ad n) :: as n).toArray U := fun U hU hW => ⟨rfl, by rw [hU], by rw [hU]; exact hP, hD.weaken (fun _ _ _ _ => trivial), va_K.moved hW.alike hK, fun z hz => va_Nw.warmM hW (hNi z hz)⟩
  have hr := va_runI (l := l) (e := e) (R := R) (below := below) (meth := meth) (locs := locs) (cells := cells) (slots := slots) (As := as n) (rest := rest) (g := F0 m pc ls st) ⟨hx, hb, hml, hown, hts⟩ hm (cwI k hts hG rfl rfl rfl (hts _ w2) (hts _ hlk) (hts _ w1) hy1 hd hR) ⟨zblindG, hpre⟩ rfl hlen hls hst (lv_room hcat) hdg hcs
  have hfree : ∀ q, zAn ad n H.size q → A q := by
    intro q hq
    rcases hq with ⟨j, hj, rfl⟩ | hq
    · exact hD.2 j (ad j, ec j) (zwN_get (by omega))
    · exact hA q (Nat.le_trans hS.1 hq)
  refine va_callv hr hS (fun q _ h => hfree q h) hfree (fun ad' t H1 locs1 ht hvm hw hB hz hk hS => ?_)
  obtain ⟨hB1, hB2⟩ := hB
  rw [ht] at hB1
  refine kk ad' H1 locs1 hw ⟨zfin D cI cJ μ ad' ec n, ⟨hB1, hB2.weaken (fun _ q _ h => hfree q.1 h), hS⟩, fun j hj2 => ?_⟩
  by_cases hjn : j < n
  · have h7 := h5 j hjn
    exact ⟨(if_pos hjn).trans (h7.1.trans (zce_ad h7.2 (fun k hk => hw k (by omega))).symm), fun d hd h8 => Nat.lt_of_lt_of_le (h7.2 d hd h8) (by omega)⟩
  · exact ⟨if_neg hjn, hcl j (by omega) hj2⟩
end ZH
theorem zflags {l : Launch} (h : l.flags = flags0) : l.stackTraces = false := by
  unfold Launch.stackTraces
  rw [h]
  decide +kernel
theorem zaex {s : State} {args : Array Value} {ty : FieldType} (h : (Cond.arrayClass ty).before args s = true) : ∃ cA, ArrOfT s cA ty ∧ s.vm.findClass ("[" ++ ty.toString) = some cA := by
  obtain ⟨cA, kA, comp, h1, h2, h3⟩ := Cond.arrayClass_spec h
  exact ⟨cA, fun n z => ⟨fun k h => (by cases h), kA, h2, comp, h3⟩, h1⟩
set_option maxRecDepth 100000 in
theorem zdex {s : State} {args : Array Value} (hts : ∀ w ∈ wsL_law, w.before args s = true) : ∃ (dC : Nat → ClassId) (dI : Nat → Nat → Nat), ∀ (c : Nat) (q : vw_C), vwCl[c]? = some q → u_Kn s q.1 q.2.1 q.2.2 (dC c) (dI c) := by
  have h : ∀ c : Nat, ∃ (cC : ClassId) (iS : Nat → Nat), ∀ q : vw_C, vwCl[c]? = some q → u_Kn s q.1 q.2.1 q.2.2 cC iS := by
    intro c
    by_cases hc : c < 12
    · rcases (show c = 0 ∨ c = 1 ∨ c = 2 ∨ c = 3 ∨ c = 4 ∨ c = 5 ∨ c = 6 ∨ c = 7 ∨ c = 8 ∨ c = 9 ∨ c = 10 ∨ c = 11 by omega) with rfl | rfl | rfl | rfl | rfl | rfl | rfl | rfl | rfl | rfl | rfl | rfl
      · exact (u_known (C := RX0) (T := TX0) (N := 6) (n := 6) hts zin0 (hts _ (zin (i := 192) (by decide +kernel) rfl))).imp fun cC h => h.imp fun iS h q hq => by cases hq; exact h
      · exact (u_known (C := RX1) (T := TX1) (N := 1) (n := 1) hts zin1 (hts _ (zin (i := 118) (by decide +kernel) rfl))).imp fun cC h => h.imp fun iS h q hq => by cases hq; exact h
      · exact (u_known (C := RX2) (T := TX2) (N := 5) (n := 5) hts zin2 (hts _ (zin (i := 227) (by decide +kernel) rfl))).imp fun cC h => h.imp fun iS h q hq => by cases hq; exact h
      · exact (u_known (C := RX3) (T := TX3) (N := 6) (n := 6) hts zin3 (hts _ (zin (i := 256) (by decide +kernel) rfl))).imp fun cC h => h.imp fun iS h q hq => by cases hq; exact h
      · exact (u_known (C := RX4) (T := TX4) (N := 2) (n := 2) hts zin4 (hts _ (zin (i := 156) (by decide +kernel) rfl))).imp fun cC h => h.imp fun iS h q hq => by cases hq; exact h
      · exact (u_known (C := RX5) (T := TX5) (N := 8) (n := 8) hts zin5 (hts _ (zin (i := 186) (by decide +kernel) rfl))).imp fun cC h => h.imp fun iS h q hq => by cases hq; exact h
      · exact (u_known (C := RX6) (T := TX6) (N := 2) (n := 2) hts zin6 (hts _ (zin (i := 103) (by decide +kernel) rfl))).imp fun cC h => h.imp fun iS h q hq => by cases hq; exact h
      · exact (u_known (C := RX7) (T := TX7) (N := 3) (n := 3) hts zin7 (hts _ (zin (i := 97) (by decide +kernel) rfl))).imp fun cC h => h.imp fun iS h q hq => by cases hq; exact h
      · exact (u_known (C := RX8) (T := TX8) (N := 2) (n := 2) hts zin8 (hts _ (zin (i := 171) (by decide +kernel) rfl))).imp fun cC h => h.imp fun iS h q hq => by cases hq; exact h
      · exact (u_known (C := RX9) (T := TX9) (N := 4) (n := 4) hts zin9 (hts _ (zin (i := 316) (by decide +kernel) rfl))).imp fun cC h => h.imp fun iS h q hq => by cases hq; exact h
      · exact (u_known (C := RX10) (T := TX10) (N := 12) (n := 12) hts zin10 (hts _ (zin (i := 89) (by decide +kernel) rfl))).imp fun cC h => h.imp fun iS h q hq => by cases hq; exact h
      · exact (u_known (C := RX11) (T := TX11) (N := 30) (n := 30) hts zin11 (hts _ (zin (i := 1058) (by decide +kernel) rfl))).imp fun cC h => h.imp fun iS h q hq => by cases hq; exact h
    · exact ⟨0, fun _ => 0, fun q hq => absurd (List.getElem?_eq_some_iff.mp hq).1 (by show ¬ c < 12; exact hc)⟩
  exact ⟨fun c => Classical.choose (h c), fun c => Classical.choose (Classical.choose_spec (h c)), fun c q hq => Classical.choose_spec (Classical.choose_spec (h c)) q hq⟩
set_option maxRecDepth 100000 in
theorem zNi_at {s : State} {args : Array Value} (hts0 : ∀ w ∈ lw_tbl, w.before args s = true) : zNi s := by
  intro q hq
  simp only [zNl, List.mem_cons, List.not_mem_nil, or_false] at hq
  rcases hq with rfl | rfl | rfl | rfl | rfl | rfl | rfl | rfl | rfl
  · exact va_Nw.of rfl (hts0 _ (List.mem_of_getElem? (i := 104) (by decide +kernel)))
  · exact va_Nw.of rfl (hts0 _ (List.mem_of_getElem? (i := 157) (by decide +kernel)))
  · exact va_Nw.of rfl (hts0 _ (List.mem_of_getElem? (i := 172) (by decide +kernel)))
  · exact va_Nw.of rfl (hts0 _ (List.mem_of_getElem? (i := 187) (by decide +kernel)))
  · exact va_Nw.of rfl (hts0 _ (List.mem_of_getElem? (i := 317) (by decide +kernel)))
  · exact va_Nw.of rfl (hts0 _ (List.mem_of_getElem? (i := 193) (by decide +kernel)))
  · exact va_Nw.of rfl (hts0 _ (List.mem_of_getElem? (i := 228) (by decide +kernel)))
  · exact va_Nw.of rfl (hts0 _ (List.mem_of_getElem? (i := 257) (by decide +kernel)))
  · exact va_Nw.of rfl (hts0 _ (List.mem_of_getElem? (i := 322) (by decide +kernel)))
theorem zNw_at {s : State} {args : Array Value} (hts0 : ∀ w ∈ lw_tbl, w.before args s = true) : zNw s := va_Nw.of rfl (hts0 _ (List.mem_of_getElem? (i := 110) (by decide +kernel)))
set_option maxRecDepth 100000 in
set_option maxHeartbeats 4000000 in
theorem zstr_at {s : State} {args : Array Value} (hts0 : ∀ w ∈ lw_tbl, w.before args s = true) (hgv : (Jvm.Cond.and given_1 narrow_1).before args s = true) : ∀ q ∈ zstrs, ∃ a, vk_R RX10 q.1 q.2 a s := by
  have hs := flat_of_before _ hgv
  have key : ∀ (k : Nat) (tx : String), (Cond.stringRef RX10 k tx).before args s = true → (Cond.exactly (.string RX10 k) "java/lang/String").before args s = true → ∃ a, vk_R RX10 k tx a s := by
    intro k tx h1 h2
    obtain ⟨a, c, cA, kA, q1, -⟩ := Cond.exactly_spec (args := args) (first := s) (o := none) (s := s) (idx := []) (t := .string RX10 k) (cls := "java/lang/String") h2
    exact ⟨a, vk_R.of h1 q1⟩
  intro q hq
  simp only [zstrs, List.mem_cons, List.not_mem_nil, or_false] at hq
  rcases hq with rfl | rfl | rfl | rfl | rfl | rfl | rfl | rfl | rfl | rfl | rfl | rfl | rfl | rfl | rfl | rfl | rfl | rfl | rfl | rfl
  · exact key _ _ (hts0 _ (List.mem_of_getElem? (i := 771) (by decide +kernel))) (hs _ (by decide +kernel))
  · exact key _ _ (hts0 _ (List.mem_of_getElem? (i := 810) (by decide +kernel))) (hs _ (by decide +kernel))
  · exact key _ _ (hts0 _ (List.mem_of_getElem? (i := 826) (by decide +kernel))) (hs _ (by decide +kernel))
  · exact key _ _ (hts0 _ (List.mem_of_getElem? (i := 848) (by decide +kernel))) (hs _ (by decide +kernel))
  · exact key _ _ (hts0 _ (List.mem_of_getElem? (i := 868) (by decide +kernel))) (hs _ (by decide +kernel))
  · exact key _ _ (hts0 _ (List.mem_of_getElem? (i := 880) (by decide +kernel))) (hs _ (by decide +kernel))
  · exact key _ _ (hts0 _ (List.mem_of_getElem? (i := 895) (by decide +kernel))) (hs _ (by decide +kernel))
  · exact key _ _ (hts0 _ (List.mem_of_getElem? (i := 899) (by decide +kernel))) (hs _ (by decide +kernel))
  · exact key _ _ (hts0 _ (List.mem_of_getElem? (i := 907) (by decide +kernel))) (hs _ (by decide +kernel))
  · exact key _ _ (hts0 _ (List.mem_of_getElem? (i := 908) (by decide +kernel))) (hs _ (by decide +kernel))
  · exact key _ _ (hts0 _ (List.mem_of_getElem? (i := 926) (by decide +kernel))) (hs _ (by decide +kernel))
  · exact key _ _ (hts0 _ (List.mem_of_getElem? (i := 951) (by decide +kernel))) (hs _ (by decide +kernel))
  · exact key _ _ (hts0 _ (List.mem_of_getElem? (i := 964) (by decide +kernel))) (hs _ (by decide +kernel))
  · exact key _ _ (hts0 _ (List.mem_of_getElem? (i := 972) (by decide +kernel))) (hs _ (by decide +kernel))
  · exact key _ _ (hts0 _ (List.mem_of_getElem? (i := 995) (by decide +kernel))) (hs _ (by decide +kernel))
  · exact key _ _ (hts0 _ (List.mem_of_getElem? (i := 996) (by decide +kernel))) (hs _ (by decide +kernel))
  · exact key _ _ (hts0 _ (List.mem_of_getElem? (i := 1004) (by decide +kernel))) (hs _ (by decide +kernel))
  · exact key _ _ (hts0 _ (List.mem_of_getElem? (i := 1012) (by decide +kernel))) (hs _ (by decide +kernel))
  · exact key _ _ (hts0 _ (List.mem_of_getElem? (i := 1027) (by decide +kernel))) (hs _ (by decide +kernel))
  · exact key _ _ (hts0 _ (List.mem_of_getElem? (i := 1035) (by decide +kernel))) (hs _ (by decide +kernel))
set_option maxRecDepth 100000 in
set_option maxHeartbeats 4000000 in
theorem zPx_at {s : State} {args : Array Value} {g : zgeo} (hts0 : ∀ w ∈ lw_tbl, w.before args s = true) (hgv : (Jvm.Cond.and given_1 narrow_1).before args s = true) (hA : ∀ a : Nat, a < s.heap.size → ¬ zAA g a) : zPx g s := by
  have hs := flat_of_before _ hgv
  refine ⟨vx_Zqof (hts0 _ (List.mem_of_getElem? (i := 757) (by decide +kernel))) (hts0 _ (List.mem_of_getElem? (i := 80) (by decide +kernel))) (hs _ (by decide +kernel)) hA, vx_Zqof (hts0 _ (List.mem_of_getElem? (i := 759) (by decide +kernel))) (hts0 _ (List.mem_of_getElem? (i := 80) (by decide +kernel))) (hs _ (by decide +kernel)) hA, zstr_at hts0 hgv, fun k => ?_, fun n hn => ?_⟩
  · unfold zEx
    by_cases h0 : k = 0
    · rw [if_pos h0]; exact va_Nw.of rfl (hts0 _ (List.mem_of_getElem? (i := 732) (by decide +kernel)))
    · rw [if_neg h0]
      by_cases h1 : k = 1
      · rw [if_pos h1]; exact va_Nw.of rfl (hts0 _ (List.mem_of_getElem? (i := 803) (by decide +kernel)))
      · rw [if_neg h1]; exact va_Nw.of rfl (hts0 _ (List.mem_of_getElem? (i := 819) (by decide +kernel)))
  · simp only [zDn, List.mem_cons, List.not_mem_nil, or_false] at hn
    rcases hn with rfl | rfl | rfl
    · exact va_Nw.of rfl (hts0 _ (List.mem_of_getElem? (i := 734) (by decide +kernel)))
    · exact va_Nw.of rfl (hts0 _ (List.mem_of_getElem? (i := 736) (by decide +kernel)))
    · exact va_Nw.of rfl (hts0 _ (List.mem_of_getElem? (i := 738) (by decide +kernel)))
set_option maxRecDepth 100000 in
set_option maxHeartbeats 4000000 in
theorem zNc_at {s : State} {args : Array Value} (hgv : (Jvm.Cond.and given_1 narrow_1).before args s = true) : zNc s := by
  have hs := flat_of_before _ hgv
  exact ⟨va_Nc.of (args := args) (hs (.not (.castable "java/lang/IllegalArgumentException" "java/lang/IndexOutOfBoundsException")) (by decide +kernel)), va_Nc.of (args := args) (hs (.not (.castable "java/lang/IllegalStateException" "java/lang/IndexOutOfBoundsException")) (by decide +kernel)), va_Nc.of (args := args) (hs (.not (.castable "java/lang/IllegalStateException" "java/lang/IllegalArgumentException")) (by decide +kernel))⟩
set_option maxHeartbeats 40000000 in
set_option maxRecDepth 100000 in
/-- the walk from the entry, once the pure loop is known to answer 1 -/
theorem whole_open (hpure : ∀ (xs : Nat → Int32) (L : Nat), L ≤ 2560 → l_L_law 5000 xs L 5000 0 zσ0 = some 1) {p : Program} {e : Env} {s : State} {m : MethodId} {below : List Frame} {meth : Method} {c : Code} (l : Launch) (hflags : l.flags = flags0) {b L : Nat} {xs : Nat → Int32} (hL : L ≤ 2560) (C0 : lw_At p s m meth c b L xs) : W p l e room_1 s m #[Value.ref b] below meth c s.heap [] 0 0 (lw_Z below #[Value.ref b] s) (entryFrame m ([Value.ref b] : List Value).toArray 9) := by
  obtain ⟨hx, hb, hr, hml, hown, hts0, hX, hbl, hlocks, hgv⟩ := id C0
  have hl0 := zflags hflags
  have hts : ∀ w ∈ wsL_law, w.before #[Value.ref b] s = true := fun w h => hts0 w (List.mem_filter.mp h).1
  have hA : ∀ q : Nat, s.heap.size ≤ q → (fun q : Nat => s.heap.size ≤ q) q := fun _ h => h
  obtain ⟨dC, dI, hdK⟩ := zdex hts
  obtain ⟨cI, hI1, hI2⟩ := zaex (ty := .int) (hts _ (zin (i := 116) (by decide +kernel) rfl))
  obtain ⟨cJ, hJ1, hJ2⟩ := zaex (ty := .long) (hts _ (zin (i := 1449) (by decide +kernel) rfl))
  obtain ⟨D, hDe⟩ : ∃ D : va_G, D = (dC, dI) := ⟨_, rfl⟩
  have hK : va_K D vwCl (zty cI cJ) s := by
    subst hDe
    refine ⟨hdK, fun k q hq => ?_⟩
    have hk : k < 2 := (List.getElem?_eq_some_iff.mp hq).1
    rcases (show k = 0 ∨ k = 1 by omega) with rfl | rfl
    · cases hq; exact ⟨hI1, hI2⟩
    · cases hq; exact ⟨hJ1, hJ2⟩
  have hNi := zNi_at hts0
  have hNw := zNw_at hts0
  have B : zMB RL code 9 D cI cJ p m c s #[Value.ref b] := ⟨⟨hx, hb, hml, hown, hts⟩, hK, hNi⟩
  have hl := lv_entry ([.ref b]) (n := 9) (Nat.le_of_ble_eq_true rfl)
  rw [lg_entry_eq]
  generalize (lg_sl ([.ref b]) ++ List.replicate (9 - (lg_sl ([.ref b])).length) Slot.unset).toArray = ls at hl ⊢
  have hl : lv_has ls 9 [(0, .ref b)] := hl
  have I : zHI D cI cJ (fun q : Nat => s.heap.size ≤ q) s.heap s.heap [] zσ0 0 (fun _ => 0) := ⟨fun _ => .inr (0, []), ⟨fun k q h => absurd h (by simp [zwN]), ⟨fun i j p q h => absurd h (by simp [zwN]), fun k q h => absurd h (by simp [zwN])⟩, va_S.rf⟩, fun j hj => absurd hj (Nat.not_lt_zero _)⟩
  refine hnew B I hA zK10 (zin (i := 88) (by decide +kernel) rfl) (zin (i := 89) (by decide +kernel) rfl) (zin (i := 68) (by decide +kernel) rfl) (by decide +kernel) (Nat.le_of_ble_eq_true rfl) (Nat.le_of_ble_eq_true rfl) dL_law_0 (fun ad1 H hk1 I => ?_)
  refine lv_dup hx hb dL_law_3 rfl ?_
  refine hinit (as := fun _ => []) (k := 0) B I hA zc_0 trivial (c_X10_init l D cI cJ) (zclos_10 zc_0) (by decide) (zin (i := 90) (by decide +kernel) rfl) (zin (i := 91) (by decide +kernel) rfl) (zin (i := 68) (by decide +kernel) rfl) (zin (i := 92) (by decide +kernel) rfl) rfl ⟨by decide, by decide, by decide +kernel⟩ ⟨Nat.le_of_ble_eq_true rfl, Nat.le_of_ble_eq_true rfl⟩ ⟨Nat.le_of_ble_eq_true rfl, Nat.le_of_ble_eq_true rfl⟩ rfl rfl (Nat.le_of_ble_eq_true rfl) hl.1 dL_law_4 (fun ad2 H locs hk2 I => ?_)
  refine lv_astore_n (lv' := [(1, .ref (ad1 0)), (0, .ref b)]) hx hb dL_law_7 rfl hl (by decide) rfl (fun ls hl => ?_)
  have I : zHI D cI cJ _ _ _ _ zσ0 103 ad2 := I
  refine hnew B I hA zK11 (zin (i := 1057) (by decide +kernel) rfl) (zin (i := 1058) (by decide +kernel) rfl) (zin (i := 79) (by decide +kernel) rfl) (by decide +kernel) (Nat.le_of_ble_eq_true rfl) (Nat.le_of_ble_eq_true rfl) dL_law_8 (fun ad3 H hk3 I => ?_)
  refine lv_dup hx hb dL_law_11 rfl ?_
  refine hinit (as := fun _ => []) (k := 0) B I hA zc_103 trivial (c_X11_init l D cI cJ) (zclos_11 zc_103) (by decide) (zin (i := 1059) (by decide +kernel) rfl) (zin (i := 1060) (by decide +kernel) rfl) (zin (i := 79) (by decide +kernel) rfl) (zin (i := 1061) (by decide +kernel) rfl) rfl ⟨by decide, by decide, by decide +kernel⟩ ⟨Nat.le_of_ble_eq_true rfl, Nat.le_of_ble_eq_true rfl⟩ ⟨Nat.le_of_ble_eq_true rfl, Nat.le_of_ble_eq_true rfl⟩ rfl rfl (Nat.le_of_ble_eq_true rfl) hl.1 dL_law_12 (fun ad4 H locs hk4 I => ?_)
  refine lv_astore_n (lv' := [(2, .ref (ad3 103)), (1, .ref (ad1 0)), (0, .ref b)]) hx hb dL_law_15 rfl hl (by decide) rfl (fun ls hl => ?_)
  have I : zHI D cI cJ _ _ _ _ zσ0 124 ad4 := I
  refine lv_iconst (v := (1 : Int32)) hx hb dL_law_16 (by decide) ?_
  refine hnewL (ln := 1) B I hA zc_124 rfl (by decide) rfl (zin (i := 1449) (by decide +kernel) rfl) (Nat.le_of_ble_eq_true rfl) (Nat.le_of_ble_eq_true rfl) dL_law_17 (fun ad5 H hk5 I => ?_)
  refine lv_astore_n (lv' := [(3, .ref (ad5 124)), (2, .ref (ad3 103)), (1, .ref (ad1 0)), (0, .ref b)]) hx hb dL_law_19 rfl hl (by decide) rfl (fun ls hl => ?_)
  refine lv_iconst (v := (0 : Int32)) hx hb dL_law_20 (by decide) ?_
  refine lv_istore (lv' := [(4, .int 0), (3, .ref (ad5 124)), (2, .ref (ad3 103)), (1, .ref (ad1 0)), (0, .ref b)]) hx hb dL_law_21 hl (by decide) rfl (fun ls hl => ?_)
  have e1 : ad1 0 = ad5 0 := ((hk5 0 (by decide)).trans ((hk4 0 (by decide)).trans ((hk3 0 (by decide)).trans (hk2 0 (by decide))))).symm
  have e2 : ad3 103 = ad5 103 := ((hk5 103 (by decide)).trans (hk4 103 (by decide))).symm
  rw [e1, e2] at hl
  obtain ⟨ec, ⟨hP, hD, hS⟩, h5⟩ := I
  have ew : zwl (zG D cI cJ ad5) zσ0 = zwN ad5 ec 125 := zwN_congr (ad := ad5) (ec := ec) (ad' := ad5) (ec' := zce (zG D cI cJ ad5) zσ0) (fun _ _ => rfl) (fun j hj => (h5 j hj).1.symm)
  have IV : zIV (zG D cI cJ ad5) zσ0 (fun q : Nat => s.heap.size ≤ q) s.heap H locs := ⟨by rw [ew]; exact hP, by rw [ew]; exact hD, hS⟩
  have hAA : ∀ a : Nat, a < s.heap.size → ¬ zAA (zG D cI cJ ad5) a := fun a ha h => Nat.not_le.mpr ha (IV.app a h)
  have M : zMC RL code 9 ret (zG D cI cJ ad5) p m c s #[Value.ref b] meth := ⟨⟨hx, hb, hml, hown, hts⟩, hr, hlocks, hK, hNw⟩
  refine W.widen (k := 125 + 0) (n := 5690 + 6 * 0) (Nat.le_of_ble_eq_true rfl) (Nat.le_of_ble_eq_true rfl) ?_
  exact k_L_law hl0 hL M (zPx_at hts0 hgv hAA) (zNc_at hgv) hX hbl (by decide) (by decide) 5000 0 0 zσ0 rfl (by decide) (hpure xs L hL) ls H locs (lv_sub hl [4, 3, 2, 1, 0] rfl) IV
