def zszs : List Nat := [9, 2, 9, 3, 3, 28, 2, 7, 3, 12, 103, 21]
def zNl : List (String × Nat × MethodName) := [(RX7, 11, yX6_init), (RX10, 34, yX4_init), (RX10, 41, yX8_init), (RX10, 48, yX5_init), (RX10, 58, yX9_init), (RX5, 11, yX0_init), (RX5, 20, yX2_init), (RX5, 34, yX3_init), (RX9, 11, yX0_init)]
/-! the making of the world: cells one behind another, in the order of the layout -/
def zu {α : Type} (f : Nat → α) (i : Nat) (v : α) : Nat → α := fun j => if j = i then v else f j
theorem zu_at {α : Type} {f : Nat → α} {i : Nat} {v : α} : zu f i v i = v := if_pos rfl
theorem zu_ne {α : Type} {f : Nat → α} {i j : Nat} {v : α} (h : j ≠ i) : zu f i v j = f j := if_neg h
def zwN (ad : Nat → Nat) (ec : Nat → va_E) (n : Nat) : va_W := (List.range n).map (fun i => (ad i, ec i))
theorem zwN_get {ad : Nat → Nat} {ec : Nat → va_E} {n i : Nat} (h : i < n) : (zwN ad ec n)[i]? = some (ad i, ec i) := by
  unfold zwN
  rw [List.getElem?_map, List.getElem?_range h]
  rfl
theorem zwN_len {ad : Nat → Nat} {ec : Nat → va_E} {n : Nat} : (zwN ad ec n).length = n := by simp [zwN]
theorem zwN_key {ad : Nat → Nat} {ec : Nat → va_E} {n k : Nat} {q : Nat × va_E} (h : (zwN ad ec n)[k]? = some q) : k < n ∧ q = (ad k, ec k) := by
  have hk : k < n := by
    have := (List.getElem?_eq_some_iff.mp h).1
    rwa [zwN_len] at this
  rw [zwN_get hk] at h
  exact ⟨hk, (Option.some.inj h).symm⟩
theorem zwN_congr {ad ad' : Nat → Nat} {ec ec' : Nat → va_E} {n : Nat} (h1 : ∀ j, j < n → ad' j = ad j) (h2 : ∀ j, j < n → ec' j = ec j) : zwN ad' ec' n = zwN ad ec n := by
  refine List.ext_getElem? fun k => ?_
  by_cases hk : k < n
  · rw [zwN_get hk, zwN_get hk, h1 k hk, h2 k hk]
  · rw [List.getElem?_eq_none (by rw [zwN_len]; omega), List.getElem?_eq_none (by rw [zwN_len]; omega)]
theorem zwN_push {ad : Nat → Nat} {ec : Nat → va_E} {n q : Nat} {e : va_E} : zwN ad ec n ++ [(q, e)] = zwN (zu ad n q) (zu ec n e) (n + 1) := by
  refine List.ext_getElem? fun k => ?_
  by_cases hk : k < n
  · rw [List.getElem?_append_left (by rw [zwN_len]; exact hk), zwN_get hk, zwN_get (by omega), zu_ne (by omega), zu_ne (by omega)]
  · by_cases hkn : k = n
    · subst hkn
      rw [List.getElem?_append_right (by rw [zwN_len]; omega), zwN_len, Nat.sub_self, zwN_get (by omega), zu_at, zu_at]
      rfl
    · rw [List.getElem?_eq_none (by rw [List.length_append, zwN_len]; show n + 1 ≤ k; omega), List.getElem?_eq_none (by rw [zwN_len]; omega)]
theorem zwN_set {ad : Nat → Nat} {ec : Nat → va_E} {n i : Nat} {e : va_E} (hi : i < n) : (zwN ad ec n).set i (ad i, e) = zwN ad (zu ec i e) n := by
  refine List.ext_getElem? fun k => ?_
  by_cases hk : k < n
  · by_cases hki : k = i
    · subst hki
      rw [List.getElem?_set_self (by rw [zwN_len]; exact hk), zwN_get hk, zu_at]
    · rw [List.getElem?_set_ne (Ne.symm hki), zwN_get hk, zwN_get hk, zu_ne hki]
  · rw [List.getElem?_eq_none (by rw [List.length_set, zwN_len]; omega), List.getElem?_eq_none (by rw [zwN_len]; omega)]
def zG (D : va_G) (cI cJ : ClassId) (ad : Nat → Nat) : zgeo := (D.1, D.2, cI, cJ, ad)
/-- what an object holds as it is made -/
def zbl (c : Nat) : List Value := (zf c).map (fun d => if d = 0 then .int 0 else if d = 1 then .long 0 else .null)
def zσz : zmem := (fun _ _ => 0, fun _ _ => 0)
def zsz (c : Nat) : Nat := zszs.getD c 0
def zNi (U : State) : Prop := ∀ q ∈ zNl, va_Nw (.methodLinkNest q.1 q.2.1 q.2.2 "AnchorChains") U
def zty (cI cJ : ClassId) : List (ClassId × FieldType) := [(cI, .int), (cJ, .long)]
def zIG (D : va_G) (A : Nat → Prop) (H0 H : Heap) (locs : List Loc) (ad : Nat → Nat) (ec : Nat → va_E) (n : Nat) : Prop := va_P D vwCl (zwN ad ec n) H ∧ va_D A (zwN ad ec n) ∧ va_S A H0 H locs
/-- all references of a cell lie below n -/
def zcl (j n : Nat) : Prop := ∀ d ∈ zf (zkd j).1, 2 ≤ d → j + (d - 1) < n
theorem zce_ad {D : va_G} {cI cJ : ClassId} {ad ad' : Nat → Nat} {μ : zmem} {j n : Nat} (hc : zcl j n) (h : ∀ k, k < n → ad' k = ad k) : zce (zG D cI cJ ad') μ j = zce (zG D cI cJ ad) μ j := by
  have h3 : zob (zG D cI cJ ad') μ j (zkd j).1 = zob (zG D cI cJ ad) μ j (zkd j).1 := by
    unfold zob
    refine List.map_congr_left fun k hk => ?_
    have hk := List.mem_range.mp hk
    unfold zfv
    by_cases h0 : (zf (zkd j).1).getD k 0 = 0
    · rw [if_pos h0, if_pos h0]
    · rw [if_neg h0, if_neg h0]
      by_cases h1 : (zf (zkd j).1).getD k 0 = 1
      · rw [if_pos h1, if_pos h1]
      · rw [if_neg h1, if_neg h1]
        refine congrArg Value.ref (h _ (hc _ ?_ (by omega)))
        rw [List.getD_eq_getElem?_getD, List.getElem?_eq_getElem hk]
        exact List.getElem_mem hk
  unfold zce
  rw [h3]
  rfl
theorem zce_mu {g : zgeo} {μ μ' : zmem} {j : Nat} (h : μ'.1 j = μ.1 j ∧ μ'.2 j = μ.2 j) : zce g μ' j = zce g μ j := zce_eq h.1 h.2
/-- what is known within a constructor -/
def zMB (own : String) (cc : ByteArray) (nL : Nat) (D : va_G) (cI cJ : ClassId) (p : Program) (m : MethodId) (c : Code) (s : State) (args : Array Value) : Prop :=
  CallFix p m c cc nL s args wsL_law own ∧ va_K D vwCl (zty cI cJ) s ∧ zNi s
/-- the object i0 of class c is being made: its fields are fs; what lies behind it is done, as memory μ says -/
def zGI (D : va_G) (cI cJ : ClassId) (A : Nat → Prop) (H0 H : Heap) (locs : List Loc) (c i0 : Nat) (μ : zmem) (ad0 : Nat → Nat) (ec0 : Nat → va_E) (fs : List Value) (n : Nat) (ad : Nat → Nat) : Prop :=
  ∃ ec : Nat → va_E, zIG D A H0 H locs ad ec n ∧ i0 < n ∧ (∀ j, j ≤ i0 → ad j = ad0 j) ∧ ec i0 = .inr (c, fs) ∧ (∀ j, j < i0 → ec j = ec0 j) ∧ (∀ j, i0 < j → j < n → ec j = zce (zG D cI cJ ad) μ j ∧ zcl j n)
/-- and an object of class ci is made, at n, that its constructor hasn't seen yet -/
def zGP (D : va_G) (cI cJ : ClassId) (A : Nat → Prop) (H0 H : Heap) (locs : List Loc) (c i0 : Nat) (μ : zmem) (ad0 : Nat → Nat) (ec0 : Nat → va_E) (fs : List Value) (n ci : Nat) (ad : Nat → Nat) : Prop :=
  ∃ ec : Nat → va_E, zIG D A H0 H locs ad ec (n + 1) ∧ i0 < n ∧ (∀ j, j ≤ i0 → ad j = ad0 j) ∧ ec i0 = .inr (c, fs) ∧ (∀ j, j < i0 → ec j = ec0 j) ∧ (∀ j, i0 < j → j < n → ec j = zce (zG D cI cJ ad) μ j ∧ zcl j n) ∧ ec n = .inr (ci, zbl ci)
def zAn (ad : Nat → Nat) (n sz : Nat) : Nat → Prop := fun q => (∃ j, j ≤ n ∧ q = ad j) ∨ sz ≤ q
def zPG (D : va_G) (cI cJ : ClassId) (ad : Nat → Nat) (ec : Nat → va_E) (n sz : Nat) (U : State) : Prop := U.heap.size = sz ∧ va_P D vwCl (zwN ad ec n) U.heap ∧ va_D (fun _ => True) (zwN ad ec n) ∧ va_K D vwCl (zty cI cJ) U ∧ zNi U
def zfin (D : va_G) (cI cJ : ClassId) (μ : zmem) (ad : Nat → Nat) (ec : Nat → va_E) (i : Nat) : Nat → va_E := fun j => if j < i then ec j else zce (zG D cI cJ ad) μ j
def zrk (f k n o : Nat) : Room := { frames := f, cells := k, slots := n, locals := o }
/-- a constructor's contract -/
def zCn (l : Launch) (D : va_G) (cI cJ : ClassId) (y : MethodName) (cy : ByteArray) (nY f o mc ms c : Nat) (X : Nat → Prop) (as : Nat → List Value) (μ : zmem) : Prop :=
  ∀ (ad : Nat → Nat) (ec : Nat → va_E) (i sz : Nat), zkd i = (c, 0) → X i → ec i = .inr (c, zbl c) → Met l y (zwm y cy nY none) (zrk f mc ms o) (va_Pc (.ref (ad i) :: as i) (zPG D cI cJ ad ec (i + 1) sz))
    (va_Qv (fun ad' : Nat → Nat => ∀ j, j ≤ i → ad' j = ad j) (fun ad' t => va_P D vwCl (zwN ad' (zfin D cI cJ μ ad' ec i) (i + zsz c)) t.heap ∧ va_D (zAn ad i sz) (zwN ad' (zfin D cI cJ μ ad' ec i) (i + zsz c))) (zAn ad i sz)) mc ms (zAn ad i sz)
theorem zblindG {D : va_G} {cI cJ : ClassId} {ad : Nat → Nat} {ec : Nat → va_E} {n sz : Nat} {as : List Value} : FrameBlind (va_Pc as (zPG D cI cJ ad ec n sz)) := fun a U k mk q => by
  obtain ⟨q0, q1, q2, q3, q4, q5⟩ := q
  exact ⟨q0, q1, q2, q3, va_K.moved (u := U) (U := U.calling k mk a) (Vm.Alike.refl U.vm) q4, fun z hz => va_Nw.same (U := U.calling k mk a) rfl rfl (q5 z hz)⟩
section ZG
variable {p : Program} {l : Launch} {e : Env} {R : Room} {s : State} {m : MethodId} {args : Array Value} {below : List Frame} {meth : Method} {c : Code} {H : Heap} {locs : List Loc} {cells slots : Nat} {Q : State → Prop}
variable {own : String} {cc : ByteArray} {nL : Nat} {D : va_G} {cI cJ : ClassId} {A : Nat → Prop} {H0 : Heap} {pc : Nat} {ls : Array Slot} {rest : List Value}
variable {c0 i0 n : Nat} {μ : zmem} {ad0 ad : Nat → Nat} {ec0 : Nat → va_E} {fs : List Value}
theorem gnew (B : zMB own cc nL D cI cJ p m c s args) (I : zGI D cI cJ A H0 H locs c0 i0 μ ad0 ec0 fs n ad) (hA : ∀ q, H0.size ≤ q → A q) {ci N idx : Nat} {C : String} {T : u_T} {ty : Nat → FieldType} (K : zCK ci C T N ty) (w1 : Cond.classLink own idx C ∈ wsL_law) (w2 : Cond.instantiable C N ∈ wsL_law) (w3 : Cond.initialized C ∈ wsL_law)
    (hbl : ∀ j, j < N → defaultValue (ty j) = vp_V (zbl ci) j) (hcells : cells + 1 ≤ R.cells) (hslots : slots + N ≤ R.slots) (hdg : decode cc pc = .ok (.new idx, 3))
    (kk : ∀ (ad' : Nat → Nat) (H : Heap), (∀ j, j < n → ad' j = ad j) → zGP D cI cJ A H0 H locs c0 i0 μ ad0 ec0 fs n ci ad' → W p l e R s m args below meth c H locs (cells + 1) (slots + N) Q (F0 m (pc + 3) ls (.ref (ad' n) :: rest))) : W p l e R s m args below meth c H locs cells slots Q (F0 m pc ls rest) := by
  obtain ⟨⟨hx, hb, hml, hown, hts⟩, hK, hNi⟩ := B
  obtain ⟨ec, ⟨hP, hD, hS⟩, h1, h2, h3, h4, h5⟩ := I
  obtain ⟨k1, k2, k3, k4, k5, k6⟩ := K
  refine va_new hx hb hts k2 ty k3 hown (hts _ w1) (hts _ w2) (hts _ w3) hK hP hD hS hA k1 (fs := zbl ci) hbl hcells hslots hdg (fun q H1 hP hD hS => ?_)
  rw [zwN_push] at hP hD
  have hk : ∀ j, j < n → zu ad n q j = ad j := fun j hj => zu_ne (by omega)
  have := kk (zu ad n q) H1 hk ⟨zu ec n (.inr (ci, zbl ci)), ⟨hP, hD, hS⟩, h1, fun j hj => (hk j (by omega)).trans (h2 j hj), (zu_ne (by omega)).trans h3, fun j hj => (zu_ne (by omega)).trans (h4 j hj),
    fun j hj1 hj2 => ⟨(zu_ne (by omega)).trans ((h5 j hj1 hj2).1.trans (zce_ad (h5 j hj1 hj2).2 hk).symm), (h5 j hj1 hj2).2⟩, zu_at⟩
  rwa [zu_at] at this
theorem gnewa (B : zMB own cc nL D cI cJ p m c s args) (I : zGI D cI cJ A H0 H locs c0 i0 μ ad0 ec0 fs n ad) (hA : ∀ q, H0.size ≤ q → A q) {ln : Nat} {v : Int32} (hn : zkd n = (100, ln)) (hv : v = nI ln) (hl : ln ≤ 10000) (hμ : μ.1 n = fun _ => 0) (w1 : Cond.arrayClass .int ∈ wsL_law)
    (hcells : cells + 1 ≤ R.cells) (hslots : slots + ln ≤ R.slots) (hdg : decode cc pc = .ok (.newarray .int, 2))
    (kk : ∀ (ad' : Nat → Nat) (H : Heap), (∀ j, j < n → ad' j = ad j) → zGI D cI cJ A H0 H locs c0 i0 μ ad0 ec0 fs (n + 1) ad' → W p l e R s m args below meth c H locs (cells + 1) (slots + ln) Q (F0 m (pc + 2) ls (.ref (ad' n) :: rest))) : W p l e R s m args below meth c H locs cells slots Q (F0 m pc ls (.int v :: rest)) := by
  obtain ⟨⟨hx, hb, hml, hown, hts⟩, hK, hNi⟩ := B
  obtain ⟨ec, ⟨hP, hD, hS⟩, h1, h2, h3, h4, h5⟩ := I
  subst hv
  refine va_newa (atype := .int) (a0 := (ln, .inl (fun _ => 0))) hx hb (hts _ w1) rfl hK hP hD hS hA (fun _ => rfl) (nI_pos (by omega)) (nI_clamp (by omega)) (by show ln * 4 ≤ _; omega) hcells hslots hdg (fun q cA H1 hK2 hP hD hS => ?_)
  have e1 : cA = cI := by
    have a1 := (hK2.2 2 (cA, .int) rfl).2
    have a2 := (hK.2 0 (cI, .int) rfl).2
    exact Option.some.inj (a1.symm.trans a2)
  subst e1
  rw [zwN_push] at hP hD
  have hk : ∀ j, j < n → zu ad n q j = ad j := fun j hj => zu_ne (by omega)
  have := kk (zu ad n q) H1 hk ⟨zu ec n (.inl (cA, ln, .inl (fun _ => 0))), ⟨hP, hD, hS⟩, by omega, fun j hj => (hk j (by omega)).trans (h2 j hj), (zu_ne (by omega)).trans h3, fun j hj => (zu_ne (by omega)).trans (h4 j hj), fun j hj1 hj2 => ?_⟩
  · rwa [zu_at] at this
  · by_cases hjn : j = n
    · subst hjn
      refine ⟨?_, fun d hd => ?_⟩
      · rw [zu_at, zce_ar hn, hμ]
        rfl
      · rw [hn] at hd
        exact nomatch (show d ∈ ([] : List Nat) from hd)
    · have h6 := h5 j hj1 (by omega)
      exact ⟨(zu_ne hjn).trans (h6.1.trans (zce_ad h6.2 hk).symm), fun d hd h2 => Nat.lt_succ_of_lt (h6.2 d hd h2)⟩
theorem ginit (B : zMB own cc nL D cI cJ p m c s args) {ci : Nat} (I : zGP D cI cJ A H0 H locs c0 i0 μ ad0 ec0 fs n ci ad) (hA : ∀ q, H0.size ≤ q → A q) (hn : zkd n = (ci, 0)) {y : MethodName} {cy : ByteArray} {nY f o mc ms k idx : Nat} {X : Nat → Prop} {as : Nat → List Value} {μ' : zmem} (hX : X n) (hM : zCn l D cI cJ y cy nY f o mc ms ci X as μ')
    (hμ : ∀ j, n ≤ j → j < n + zsz ci → μ'.1 j = μ.1 j ∧ μ'.2 j = μ.2 j) (hcl : ∀ j, n ≤ j → j < n + zsz ci → zcl j (n + zsz ci)) (hsz : 0 < zsz ci) (hlk : Cond.methodLink own idx y ∈ wsL_law ∨ (own, idx, y) ∈ zNl) (w1 : Cond.instanceMethod y ∈ wsL_law) (w2 : Cond.initialized y.cls ∈ wsL_law) (w3 : Cond.code y cy nY none ∈ wsL_law) (hy1 : y.name = "<init>")
    (hd : y.cls ≠ "java/lang/invoke/MethodHandle" ∧ y.cls ≠ "java/lang/invoke/VarHandle" ∧ (parseMethodDescriptor y.desc).map (fun d => d.parameters.length) = some k) (hR : f + 1 ≤ R.frames ∧ 8 + (nY + 11) + o ≤ R.locals) (hcs : cells + mc ≤ R.cells ∧ slots + ms ≤ R.slots) (hlen : (as n).length = k) {st : List Value} (hst : st = (as n).reverse ++ .ref (ad n) :: rest) (hcat : (rest.map fun v => v.category).sum ≤ 8) (hls : ls.size = nL) (hdg : decode cc pc = .ok (.invokespecial idx, 3))
    (kk : ∀ (ad' : Nat → Nat) (H : Heap) (locs : List Loc), (∀ j, j ≤ n → ad' j = ad j) → zGI D cI cJ A H0 H locs c0 i0 μ ad0 ec0 fs (n + zsz ci) ad' → W p l e R s m args below meth c H locs (cells + mc) (slots + ms) Q (F0 m (pc + 3) ls rest)) : W p l e R s m args below meth c H locs cells slots Q (F0 m pc ls st) := by
  obtain ⟨⟨hx, hb, hml, hown, hts⟩, hK, hNi⟩ := B
  obtain ⟨ec, ⟨hP, hD, hS⟩, h1, h2, h3, h4, h5, h6⟩ := I
  have hm := hM ad ec n H.size hn hX h6
  have hG : GoodIn wsL_law (zwm y cy nY none) := fun w hw => zbig w (by
    rcases List.mem_cons.mp hw with rfl | hw
    · exact w3
    · exact hw)
  have hpre : ∀ U : State, U.heap = H → s.WarmedH U.vm → va_Pc (.ref (ad n) :: as n) (zPG D cI cJ ad ec (n + 1) H.size) (Value.ref (ad n) :: as n).toArray U := fun U hU hW => ⟨rfl, by rw [hU], by rw [hU]; exact hP, hD.weaken (fun _ _ _ _ => trivial), va_K.moved hW.alike hK, fun z hz => va_Nw.warmM hW (hNi z hz)⟩
  have hr : va_Run p l e R s m args below meth c H locs cells slots mc ms (F0 m pc ls st) rest
      ((va_Qv (fun ad' : Nat → Nat => ∀ j, j ≤ n → ad' j = ad j) (fun ad' t => va_P D vwCl (zwN ad' (zfin D cI cJ μ' ad' ec n) (n + zsz ci)) t.heap ∧ va_D (zAn ad n H.size) (zwN ad' (zfin D cI cJ μ' ad' ec n) (n + zsz ci))) (zAn ad n H.size)) (Value.ref (ad n) :: as n).toArray) (zAn ad n H.size) := by
    rcases hlk with w | w
    · exact va_runI (As := as n) ⟨hx, hb, hml, hown, hts⟩ hm (cwI k hts hG rfl rfl rfl (hts _ w2) (hts _ w) (hts _ w1) hy1 hd hR) ⟨zblindG, hpre⟩ rfl hlen hls hst (lv_room hcat) hdg hcs
    · exact va_runIN (host := "AnchorChains") (As := as n) ⟨hx, hb, hml, hown, hts⟩ hm ⟨va_cnB k hts hG rfl rfl rfl (hNi _ w) (hts _ w2) hd hR, hy1, hts _ w1⟩ ⟨zblindG, hpre⟩ rfl hlen hls hst (lv_room hcat) hdg hcs
  have hfree : ∀ q, zAn ad n H.size q → A q := by
    intro q hq
    rcases hq with ⟨j, hj, rfl⟩ | hq
    · exact hD.2 j (ad j, ec j) (zwN_get (by omega))
    · exact hA q (Nat.le_trans hS.1 hq)
  refine va_callv hr hS (fun q _ h => hfree q h) hfree (fun ad' t H1 locs1 ht hvm hw hB hz hk hS => ?_)
  obtain ⟨hB1, hB2⟩ := hB
  rw [ht] at hB1
  refine kk ad' H1 locs1 hw ⟨zfin D cI cJ μ' ad' ec n, ⟨hB1, hB2.weaken (fun _ q _ h => hfree q.1 h), hS⟩, by omega, fun j hj => (hw j (by omega)).trans (h2 j hj), (if_pos (by omega)).trans h3, fun j hj => (if_pos (by omega)).trans (h4 j hj), fun j hj1 hj2 => ?_⟩
  by_cases hjn : j < n
  · have h7 := h5 j hj1 hjn
    exact ⟨(if_pos hjn).trans (h7.1.trans (zce_ad h7.2 (fun k hk => hw k (by omega))).symm), fun d hd h8 => Nat.lt_of_lt_of_le (h7.2 d hd h8) (by omega)⟩
  · exact ⟨(if_neg hjn).trans (zce_mu (hμ j (by omega) hj2)), hcl j (by omega) hj2⟩
/-- the own object's field k is laid -/
theorem gputF (B : zMB own cc nL D cI cJ p m c s args) (hin2 : meth.name = "<init>") (I : zGI D cI cJ A H0 H locs c0 i0 μ ad0 ec0 fs n ad) {k idx N : Nat} {C : String} {T : u_T} {ty : Nat → FieldType} {t : FieldType} {v : Value} (K : zCK c0 C T N ty) (hk : k < N) (w : Cond.fieldLink own idx (T k).1 (T k).2.1 (T k).2.2.1 ∈ wsL_law) (hfin : (T k).2.2.2 = true) (hdecl : (T k).1 = own)
    (hpd : parseFieldDescriptor (T k).2.2.1 = some t) (hnar : narrow t v = v) (hfit : fits t v = true) (hlen : k < fs.length) (hdg : decode cc pc = .ok (.putfield idx, 3))
    (kk : ∀ (H : Heap) (locs : List Loc), zGI D cI cJ A H0 H locs c0 i0 μ ad0 ec0 (fs.set k v) n ad → W p l e R s m args below meth c H locs cells slots Q (F0 m (pc + 3) ls rest)) : W p l e R s m args below meth c H locs cells slots Q (F0 m pc ls (v :: .ref (ad0 i0) :: rest)) := by
  obtain ⟨⟨hx, hb, hml, hown, hts⟩, hK, hNi⟩ := B
  obtain ⟨ec, ⟨hP, hD, hS⟩, h1, h2, h3, h4, h5⟩ := I
  obtain ⟨k1, k2, k3, k4, k5, k6⟩ := K
  have he : (zwN ad ec n)[i0]? = some (ad0 i0, .inr (c0, fs)) := by rw [zwN_get h1, h2 i0 (Nat.le_refl _), h3]
  refine va_putF hx hb hts k2 ty k3 k4 hown hK hP hD hS i0 he k1 k hk (hts _ w) (fun _ h => h) hfin hin2 hdecl hpd hnar hfit hlen hdg (fun H1 locs1 hP hD hS => ?_)
  rw [← h2 i0 (Nat.le_refl _), zwN_set h1] at hP hD
  exact kk H1 locs1 ⟨_, ⟨hP, hD, hS⟩, h1, h2, zu_at, fun j hj => (zu_ne (by omega)).trans (h4 j hj), fun j hj1 hj2 => ⟨(zu_ne (by omega)).trans (h5 j hj1 hj2).1, (h5 j hj1 hj2).2⟩⟩
theorem gput (B : zMB own cc nL D cI cJ p m c s args) (I : zGI D cI cJ A H0 H locs c0 i0 μ ad0 ec0 fs n ad) {k idx N : Nat} {C : String} {T : u_T} {ty : Nat → FieldType} {t : FieldType} {v : Value} (K : zCK c0 C T N ty) (hk : k < N) (w : Cond.fieldLink own idx (T k).1 (T k).2.1 (T k).2.2.1 ∈ wsL_law) (hfin : (T k).2.2.2 = false)
    (hpd : parseFieldDescriptor (T k).2.2.1 = some t) (hnar : narrow t v = v) (hfit : fits t v = true) (hlen : k < fs.length) (hdg : decode cc pc = .ok (.putfield idx, 3))
    (kk : ∀ (H : Heap) (locs : List Loc), zGI D cI cJ A H0 H locs c0 i0 μ ad0 ec0 (fs.set k v) n ad → W p l e R s m args below meth c H locs cells slots Q (F0 m (pc + 3) ls rest)) : W p l e R s m args below meth c H locs cells slots Q (F0 m pc ls (v :: .ref (ad0 i0) :: rest)) := by
  obtain ⟨⟨hx, hb, hml, hown, hts⟩, hK, hNi⟩ := B
  obtain ⟨ec, ⟨hP, hD, hS⟩, h1, h2, h3, h4, h5⟩ := I
  obtain ⟨k1, k2, k3, k4, k5, k6⟩ := K
  have he : (zwN ad ec n)[i0]? = some (ad0 i0, .inr (c0, fs)) := by rw [zwN_get h1, h2 i0 (Nat.le_refl _), h3]
  refine va_put hx hb hts k2 ty k3 k4 hown hK hP hD hS i0 he k1 k hk (hts _ w) (fun _ h => h) hfin hpd hnar hfit hlen hdg (fun H1 locs1 hP hD hS => ?_)
  rw [← h2 i0 (Nat.le_refl _), zwN_set h1] at hP hD
  exact kk H1 locs1 ⟨_, ⟨hP, hD, hS⟩, h1, h2, zu_at, fun j hj => (zu_ne (by omega)).trans (h4 j hj), fun j hj1 hj2 => ⟨(zu_ne (by omega)).trans (h5 j hj1 hj2).1, (h5 j hj1 hj2).2⟩⟩
theorem gget (B : zMB own cc nL D cI cJ p m c s args) (I : zGI D cI cJ A H0 H locs c0 i0 μ ad0 ec0 fs n ad) {k idx N : Nat} {C : String} {T : u_T} {ty : Nat → FieldType} {v : Value} (K : zCK c0 C T N ty) (hk : k < N) (w : Cond.fieldLink own idx (T k).1 (T k).2.1 (T k).2.2.1 ∈ wsL_law) (hv : fs[k]? = some v) (hdg : decode cc pc = .ok (.getfield idx, 3))
    (kk : W p l e R s m args below meth c H locs cells slots Q (F0 m (pc + 3) ls (v :: rest))) : W p l e R s m args below meth c H locs cells slots Q (F0 m pc ls (.ref (ad0 i0) :: rest)) := by
  obtain ⟨⟨hx, hb, hml, hown, hts⟩, hK, hNi⟩ := B
  obtain ⟨ec, ⟨hP, hD, hS⟩, h1, h2, h3, h4, h5⟩ := I
  obtain ⟨k1, k2, k3, k4, k5, k6⟩ := K
  have he : (zwN ad ec n)[i0]? = some (ad0 i0, .inr (c0, fs)) := by rw [zwN_get h1, h2 i0 (Nat.le_refl _), h3]
  exact va_get hx hb hts k2 hown hK hP i0 he k1 k hk (hts _ w) (fun _ h => h) hv hdg kk
/-- a place of an array of the region that is done -/
theorem giast (B : zMB own cc nL D cI cJ p m c s args) (I : zGI D cI cJ A H0 H locs c0 i0 μ ad0 ec0 fs n ad) {a ln k q0 : Nat} {j v : Int32} (hq : q0 = ad a) (ha1 : i0 < a) (ha2 : a < n) (hk : zkd a = (100, ln)) (hj : j = nI k) (hkl : k < ln) (hln : ln ≤ 10000) (hdg : decode cc pc = .ok (.iastore, 1))
    (kk : ∀ (H : Heap) (locs : List Loc), zGI D cI cJ A H0 H locs c0 i0 (zst μ a k v) ad0 ec0 fs n ad → W p l e R s m args below meth c H locs cells slots Q (F0 m (pc + 1) ls rest)) : W p l e R s m args below meth c H locs cells slots Q (F0 m pc ls (.int v :: .int j :: .ref q0 :: rest)) := by
  subst hq
  obtain ⟨⟨hx, hb, hml, hown, hts⟩, hK, hNi⟩ := B
  obtain ⟨ec, ⟨hP, hD, hS⟩, h1, h2, h3, h4, h5⟩ := I
  subst hj
  have he : (zwN ad ec n)[a]? = some (ad a, .inl (cI, ln, .inl (μ.1 a))) := by rw [zwN_get ha2, (h5 a ha1 ha2).1, zce_ar hk]; rfl
  refine va_iast hx hb hK hP hD hS a 0 he rfl (vp_in_nI hkl (by omega)) hdg (fun H1 locs1 hP hD hS => ?_)
  rw [zwN_set ha2] at hP hD
  refine kk H1 locs1 ⟨_, ⟨hP, hD, hS⟩, h1, h2, (zu_ne (by omega)).trans h3, fun j hj => (zu_ne (by omega)).trans (h4 j hj), fun j hj1 hj2 => ⟨?_, (h5 j hj1 hj2).2⟩⟩
  by_cases hja : j = a
  · subst hja
    rw [zu_at, zce_ar hk, nI_clamp (by omega)]
    show _ = Sum.inl (zI _, ln, Sum.inl (zup μ.1 j k v j))
    rw [zup_row]
    rfl
  · rw [zu_ne hja, (h5 j hj1 hj2).1]
    exact (zst_ce hja).symm
theorem gend {mc ms : Nat} (B : zMB own cc nL D cI cJ p m c s args) (hr : meth.sig.returnType = none) (hlocks : meth.locks = false) (I : zGI D cI cJ (zAn ad0 i0 s.heap.size) s.heap H locs c0 i0 μ ad0 ec0 fs (i0 + zsz c0) ad) (hfs : Sum.inr (c0, fs) = zce (zG D cI cJ ad) μ i0) (hdg : decode cc pc = .ok (.return_, 1)) :
    W p l e R s m args below meth c H locs mc ms (MQ below (va_Qv (fun ad' : Nat → Nat => ∀ j, j ≤ i0 → ad' j = ad0 j) (fun ad' t => va_P D vwCl (zwN ad' (zfin D cI cJ μ ad' ec0 i0) (i0 + zsz c0)) t.heap ∧ va_D (zAn ad0 i0 s.heap.size) (zwN ad' (zfin D cI cJ μ ad' ec0 i0) (i0 + zsz c0))) (zAn ad0 i0 s.heap.size)) args s mc ms (zAn ad0 i0 s.heap.size)) (F0 m pc ls []) := by
  obtain ⟨⟨hx, hb, hml, hown, hts⟩, hK, hNi⟩ := B
  obtain ⟨ec, ⟨hP, hD, hS⟩, h1, h2, h3, h4, h5⟩ := I
  have e : zwN ad (zfin D cI cJ μ ad ec0 i0) (i0 + zsz c0) = zwN ad ec (i0 + zsz c0) := by
    refine zwN_congr (fun _ _ => rfl) (fun j hj => ?_)
    by_cases h6 : j < i0
    · exact (if_pos h6).trans (h4 j h6).symm
    · refine (if_neg h6).trans ?_
      by_cases h7 : j = i0
      · subst h7
        rw [h3, hfs]
      · exact (h5 j (by omega) hj).1.symm
  exact W.vret hx hb hr (fun t ht hW => ⟨⟨ad, rfl, h2, by rw [e, ht]; exact hP, by rw [e]; exact hD⟩, hS.F ht⟩) hS.2.2 hdg hlocks
/-- other memory, where nothing is done yet, or where it is the same -/
theorem gmu {μ' : zmem} (I : zGI D cI cJ A H0 H locs c0 i0 μ ad0 ec0 fs n ad) (h : ∀ j, i0 < j → j < n → μ'.1 j = μ.1 j ∧ μ'.2 j = μ.2 j) : zGI D cI cJ A H0 H locs c0 i0 μ' ad0 ec0 fs n ad := by
  obtain ⟨ec, hI, h1, h2, h3, h4, h5⟩ := I
  exact ⟨ec, hI, h1, h2, h3, h4, fun j hj1 hj2 => ⟨(h5 j hj1 hj2).1.trans (zce_mu (h j hj1 hj2)).symm, (h5 j hj1 hj2).2⟩⟩
/-- Cells.store, on cells of the region that is done -/
theorem gstore0 (l : Launch) (D : va_G) (cI cJ : ClassId) (ad : Nat → Nat) (ec : Nat → va_E) (n sz a ln k : Nat) (f : Nat → Int32) (v : Int32) (ha : a + 1 < n) (h1 : ec a = .inr (1, [.ref (ad (a + 1))])) (h2 : ec (a + 1) = .inl (cI, ln, .inl f)) (hk : k < ln) (hln : ln ≤ 10000) :
    Met l yX1_store (zwm yX1_store cX1_store 3 none) (zrk 0 0 0 0) (va_Pc [.ref (ad a), .int (nI k), .int v] (zPG D cI cJ ad ec n sz))
      (va_Qv (fun (_ : Unit) => True) (fun _ t => va_P D vwCl (zwN ad (zu ec (a + 1) (.inl (cI, ln, .inl (upd f k v)))) n) t.heap ∧ va_D (fun q => ∃ j, j < n ∧ q = ad j) (zwN ad (zu ec (a + 1) (.inl (cI, ln, .inl (upd f k v)))) n)) (fun q => ∃ j, j < n ∧ q = ad j)) 0 0 (fun q => ∃ j, j < n ∧ q = ad j) := by
  refine Met.ofW (cc := cX1_store) (maxL := 3) (ret := none) (by decide) rfl ?_
  intro p e s m args below meth c s₁ B hml hv
  obtain ⟨rfl, hsz, hP, hD, hK, hNi⟩ := hv
  have hts := atoms_spec (ws := zwm yX1_store cX1_store 3 none) B.pre
  have hts : ∀ w ∈ wsL_law, w.before _ s = true := fun w h => hts w (List.mem_cons_of_mem _ h)
  have hown : s.vm.findClass RX1 = some m.cls := findClass_of_methodNamed B.named
  have hx := B.exec
  have hb := B.bytes
  have hr := B.returns
  have hlocks := B.notSynchronized
  have hS : va_S (fun q => ∃ j, j < n ∧ q = ad j) s.heap s.heap [] := va_S.rf
  have hD : va_D (fun q => ∃ j, j < n ∧ q = ad j) (zwN ad ec n) := hD.weaken (fun i q hq _ => by obtain ⟨hi, rfl⟩ := zwN_key hq; exact ⟨i, hi, rfl⟩)
  obtain ⟨C, T, N, ty, ⟨k1, k2, k3, k4, k5, k6⟩, kk, kd, kw⟩ := zfl_X1_9
  have he : (zwN ad ec n)[a]? = some (ad a, .inr (1, [.ref (ad (a + 1))])) := by rw [zwN_get (by omega), h1]
  have he2 : (zwN ad ec n)[a + 1]? = some (ad (a + 1), .inl (cI, ln, .inl f)) := by rw [zwN_get ha, h2]
  have hl := lv_entry ([.ref (ad a), .int (nI k), .int v]) (n := 3) (Nat.le_of_ble_eq_true rfl)
  rw [lg_entry_eq]
  generalize (lg_sl ([.ref (ad a), .int (nI k), .int v]) ++ List.replicate (3 - (lg_sl ([.ref (ad a), .int (nI k), .int v])).length) Slot.unset).toArray = ls at hl ⊢
  have hl : lv_has ls 3 [(0, .ref (ad a)), (1, .int (nI k)), (2, .int v)] := hl
  refine lv_iload_n hx hb dX1_store_0 rfl (lv_at hl 1 rfl) ?_
  refine lv_if_lt (tgt := 20) hx hb dX1_store_1 (by decide) (fun q => absurd q (nI_pos (by omega))) (fun _ => ?_)
  refine lv_iload_n hx hb dX1_store_4 rfl (lv_at hl 1 rfl) ?_
  refine lv_aload_n hx hb dX1_store_5 rfl (lv_at hl 0 rfl) ?_
  refine va_get hx hb hts k2 hown hK hP a he k1 0 kk (hts _ kw) (fun _ h => h) (v := .ref (ad (a + 1))) rfl dX1_store_6 ?_
  refine va_alen hx hb hK hP (a + 1) 0 he2 rfl (v := nI ln) rfl dX1_store_9 ?_
  refine lv_icmp_ge (tgt := 20) hx hb dX1_store_10 (by decide) (fun q => absurd q (nI_ge hk (by omega))) (fun _ => ?_)
  refine lv_aload_n hx hb dX1_store_13 rfl (lv_at hl 0 rfl) ?_
  refine va_get hx hb hts k2 hown hK hP a he k1 0 kk (hts _ kw) (fun _ h => h) (v := .ref (ad (a + 1))) rfl dX1_store_14 ?_
  refine lv_iload_n hx hb dX1_store_17 rfl (lv_at hl 1 rfl) ?_
  refine lv_iload_n hx hb dX1_store_18 rfl (lv_at hl 2 rfl) ?_
  refine va_iast hx hb hK hP hD hS (a + 1) 0 he2 rfl (vp_in_nI hk (by omega)) dX1_store_19 (fun H1 locs1 hP hD hS => ?_)
  rw [zwN_set ha, nI_clamp (by omega)] at hP hD
  refine W.vret hx hb hr (fun t ht hW => ⟨⟨(), rfl, trivial, by rw [ht]; exact hP, hD⟩, hS.F ht⟩) hS.2.2 ?_ hlocks
  exact dX1_store_20
theorem gstore (B : zMB own cc nL D cI cJ p m c s args) (I : zGI D cI cJ A H0 H locs c0 i0 μ ad0 ec0 fs n ad) {a ln k q0 idx : Nat} {j v : Int32} (hq : q0 = ad a) (ha1 : i0 < a) (ha2 : a + 1 < n) (h1 : zkd a = (1, 0)) (hk : zkd (a + 1) = (100, ln)) (hj : j = nI k) (hkl : k < ln) (hln : ln ≤ 10000) (hL : zLV own idx RX1 yX1_store cX1_store 3 none 2)
    (hR : 1 ≤ R.frames ∧ 22 ≤ R.locals) (hcs : cells ≤ R.cells ∧ slots ≤ R.slots) (hcat : (rest.map fun v => v.category).sum ≤ 8) (hls : ls.size = nL) (hdg : decode cc pc = .ok (.invokevirtual idx, 3))
    (kk : ∀ (H : Heap) (locs : List Loc), zGI D cI cJ A H0 H locs c0 i0 (zst μ (a + 1) k v) ad0 ec0 fs n ad → W p l e R s m args below meth c H locs cells slots Q (F0 m (pc + 3) ls rest)) : W p l e R s m args below meth c H locs cells slots Q (F0 m pc ls (.int v :: .int j :: .ref q0 :: rest)) := by
  subst hq
  subst hj
  obtain ⟨⟨hx, hb, hml, hown, hts⟩, hK, hNi⟩ := B
  obtain ⟨ec, ⟨hP, hD, hS⟩, g1, g2, g3, g4, g5⟩ := I
  have e1 : ec a = .inr (1, [.ref (ad (a + 1))]) := by rw [(g5 a ha1 (by omega)).1, zce_ob h1 (by decide)]; rfl
  have e2 : ec (a + 1) = .inl (cI, ln, .inl (μ.1 (a + 1))) := by rw [(g5 (a + 1) (by omega) ha2).1, zce_ar hk]; rfl
  have hm := gstore0 l D cI cJ ad ec n H.size a ln k (μ.1 (a + 1)) v ha2 e1 e2 hkl hln
  have he : (zwN ad ec n)[a]? = some (ad a, .inr (1, [.ref (ad (a + 1))])) := by rw [zwN_get (by omega), e1]
  have hfree : ∀ q, (∃ j, j < n ∧ q = ad j) → A q := by
    rintro q ⟨j, hj, rfl⟩
    exact hD.2 j (ad j, ec j) (zwN_get hj)
  refine va_callv (va_runV (As := [.int (nI k), .int v]) (C := RX1) ⟨hx, hb, hml, hown, hts⟩ hm (cwV 2 hts (zLV_in hL) rfl rfl rfl hL.2 hR) ⟨zblindG, va_recv hK hP zK1.1 he, fun U hU hW => ⟨rfl, by rw [hU], by rw [hU]; exact hP, hD.weaken (fun _ _ _ _ => trivial), va_K.moved hW.alike hK, fun z hz => va_Nw.warmM hW (hNi z hz)⟩⟩ rfl rfl hls rfl (lv_room hcat) hdg hcs) hS (fun q _ h => hfree q h) hfree (fun u t H1 locs1 ht hvm hw hB hz hkk hS => ?_)
  obtain ⟨hB1, hB2⟩ := hB
  rw [ht] at hB1
  refine kk H1 locs1 ⟨_, ⟨hB1, hB2.weaken (fun _ q _ h => hfree q.1 h), hS⟩, g1, g2, (zu_ne (by omega)).trans g3, fun j hj => (zu_ne (by omega)).trans (g4 j hj), fun j hj1 hj2 => ⟨?_, (g5 j hj1 hj2).2⟩⟩
  by_cases hja : j = a + 1
  · subst hja
    rw [zu_at, zce_ar hk]
    show _ = Sum.inl (zI _, ln, Sum.inl (zup μ.1 (a + 1) k v (a + 1)))
    rw [zup_row]
    rfl
  · rw [zu_ne hja, (g5 j hj1 hj2).1]
    exact (zst_ce hja).symm
end ZG
theorem gopen {l : Launch} {D : va_G} {cI cJ : ClassId} {y : MethodName} {cy : ByteArray} {nY f o mc ms c0 : Nat} {X : Nat → Prop} {as : Nat → List Value} {μ : zmem} (hy : plainName y.cls = true) (hn : y.name = "<init>") (hlen : ∀ i h, (lg_sl (.ref h :: as i)).length ≤ nY)
    (body : ∀ (ad : Nat → Nat) (ec : Nat → va_E) (i : Nat), zkd i = (c0, 0) → X i → ∀ (p : Program) (e : Env) (s : State) (m : MethodId) (below : List Frame) (meth : Method) (c : Code), zMB y.cls cy nY D cI cJ p m c s (Value.ref (ad i) :: as i).toArray → meth.sig.returnType = none → meth.locks = false → meth.name = "<init>" → ∀ ls : Array Slot, lv_has ls nY (lv_args 0 (.ref (ad i) :: as i)) →
      zGI D cI cJ (zAn ad i s.heap.size) s.heap s.heap [] c0 i zσz ad ec (zbl c0) (i + 1) ad →
      W p l e (zrk f mc ms o) s m (Value.ref (ad i) :: as i).toArray below meth c s.heap [] 0 0 (MQ below (va_Qv (fun ad' : Nat → Nat => ∀ j, j ≤ i → ad' j = ad j) (fun ad' t => va_P D vwCl (zwN ad' (zfin D cI cJ μ ad' ec i) (i + zsz c0)) t.heap ∧ va_D (zAn ad i s.heap.size) (zwN ad' (zfin D cI cJ μ ad' ec i) (i + zsz c0))) (zAn ad i s.heap.size)) (Value.ref (ad i) :: as i).toArray s mc ms (zAn ad i s.heap.size)) (F0 m 0 ls [])) : zCn l D cI cJ y cy nY f o mc ms c0 X as μ := by
  intro ad ec i sz hi hX hec
  refine Met.ofW (cc := cy) (maxL := nY) (ret := none) hy rfl ?_
  intro p e s m args below meth c s₁ B hml hv
  obtain ⟨rfl, hsz, hP, hD, hK, hNi⟩ := hv
  subst hsz
  have hts := atoms_spec (ws := zwm y cy nY none) B.pre
  have hts : ∀ w ∈ wsL_law, w.before _ s = true := fun w h => hts w (List.mem_cons_of_mem _ h)
  have hown : s.vm.findClass y.cls = some m.cls := findClass_of_methodNamed B.named
  have hin : meth.name = "<init>" := ((name_of_methodNamed B.named B.method).1).trans hn
  have hl := lv_entry (.ref (ad i) :: as i) (n := nY) (hlen i (ad i))
  rw [lg_entry_eq]
  refine body ad ec i hi hX p e s m below meth c ⟨⟨B.exec, B.bytes, hml, hown, hts⟩, hK, hNi⟩ B.returns B.notSynchronized hin _ hl ⟨ec, ⟨hP, hD.weaken (fun k q hq _ => ?_), va_S.rf⟩, Nat.lt_succ_self i, fun _ _ => rfl, hec, fun _ _ => rfl, fun j h1 h2 => ?_⟩
  · obtain ⟨hk, rfl⟩ := zwN_key hq
    exact Or.inl ⟨k, by omega, rfl⟩
  · omega
