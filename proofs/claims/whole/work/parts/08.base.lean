def zkds : List (Nat × Nat) := [(10, 0), (7, 0), (6, 0), (100, 24), (6, 0), (100, 24), (1, 0), (100, 4), (7, 0), (6, 0), (100, 24), (6, 0), (100, 24), (1, 0), (100, 4), (7, 0), (6, 0), (100, 24), (6, 0), (100, 24), (1, 0), (100, 4), (7, 0), (6, 0), (100, 24), (6, 0), (100, 24), (1, 0), (100, 4), (4, 0), (1, 0), (100, 324), (8, 0), (1, 0), (100, 60), (5, 0), (0, 0), (1, 0), (100, 24), (1, 0), (100, 24), (1, 0), (100, 24), (1, 0), (100, 24), (2, 0), (1, 0), (100, 24), (1, 0), (100, 24), (1, 0), (100, 24), (1, 0), (100, 24), (3, 0), (100, 625), (100, 625), (1, 0), (100, 125), (1, 0), (100, 24), (1, 0), (100, 24), (5, 0), (0, 0), (1, 0), (100, 24), (1, 0), (100, 24), (1, 0), (100, 24), (1, 0), (100, 24), (2, 0), (1, 0), (100, 24), (1, 0), (100, 24), (1, 0), (100, 24), (1, 0), (100, 24), (3, 0), (100, 625), (100, 625), (1, 0), (100, 125), (1, 0), (100, 24), (1, 0), (100, 24), (9, 0), (0, 0), (1, 0), (100, 24), (1, 0), (100, 24), (1, 0), (100, 24), (1, 0), (100, 24), (1, 0), (100, 24), (11, 0), (100, 54), (100, 324), (100, 100), (100, 2), (100, 60), (100, 24), (100, 24), (100, 24), (100, 24), (100, 24), (100, 24), (100, 24), (100, 24), (100, 50), (100, 50), (100, 25), (100, 48), (100, 625), (100, 48), (100, 2), (101, 1)]
def zfds : List (List Nat) := [[2, 4, 0, 0, 6, 8], [2], [2, 4, 6, 8, 0], [2, 3, 0, 0, 0, 0], [2, 0], [2, 11, 0, 0, 20, 23, 25, 27], [2, 0], [2, 4, 6], [2, 0], [2, 0, 0, 11], [2, 9, 16, 23, 0, 0, 30, 33, 36, 64, 92, 0], [2, 0, 3, 4, 5, 0, 6, 0, 7, 8, 0, 9, 10, 0, 11, 12, 13, 14, 0, 15, 16, 17, 0, 18, 19, 20, 21, 0, 0, 1]]
/-- the words of all methods: the tables' words that a call may hand on -/
def wsL_law : List Cond := lw_tbl.filter goodWord
theorem zin {i : Nat} {w : Cond} (h : lw_tbl[i]? = some w) (hg : goodWord w = true) : w ∈ wsL_law := List.mem_filter.mpr ⟨List.mem_of_getElem? h, hg⟩
theorem zbig : ∀ w ∈ wsL_law, w ∈ wsL_law ∧ ((w.onTables && w.keeps) = true ∨ ∃ ty, w = .arrayClass ty) := fun w h => ⟨h, good_of_word (List.mem_filter.mp h).2⟩
/-! the world of class and reference as ONE memory: 125 cells at addresses ad 0 .. ad 124; what they hold is read off a function of cell and place -/
abbrev zmem : Type := (Nat → Nat → Int32) × (Nat → Nat → Int64)
abbrev zgeo : Type := (Nat → ClassId) × (Nat → Nat → Nat) × ClassId × ClassId × (Nat → Nat)
def zD (g : zgeo) : va_G := (g.1, g.2.1)
def zI (g : zgeo) : ClassId := g.2.2.1
def zJ (g : zgeo) : ClassId := g.2.2.2.1
def zA (g : zgeo) : Nat → Nat := g.2.2.2.2
def zT (g : zgeo) : List (ClassId × FieldType) := [(zI g, .int), (zJ g, .long)]
def zkd (i : Nat) : Nat × Nat := zkds.getD i (200, 0)
def zf (c : Nat) : List Nat := zfds.getD c []
def zfv (g : zgeo) (σ : zmem) (i k d : Nat) : Value := if d = 0 then .int (σ.1 i k) else if d = 1 then .long (σ.2 i k) else .ref (zA g (i + (d - 1)))
def zob (g : zgeo) (σ : zmem) (i c : Nat) : List Value := (List.range (zf c).length).map (fun k => zfv g σ i k ((zf c).getD k 0))
def zce (g : zgeo) (σ : zmem) (i : Nat) : va_E := if (zkd i).1 = 100 then .inl (zI g, (zkd i).2, .inl (σ.1 i)) else if (zkd i).1 = 101 then .inl (zJ g, (zkd i).2, .inr (.inl (σ.2 i))) else .inr ((zkd i).1, zob g σ i (zkd i).1)
def zwl (g : zgeo) (σ : zmem) : va_W := (List.range 125).map (fun i => (zA g i, zce g σ i))
def zup {α : Type} (f : Nat → Nat → α) (i k : Nat) (v : α) : Nat → Nat → α := fun a b => if a = i ∧ b = k then v else f a b
def zst (σ : zmem) (i k : Nat) (v : Int32) : zmem := (zup σ.1 i k v, σ.2)
def zsl (σ : zmem) (i k : Nat) (v : Int64) : zmem := (σ.1, zup σ.2 i k v)
def zrd (σ : zmem) (i : Nat) (j : Int32) : Option Int32 := if j < 0 ∨ (zkd i).2 ≤ j.toNatClampNeg then none else some (σ.1 i j.toNatClampNeg)
def zwr (σ : zmem) (i : Nat) (j v : Int32) : Option zmem := if j < 0 ∨ (zkd i).2 ≤ j.toNatClampNeg then none else some (zst σ i j.toNatClampNeg v)
def zrl (σ : zmem) (i : Nat) (j : Int32) : Option Int64 := if j < 0 ∨ (zkd i).2 ≤ j.toNatClampNeg then none else some (σ.2 i j.toNatClampNeg)
def zwL (σ : zmem) (i : Nat) (j : Int32) (v : Int64) : Option zmem := if j < 0 ∨ (zkd i).2 ≤ j.toNatClampNeg then none else some (zsl σ i j.toNatClampNeg v)
/-- a truth value -/
def zbo (v : Int32) : Option Int32 := if v = 0 ∨ v = 1 then some v else none
/-- a double that is a number -/
def zdn (v : UInt64) : Option UInt64 := if v &&& 0x7fffffffffffffff ≤ 0x7ff0000000000000 then some v else none
theorem zrd_some {σ : zmem} {i : Nat} {j v : Int32} (h : zrd σ i j = some v) : vp_in j (zkd i).2 ∧ v = σ.1 i j.toNatClampNeg := by
  unfold zrd at h
  split at h
  · cases h
  · next hn => exact ⟨hn, (Option.some.inj h).symm⟩
theorem zwr_some {σ σ' : zmem} {i : Nat} {j v : Int32} (h : zwr σ i j v = some σ') : vp_in j (zkd i).2 ∧ σ' = zst σ i j.toNatClampNeg v := by
  unfold zwr at h
  split at h
  · cases h
  · next hn => exact ⟨hn, (Option.some.inj h).symm⟩
theorem zrl_some {σ : zmem} {i : Nat} {j : Int32} {v : Int64} (h : zrl σ i j = some v) : vp_in j (zkd i).2 ∧ v = σ.2 i j.toNatClampNeg := by
  unfold zrl at h
  split at h
  · cases h
  · next hn => exact ⟨hn, (Option.some.inj h).symm⟩
theorem zwL_some {σ σ' : zmem} {i : Nat} {j : Int32} {v : Int64} (h : zwL σ i j v = some σ') : vp_in j (zkd i).2 ∧ σ' = zsl σ i j.toNatClampNeg v := by
  unfold zwL at h
  split at h
  · cases h
  · next hn => exact ⟨hn, (Option.some.inj h).symm⟩
theorem zbo_some {v w : Int32} (h : zbo v = some w) : (v = 0 ∨ v = 1) ∧ w = v := by
  unfold zbo at h
  split at h
  · next hn => exact ⟨hn, (Option.some.inj h).symm⟩
  · cases h
theorem zdn_some {v w : UInt64} (h : zdn v = some w) : vf_n64 v ∧ w = v := by
  unfold zdn at h
  split at h
  · next hn => exact ⟨hn, (Option.some.inj h).symm⟩
  · cases h
theorem zb_some {α β : Type} {x : Option α} {f : α → Option β} {r : β} (h : x.bind f = some r) : ∃ y, x = some y ∧ f y = some r := by
  cases x with
  | none => cases h
  | some y => exact ⟨y, rfl, h⟩
theorem zkd_lt {i c n : Nat} (h : zkd i = (c, n)) (hc : c < 200) : i < 125 := by
  by_cases hi : i < 125
  · exact hi
  · exfalso
    unfold zkd at h
    have h9 : zkds.length = 125 := by decide +kernel
    rw [List.getD_eq_getElem?_getD, List.getElem?_eq_none (by omega)] at h
    cases h
    omega
theorem zwl_get {g : zgeo} {σ : zmem} {i : Nat} (h : i < 125) : (zwl g σ)[i]? = some (zA g i, zce g σ i) := by
  unfold zwl
  rw [List.getElem?_map, List.getElem?_range h]
  rfl
theorem zwl_len {g : zgeo} {σ : zmem} : (zwl g σ).length = 125 := by simp [zwl]
theorem zwl_key {g : zgeo} {σ : zmem} {k : Nat} {q : Nat × va_E} (h : (zwl g σ)[k]? = some q) : k < 125 ∧ q = (zA g k, zce g σ k) := by
  have hk : k < 125 := by
    have := (List.getElem?_eq_some_iff.mp h).1
    rwa [zwl_len] at this
  rw [zwl_get hk] at h
  exact ⟨hk, (Option.some.inj h).symm⟩
theorem zob_get {g : zgeo} {σ : zmem} {i c k d : Nat} (hk : k < (zf c).length) (hd : (zf c).getD k 0 = d) : (zob g σ i c)[k]? = some (zfv g σ i k d) := by
  unfold zob
  rw [List.getElem?_map, List.getElem?_range hk]
  show some (zfv g σ i k ((zf c).getD k 0)) = _
  rw [hd]
theorem zce_ob {g : zgeo} {σ : zmem} {i c n : Nat} (h : zkd i = (c, n)) (hc : c < 100) : zce g σ i = .inr (c, zob g σ i c) := by
  unfold zce
  rw [h]
  rw [if_neg (by show ¬ c = 100; omega), if_neg (by show ¬ c = 101; omega)]
theorem zce_ar {g : zgeo} {σ : zmem} {i n : Nat} (h : zkd i = (100, n)) : zce g σ i = .inl (zI g, n, .inl (σ.1 i)) := by
  unfold zce
  rw [h]
  rfl
theorem zce_la {g : zgeo} {σ : zmem} {i n : Nat} (h : zkd i = (101, n)) : zce g σ i = .inl (zJ g, n, .inr (.inl (σ.2 i))) := by
  unfold zce
  rw [h]
  rfl
theorem zce_eq {g : zgeo} {σ σ' : zmem} {i : Nat} (h1 : σ'.1 i = σ.1 i) (h2 : σ'.2 i = σ.2 i) : zce g σ' i = zce g σ i := by
  have h3 : ∀ c, zob g σ' i c = zob g σ i c := fun c => by
    unfold zob
    refine List.map_congr_left fun k _ => ?_
    unfold zfv
    rw [h1, h2]
  unfold zce
  rw [h1, h2, h3]
theorem zup_ne {α : Type} {f : Nat → Nat → α} {i k j : Nat} {v : α} (h : j ≠ i) : zup f i k v j = f j := by
  funext b
  unfold zup
  rw [if_neg (fun q => h q.1)]
theorem zup_row {f : Nat → Nat → Int32} {i k : Nat} {v : Int32} : zup f i k v i = upd (f i) k v := by
  funext b
  unfold zup upd
  by_cases h : b = k
  · rw [if_pos ⟨rfl, h⟩, if_pos h]
  · rw [if_neg (fun q => h q.2), if_neg h]
theorem zup_rowL {f : Nat → Nat → Int64} {i k : Nat} {v : Int64} : zup f i k v i = vp_updL (f i) k v := by
  funext b
  unfold zup vp_updL
  by_cases h : b = k
  · rw [if_pos ⟨rfl, h⟩, if_pos h]
  · rw [if_neg (fun q => h q.2), if_neg h]
theorem zup_same {α : Type} {f : Nat → Nat → α} {i k j : Nat} {v : α} (h : j ≠ k) : zup f i k v i j = f i j := by
  unfold zup
  rw [if_neg (fun q => h q.2)]
theorem zup_at {α : Type} {f : Nat → Nat → α} {i k : Nat} {v : α} : zup f i k v i k = v := by
  unfold zup
  rw [if_pos ⟨rfl, rfl⟩]
theorem zwl_set {g : zgeo} {σ σ' : zmem} {i : Nat} {e : va_E} (hi : i < 125) (he : e = zce g σ' i) (h : ∀ j, j ≠ i → zce g σ' j = zce g σ j) : (zwl g σ).set i (zA g i, e) = zwl g σ' := by
  refine List.ext_getElem? fun k => ?_
  by_cases hk : k < 125
  · by_cases hki : k = i
    · subst hki
      rw [List.getElem?_set_self (by rw [zwl_len]; exact hk), zwl_get hk, he]
    · rw [List.getElem?_set_ne (Ne.symm hki), zwl_get hk, zwl_get hk, h k hki]
  · rw [List.getElem?_eq_none (by rw [List.length_set, zwl_len]; omega), List.getElem?_eq_none (by rw [zwl_len]; omega)]
theorem zob_set {g : zgeo} {σ σ' : zmem} {i c k d : Nat} (hk : k < (zf c).length) (hd : (zf c).getD k 0 = d) (h1 : ∀ j, j ≠ k → σ'.1 i j = σ.1 i j) (h2 : ∀ j, j ≠ k → σ'.2 i j = σ.2 i j) : zob g σ' i c = (zob g σ i c).set k (zfv g σ' i k d) := by
  refine List.ext_getElem? fun j => ?_
  by_cases hj : j < (zf c).length
  · by_cases hjk : j = k
    · subst hjk
      rw [List.getElem?_set_self (by simp [zob]; exact hk), zob_get hk hd]
    · rw [List.getElem?_set_ne (Ne.symm hjk), zob_get hj rfl, zob_get hj rfl]
      unfold zfv
      rw [h1 j hjk, h2 j hjk]
  · rw [List.getElem?_eq_none (by simp [zob]; omega), List.getElem?_eq_none (by simp [zob]; omega)]
/-- the world at a point of a walk -/
def zIV (g : zgeo) (σ : zmem) (A : Nat → Prop) (H0 H : Heap) (locs : List Loc) : Prop := va_P (zD g) vwCl (zwl g σ) H ∧ va_D A (zwl g σ) ∧ va_S A H0 H locs
/-- the one field that a nest mate reaches -/
def zNw (U : State) : Prop := va_Nw (.fieldLinkNest RX7 38 RX6 "many" "I" "AnchorChains") U
/-- what a method's walk knows of its own method -/
def zMC (own : String) (cc : ByteArray) (nL : Nat) (ret : Option FieldType) (g : zgeo) (p : Program) (m : MethodId) (c : Code) (s : State) (args : Array Value) (meth : Method) : Prop :=
  CallFix p m c cc nL s args wsL_law own ∧ meth.sig.returnType = ret ∧ meth.locks = false ∧ va_K (zD g) vwCl (zT g) s ∧ zNw s
/-- what is known of a class by its number -/
def zCK (ci : Nat) (C : String) (T : u_T) (N : Nat) (ty : Nat → FieldType) : Prop := vwCl[ci]? = some (C, T, N) ∧ (∀ w ∈ u_ws C T N, w ∈ wsL_law) ∧ (∀ k, k < N → parseFieldDescriptor (T k).2.2.1 = some (ty k)) ∧ (∀ a, a < N → ∀ b, b < N → a ≠ b → (T a).2.1 ≠ (T b).2.1) ∧ (zf ci).length = N ∧ ci < 100
/-- a field's link: class and place, its kind in the layout -/
def zFL (own : String) (idx ci k d : Nat) : Prop := ∃ (C : String) (T : u_T) (N : Nat) (ty : Nat → FieldType), zCK ci C T N ty ∧ k < N ∧ (zf ci).getD k 0 = d ∧ Cond.fieldLink own idx (T k).1 (T k).2.1 (T k).2.2.1 ∈ wsL_law
def zFW (own : String) (idx ci k d : Nat) (t : FieldType) : Prop := ∃ (C : String) (T : u_T) (N : Nat) (ty : Nat → FieldType), zCK ci C T N ty ∧ k < N ∧ (zf ci).getD k 0 = d ∧ Cond.fieldLink own idx (T k).1 (T k).2.1 (T k).2.2.1 ∈ wsL_law ∧ (T k).2.2.2 = false ∧ parseFieldDescriptor (T k).2.2.1 = some t
abbrev zwm (y : MethodName) (cc : ByteArray) (n : Nat) (r : Option FieldType) : List Cond := Cond.code y cc n r :: wsL_law
def zrm (f n : Nat) : Room := { frames := f, cells := 0, slots := 0, locals := n }
def zAA (g : zgeo) : Nat → Prop := fun q => ∃ i, i < 125 ∧ q = zA g i
def zPW (g : zgeo) (σ : zmem) (U : State) : Prop := va_P (zD g) vwCl (zwl g σ) U.heap ∧ va_K (zD g) vwCl (zT g) U ∧ va_D (fun _ => True) (zwl g σ) ∧ zNw U
abbrev zQI (g : zgeo) (r : Int32) (σ : zmem) := va_Qi (fun v (_ : Unit) => v = r) (fun _ => zPW g σ) (zAA g)
abbrev zQL (g : zgeo) (r : Int64) (σ : zmem) := va_Ql (fun v (_ : Unit) => v = r) (fun _ => zPW g σ) (zAA g)
abbrev zQD (g : zgeo) (r : UInt64) (σ : zmem) := va_Qd (fun v (_ : Unit) => v = r) (fun _ => zPW g σ) (zAA g)
abbrev zQV (g : zgeo) (σ : zmem) := va_Qv (fun (_ : Unit) => True) (fun _ => zPW g σ) (zAA g)
abbrev zQR (g : zgeo) (r : Nat) (σ : zmem) := va_Qr (fun (_ : Unit) => True) (fun _ a t => a = zA g r ∧ zPW g σ t) (zAA g)
/-- the contracts: at these arguments and this memory the method returns this, and leaves that memory -/
def zCt (Q : Array Value → State → Outcome → State → Prop) (l : Launch) (g : zgeo) (y : MethodName) (cc : ByteArray) (nL : Nat) (ret : Option FieldType) (f n : Nat) (as : List Value) (σ : zmem) : Prop := Met l y (zwm y cc nL ret) (zrm f n) (va_Pc as (zPW g σ)) Q 0 0 (zAA g)
set_option maxRecDepth 20000 in
theorem zin0 : ∀ w ∈ u_ws RX0 TX0 6, w ∈ wsL_law := fun w h => List.mem_filter.mpr ⟨(goodIn_r _ [213, 215, 217, 219, 221, 223] (by decide +kernel) (by decide +kernel) w h).1, List.all_eq_true.mp (show (u_ws RX0 TX0 6).all goodWord = true by decide +kernel) w h⟩
theorem zK0 : zCK 0 RX0 TX0 6 tyX0 := ⟨rfl, zin0, tyX0_ok, nmX0, by decide, by decide⟩
set_option maxRecDepth 20000 in
theorem zin1 : ∀ w ∈ u_ws RX1 TX1 1, w ∈ wsL_law := fun w h => List.mem_filter.mpr ⟨(goodIn_r _ [124] (by decide +kernel) (by decide +kernel) w h).1, List.all_eq_true.mp (show (u_ws RX1 TX1 1).all goodWord = true by decide +kernel) w h⟩
theorem zK1 : zCK 1 RX1 TX1 1 tyX1 := ⟨rfl, zin1, tyX1_ok, nmX1, by decide, by decide⟩
set_option maxRecDepth 20000 in
theorem zin2 : ∀ w ∈ u_ws RX2 TX2 5, w ∈ wsL_law := fun w h => List.mem_filter.mpr ⟨(goodIn_r _ [244, 246, 248, 250, 252] (by decide +kernel) (by decide +kernel) w h).1, List.all_eq_true.mp (show (u_ws RX2 TX2 5).all goodWord = true by decide +kernel) w h⟩
theorem zK2 : zCK 2 RX2 TX2 5 tyX2 := ⟨rfl, zin2, tyX2_ok, nmX2, by decide, by decide⟩
set_option maxRecDepth 20000 in
theorem zin3 : ∀ w ∈ u_ws RX3 TX3 6, w ∈ wsL_law := fun w h => List.mem_filter.mpr ⟨(goodIn_r _ [271, 273, 275, 277, 279, 281] (by decide +kernel) (by decide +kernel) w h).1, List.all_eq_true.mp (show (u_ws RX3 TX3 6).all goodWord = true by decide +kernel) w h⟩
theorem zK3 : zCK 3 RX3 TX3 6 tyX3 := ⟨rfl, zin3, tyX3_ok, nmX3, by decide, by decide⟩
set_option maxRecDepth 20000 in
theorem zin4 : ∀ w ∈ u_ws RX4 TX4 2, w ∈ wsL_law := fun w h => List.mem_filter.mpr ⟨(goodIn_r _ [165, 167] (by decide +kernel) (by decide +kernel) w h).1, List.all_eq_true.mp (show (u_ws RX4 TX4 2).all goodWord = true by decide +kernel) w h⟩
theorem zK4 : zCK 4 RX4 TX4 2 tyX4 := ⟨rfl, zin4, tyX4_ok, nmX4, by decide, by decide⟩
set_option maxRecDepth 20000 in
theorem zin5 : ∀ w ∈ u_ws RX5 TX5 8, w ∈ wsL_law := fun w h => List.mem_filter.mpr ⟨(goodIn_r _ [298, 300, 302, 304, 306, 308, 310, 312] (by decide +kernel) (by decide +kernel) w h).1, List.all_eq_true.mp (show (u_ws RX5 TX5 8).all goodWord = true by decide +kernel) w h⟩
theorem zK5 : zCK 5 RX5 TX5 8 tyX5 := ⟨rfl, zin5, tyX5_ok, nmX5, by decide, by decide⟩
set_option maxRecDepth 20000 in
theorem zin6 : ∀ w ∈ u_ws RX6 TX6 2, w ∈ wsL_law := fun w h => List.mem_filter.mpr ⟨(goodIn_r _ [111, 113] (by decide +kernel) (by decide +kernel) w h).1, List.all_eq_true.mp (show (u_ws RX6 TX6 2).all goodWord = true by decide +kernel) w h⟩
theorem zK6 : zCK 6 RX6 TX6 2 tyX6 := ⟨rfl, zin6, tyX6_ok, nmX6, by decide, by decide⟩
set_option maxRecDepth 20000 in
theorem zin7 : ∀ w ∈ u_ws RX7 TX7 3, w ∈ wsL_law := fun w h => List.mem_filter.mpr ⟨(goodIn_r _ [148, 150, 152] (by decide +kernel) (by decide +kernel) w h).1, List.all_eq_true.mp (show (u_ws RX7 TX7 3).all goodWord = true by decide +kernel) w h⟩
theorem zK7 : zCK 7 RX7 TX7 3 tyX7 := ⟨rfl, zin7, tyX7_ok, nmX7, by decide, by decide⟩
set_option maxRecDepth 20000 in
theorem zin8 : ∀ w ∈ u_ws RX8 TX8 2, w ∈ wsL_law := fun w h => List.mem_filter.mpr ⟨(goodIn_r _ [180, 182] (by decide +kernel) (by decide +kernel) w h).1, List.all_eq_true.mp (show (u_ws RX8 TX8 2).all goodWord = true by decide +kernel) w h⟩
theorem zK8 : zCK 8 RX8 TX8 2 tyX8 := ⟨rfl, zin8, tyX8_ok, nmX8, by decide, by decide⟩
set_option maxRecDepth 20000 in
theorem zin9 : ∀ w ∈ u_ws RX9 TX9 4, w ∈ wsL_law := fun w h => List.mem_filter.mpr ⟨(goodIn_r _ [332, 334, 336, 338] (by decide +kernel) (by decide +kernel) w h).1, List.all_eq_true.mp (show (u_ws RX9 TX9 4).all goodWord = true by decide +kernel) w h⟩
theorem zK9 : zCK 9 RX9 TX9 4 tyX9 := ⟨rfl, zin9, tyX9_ok, nmX9, by decide, by decide⟩
set_option maxRecDepth 20000 in
theorem zin10 : ∀ w ∈ u_ws RX10 TX10 12, w ∈ wsL_law := fun w h => List.mem_filter.mpr ⟨(goodIn_r _ [353, 355, 357, 359, 361, 363, 365, 367, 369, 371, 373, 375] (by decide +kernel) (by decide +kernel) w h).1, List.all_eq_true.mp (show (u_ws RX10 TX10 12).all goodWord = true by decide +kernel) w h⟩
theorem zK10 : zCK 10 RX10 TX10 12 tyX10 := ⟨rfl, zin10, tyX10_ok, nmX10, by decide, by decide⟩
set_option maxRecDepth 20000 in
theorem zin11 : ∀ w ∈ u_ws RX11 TX11 30, w ∈ wsL_law := fun w h => List.mem_filter.mpr ⟨(goodIn_r _ [1093, 1095, 1097, 1099, 1101, 1103, 1105, 1107, 1109, 1111, 1113, 1115, 1117, 1119, 1121, 1123, 1125, 1127, 1129, 1131, 1133, 1135, 1137, 1139, 1141, 1143, 1145, 1147, 1149, 1151] (by decide +kernel) (by decide +kernel) w h).1, List.all_eq_true.mp (show (u_ws RX11 TX11 30).all goodWord = true by decide +kernel) w h⟩
theorem zK11 : zCK 11 RX11 TX11 30 tyX11 := ⟨rfl, zin11, tyX11_ok, nmX11, by decide, by decide⟩
section ZR
variable {p : Program} {l : Launch} {e : Env} {R : Room} {s : State} {m : MethodId} {args : Array Value} {below : List Frame} {meth : Method} {c : Code} {H : Heap} {locs : List Loc} {cells slots : Nat} {Q : State → Prop}
variable {own : String} {cc : ByteArray} {nL : Nat} {ret : Option FieldType} {g : zgeo} {σ : zmem} {A : Nat → Prop} {H0 : Heap} {pc : Nat} {ls : Array Slot} {rest : List Value}
theorem zIV.app (I : zIV g σ A H0 H locs) : ∀ q, zAA g q → A q := fun q ⟨i, hi, hq⟩ => by rw [hq]; exact I.2.1.2 i _ (zwl_get hi)
theorem zgetI (M : zMC own cc nL ret g p m c s args meth) (I : zIV g σ A H0 H locs) {i ci k idx : Nat} (hi : zkd i = (ci, 0)) (F : zFL own idx ci k 0) (hdg : decode cc pc = .ok (.getfield idx, 3))
    (kk : W p l e R s m args below meth c H locs cells slots Q (F0 m (pc + 3) ls (.int (σ.1 i k) :: rest))) : W p l e R s m args below meth c H locs cells slots Q (F0 m pc ls (.ref (zA g i) :: rest)) := by
  obtain ⟨⟨hx, hb, hml, hown, hts⟩, -, -, hK, hNw⟩ := M
  obtain ⟨C, T, N, ty, ⟨k1, k2, k3, k4, k5, k6⟩, hk, hd, hw⟩ := F
  have he := zwl_get (g := g) (σ := σ) (zkd_lt hi (by omega))
  rw [zce_ob hi k6] at he
  exact va_get hx hb hts k2 hown hK I.1 i he k1 k hk (hts _ hw) (fun _ h => h) (v := .int (σ.1 i k)) (zob_get (by rw [k5]; exact hk) hd) hdg kk
theorem zgetL (M : zMC own cc nL ret g p m c s args meth) (I : zIV g σ A H0 H locs) {i ci k idx : Nat} (hi : zkd i = (ci, 0)) (F : zFL own idx ci k 1) (hdg : decode cc pc = .ok (.getfield idx, 3))
    (kk : W p l e R s m args below meth c H locs cells slots Q (F0 m (pc + 3) ls (.long (σ.2 i k) :: rest))) : W p l e R s m args below meth c H locs cells slots Q (F0 m pc ls (.ref (zA g i) :: rest)) := by
  obtain ⟨⟨hx, hb, hml, hown, hts⟩, -, -, hK, hNw⟩ := M
  obtain ⟨C, T, N, ty, ⟨k1, k2, k3, k4, k5, k6⟩, hk, hd, hw⟩ := F
  have he := zwl_get (g := g) (σ := σ) (zkd_lt hi (by omega))
  rw [zce_ob hi k6] at he
  exact va_get hx hb hts k2 hown hK I.1 i he k1 k hk (hts _ hw) (fun _ h => h) (v := .long (σ.2 i k)) (zob_get (by rw [k5]; exact hk) hd) hdg kk
theorem zgetR (M : zMC own cc nL ret g p m c s args meth) (I : zIV g σ A H0 H locs) {i ci k idx o : Nat} (hi : zkd i = (ci, 0)) (F : zFL own idx ci k (o + 2)) (hdg : decode cc pc = .ok (.getfield idx, 3)) {j : Nat} (hj : j = i + (o + 1))
    (kk : W p l e R s m args below meth c H locs cells slots Q (F0 m (pc + 3) ls (.ref (zA g j) :: rest))) : W p l e R s m args below meth c H locs cells slots Q (F0 m pc ls (.ref (zA g i) :: rest)) := by
  obtain ⟨⟨hx, hb, hml, hown, hts⟩, -, -, hK, hNw⟩ := M
  obtain ⟨C, T, N, ty, ⟨k1, k2, k3, k4, k5, k6⟩, hk, hd, hw⟩ := F
  have he := zwl_get (g := g) (σ := σ) (zkd_lt hi (by omega))
  rw [zce_ob hi k6] at he
  subst hj
  exact va_get hx hb hts k2 hown hK I.1 i he k1 k hk (hts _ hw) (fun _ h => h) (v := .ref (zA g (i + (o + 1)))) (zob_get (by rw [k5]; exact hk) hd) hdg kk
theorem zst_ce {i k j : Nat} {v : Int32} (h : j ≠ i) : zce g (zst σ i k v) j = zce g σ j := zce_eq (zup_ne h) rfl
theorem zsl_ce {i k j : Nat} {v : Int64} (h : j ≠ i) : zce g (zsl σ i k v) j = zce g σ j := zce_eq rfl (zup_ne h)
theorem zputV (M : zMC own cc nL ret g p m c s args meth) (I : zIV g σ A H0 H locs) {i ci k idx d : Nat} {t : FieldType} {v : Value} {σ' : zmem} (hi : zkd i = (ci, 0)) (F : zFW own idx ci k d t) (hn : narrow t v = v) (hfit : fits t v = true) (hv : zfv g σ' i k d = v)
    (h1 : ∀ j, j ≠ k → σ'.1 i j = σ.1 i j) (h2 : ∀ j, j ≠ k → σ'.2 i j = σ.2 i j) (h3 : ∀ j, j ≠ i → zce g σ' j = zce g σ j) (hdg : decode cc pc = .ok (.putfield idx, 3))
    (kk : ∀ H locs, zIV g σ' A H0 H locs → W p l e R s m args below meth c H locs cells slots Q (F0 m (pc + 3) ls rest)) : W p l e R s m args below meth c H locs cells slots Q (F0 m pc ls (v :: .ref (zA g i) :: rest)) := by
  obtain ⟨⟨hx, hb, hml, hown, hts⟩, -, -, hK, hNw⟩ := M
  obtain ⟨C, T, N, ty, ⟨k1, k2, k3, k4, k5, k6⟩, hk, hd, hw, hfin, hpd⟩ := F
  have hlt := zkd_lt hi (by omega)
  have he := zwl_get (g := g) (σ := σ) hlt
  rw [zce_ob hi k6] at he
  refine va_put hx hb hts k2 ty k3 k4 hown hK I.1 I.2.1 I.2.2 i he k1 k hk (hts _ hw) (fun _ h => h) hfin hpd hn hfit (by simp [zob]; rw [k5]; exact hk) hdg (fun H1 locs1 hP hD hS => ?_)
  have e : (zwl g σ).set i (zA g i, .inr (ci, (zob g σ i ci).set k v)) = zwl g σ' := by
    refine zwl_set hlt ?_ h3
    rw [zce_ob hi k6, zob_set (by rw [k5]; exact hk) hd h1 h2, hv]
  rw [e] at hP hD
  exact kk H1 locs1 ⟨hP, hD, hS⟩
theorem zgetN (M : zMC RX7 cc nL ret g p m c s args meth) (I : zIV g σ A H0 H locs) {i : Nat} (hi : zkd i = (6, 0)) (hdg : decode cc pc = .ok (.getfield 38, 3))
    (kk : W p l e R s m args below meth c H locs cells slots Q (F0 m (pc + 3) ls (.int (σ.1 i 1) :: rest))) : W p l e R s m args below meth c H locs cells slots Q (F0 m pc ls (.ref (zA g i) :: rest)) := by
  obtain ⟨⟨hx, hb, hml, hown, hts⟩, -, -, hK, hNw⟩ := M
  obtain ⟨k1, k2, k3, k4, k5, k6⟩ := zK6
  have he := zwl_get (g := g) (σ := σ) (zkd_lt hi (by omega))
  rw [zce_ob hi k6] at he
  exact va_getN (host := "AnchorChains") hx hb hts k2 hown hK I.1 i he k1 1 (show 1 < 2 by decide) (va_Nw.use rfl hNw) (fun _ h => h) (v := .int (σ.1 i 1)) (zob_get (k := 1) (d := 0) (by rw [k5]; decide) (by decide)) hdg kk
theorem zputN (M : zMC RX7 cc nL ret g p m c s args meth) (I : zIV g σ A H0 H locs) {i : Nat} {v : Int32} (hi : zkd i = (6, 0)) (hdg : decode cc pc = .ok (.putfield 38, 3))
    (kk : ∀ H locs, zIV g (zst σ i 1 v) A H0 H locs → W p l e R s m args below meth c H locs cells slots Q (F0 m (pc + 3) ls rest)) : W p l e R s m args below meth c H locs cells slots Q (F0 m pc ls (.int v :: .ref (zA g i) :: rest)) := by
  obtain ⟨⟨hx, hb, hml, hown, hts⟩, -, -, hK, hNw⟩ := M
  obtain ⟨k1, k2, k3, k4, k5, k6⟩ := zK6
  have hlt := zkd_lt hi (by omega)
  have he := zwl_get (g := g) (σ := σ) hlt
  rw [zce_ob hi k6] at he
  refine va_putN (host := "AnchorChains") (ty := .int) hx hb hts k2 tyX6 k3 k4 hown hK I.1 I.2.1 I.2.2 i he k1 1 (show 1 < 2 by decide) (va_Nw.use rfl hNw) (fun _ h => h) rfl (by decide) rfl rfl (by simp [zob]; rw [k5]; decide) hdg (fun H1 locs1 hP hD hS => ?_)
  have e : (zwl g σ).set i (zA g i, .inr (6, (zob g σ i 6).set 1 (.int v))) = zwl g (zst σ i 1 v) := by
    refine zwl_set hlt ?_ (fun _ h => zst_ce h)
    rw [zce_ob hi k6, zob_set (σ := σ) (σ' := zst σ i 1 v) (k := 1) (d := 0) (by rw [k5]; decide) (by decide) (fun j h => zup_same h) (fun _ _ => rfl)]
    rw [show zfv g (zst σ i 1 v) i 1 0 = Value.int v from (show Value.int (zup σ.1 i 1 v i 1) = _ by rw [zup_at])]
  rw [e] at hP hD
  exact kk H1 locs1 ⟨hP, hD, hS⟩
theorem zputI (M : zMC own cc nL ret g p m c s args meth) (I : zIV g σ A H0 H locs) {i ci k idx : Nat} {v : Int32} (hi : zkd i = (ci, 0)) (F : zFW own idx ci k 0 .int) (hdg : decode cc pc = .ok (.putfield idx, 3))
    (kk : ∀ H locs, zIV g (zst σ i k v) A H0 H locs → W p l e R s m args below meth c H locs cells slots Q (F0 m (pc + 3) ls rest)) : W p l e R s m args below meth c H locs cells slots Q (F0 m pc ls (.int v :: .ref (zA g i) :: rest)) :=
  zputV (σ' := zst σ i k v) M I hi F rfl rfl (show Value.int (zup σ.1 i k v i k) = _ by rw [zup_at]) (fun _ h => zup_same h) (fun _ _ => rfl) (fun _ h => zst_ce h) hdg kk
theorem zputZ (M : zMC own cc nL ret g p m c s args meth) (I : zIV g σ A H0 H locs) {i ci k idx : Nat} {v : Int32} (hv : v = 0 ∨ v = 1) (hi : zkd i = (ci, 0)) (F : zFW own idx ci k 0 .boolean) (hdg : decode cc pc = .ok (.putfield idx, 3))
    (kk : ∀ H locs, zIV g (zst σ i k v) A H0 H locs → W p l e R s m args below meth c H locs cells slots Q (F0 m (pc + 3) ls rest)) : W p l e R s m args below meth c H locs cells slots Q (F0 m pc ls (.int v :: .ref (zA g i) :: rest)) :=
  zputV (σ' := zst σ i k v) M I hi F (by rcases hv with rfl | rfl <;> decide) (by rcases hv with rfl | rfl <;> decide) (show Value.int (zup σ.1 i k v i k) = _ by rw [zup_at]) (fun _ h => zup_same h) (fun _ _ => rfl) (fun _ h => zst_ce h) hdg kk
theorem zputL (M : zMC own cc nL ret g p m c s args meth) (I : zIV g σ A H0 H locs) {i ci k idx : Nat} {v : Int64} (hi : zkd i = (ci, 0)) (F : zFW own idx ci k 1 .long) (hdg : decode cc pc = .ok (.putfield idx, 3))
    (kk : ∀ H locs, zIV g (zsl σ i k v) A H0 H locs → W p l e R s m args below meth c H locs cells slots Q (F0 m (pc + 3) ls rest)) : W p l e R s m args below meth c H locs cells slots Q (F0 m pc ls (.long v :: .ref (zA g i) :: rest)) :=
  zputV (σ' := zsl σ i k v) M I hi F rfl rfl (show Value.long (zup σ.2 i k v i k) = _ by rw [zup_at]) (fun _ _ => rfl) (fun _ h => zup_same h) (fun _ h => zsl_ce h) hdg kk
theorem zkd_len {i t n : Nat} (h : zkd i = (t, n)) : (zkd i).2 = n := by rw [h]
theorem ziald (M : zMC own cc nL ret g p m c s args meth) (I : zIV g σ A H0 H locs) {i n : Nat} {j v : Int32} (hi : zkd i = (100, n)) (hv : zrd σ i j = some v) (hdg : decode cc pc = .ok (.iaload, 1))
    (kk : W p l e R s m args below meth c H locs cells slots Q (F0 m (pc + 1) ls (.int v :: rest))) : W p l e R s m args below meth c H locs cells slots Q (F0 m pc ls (.int j :: .ref (zA g i) :: rest)) := by
  obtain ⟨⟨hx, hb, hml, hown, hts⟩, -, -, hK, hNw⟩ := M
  obtain ⟨hin, rfl⟩ := zrd_some hv
  rw [zkd_len hi] at hin
  have he := zwl_get (g := g) (σ := σ) (zkd_lt hi (by omega))
  rw [zce_ar hi] at he
  exact va_iald hx hb hK I.1 i 0 he rfl hin hdg kk
theorem zlald (M : zMC own cc nL ret g p m c s args meth) (I : zIV g σ A H0 H locs) {i n : Nat} {j : Int32} {v : Int64} (hi : zkd i = (101, n)) (hv : zrl σ i j = some v) (hdg : decode cc pc = .ok (.laload, 1))
    (kk : W p l e R s m args below meth c H locs cells slots Q (F0 m (pc + 1) ls (.long v :: rest))) : W p l e R s m args below meth c H locs cells slots Q (F0 m pc ls (.int j :: .ref (zA g i) :: rest)) := by
  obtain ⟨⟨hx, hb, hml, hown, hts⟩, -, -, hK, hNw⟩ := M
  obtain ⟨hin, rfl⟩ := zrl_some hv
  rw [zkd_len hi] at hin
  have he := zwl_get (g := g) (σ := σ) (zkd_lt hi (by omega))
  rw [zce_la hi] at he
  exact va_lald hx hb hK I.1 i 1 he rfl hin hdg kk
theorem ziast (M : zMC own cc nL ret g p m c s args meth) (I : zIV g σ A H0 H locs) {i n : Nat} {j v : Int32} {σ' : zmem} (hi : zkd i = (100, n)) (hv : zwr σ i j v = some σ') (hdg : decode cc pc = .ok (.iastore, 1))
    (kk : ∀ H locs, zIV g σ' A H0 H locs → W p l e R s m args below meth c H locs cells slots Q (F0 m (pc + 1) ls rest)) : W p l e R s m args below meth c H locs cells slots Q (F0 m pc ls (.int v :: .int j :: .ref (zA g i) :: rest)) := by
  obtain ⟨⟨hx, hb, hml, hown, hts⟩, -, -, hK, hNw⟩ := M
  obtain ⟨hin, rfl⟩ := zwr_some hv
  rw [zkd_len hi] at hin
  have hlt := zkd_lt hi (by omega)
  have he := zwl_get (g := g) (σ := σ) hlt
  rw [zce_ar hi] at he
  refine va_iast hx hb hK I.1 I.2.1 I.2.2 i 0 he rfl hin hdg (fun H1 locs1 hP hD hS => ?_)
  have e : (zwl g σ).set i (zA g i, .inl (zI g, n, .inl (upd (σ.1 i) j.toNatClampNeg v))) = zwl g (zst σ i j.toNatClampNeg v) := by
    refine zwl_set hlt ?_ (fun _ h => zst_ce h)
    rw [zce_ar hi]
    show _ = Sum.inl (zI g, n, Sum.inl (zup σ.1 i _ v i))
    rw [zup_row]
  rw [e] at hP hD
  exact kk H1 locs1 ⟨hP, hD, hS⟩
theorem zlast (M : zMC own cc nL ret g p m c s args meth) (I : zIV g σ A H0 H locs) {i n : Nat} {j : Int32} {v : Int64} {σ' : zmem} (hi : zkd i = (101, n)) (hv : zwL σ i j v = some σ') (hdg : decode cc pc = .ok (.lastore, 1))
    (kk : ∀ H locs, zIV g σ' A H0 H locs → W p l e R s m args below meth c H locs cells slots Q (F0 m (pc + 1) ls rest)) : W p l e R s m args below meth c H locs cells slots Q (F0 m pc ls (.long v :: .int j :: .ref (zA g i) :: rest)) := by
  obtain ⟨⟨hx, hb, hml, hown, hts⟩, -, -, hK, hNw⟩ := M
  obtain ⟨hin, rfl⟩ := zwL_some hv
  rw [zkd_len hi] at hin
  have hlt := zkd_lt hi (by omega)
  have he := zwl_get (g := g) (σ := σ) hlt
  rw [zce_la hi] at he
  refine va_last hx hb hK I.1 I.2.1 I.2.2 i 1 he rfl hin hdg (fun H1 locs1 hP hD hS => ?_)
  have e : (zwl g σ).set i (zA g i, .inl (zJ g, n, .inr (.inl (vp_updL (σ.2 i) j.toNatClampNeg v)))) = zwl g (zsl σ i j.toNatClampNeg v) := by
    refine zwl_set hlt ?_ (fun _ h => zsl_ce h)
    rw [zce_la hi]
    show _ = Sum.inl (zJ g, n, Sum.inr (Sum.inl (zup σ.2 i _ v i)))
    rw [zup_rowL]
  rw [e] at hP hD
  exact kk H1 locs1 ⟨hP, hD, hS⟩
theorem zalen (M : zMC own cc nL ret g p m c s args meth) (I : zIV g σ A H0 H locs) {i n : Nat} (hi : zkd i = (100, n)) (hdg : decode cc pc = .ok (.arraylength, 1))
    (kk : W p l e R s m args below meth c H locs cells slots Q (F0 m (pc + 1) ls (.int (nI (zkd i).2) :: rest))) : W p l e R s m args below meth c H locs cells slots Q (F0 m pc ls (.ref (zA g i) :: rest)) := by
  obtain ⟨⟨hx, hb, hml, hown, hts⟩, -, -, hK, hNw⟩ := M
  have he := zwl_get (g := g) (σ := σ) (zkd_lt hi (by omega))
  rw [zce_ar hi] at he
  rw [zkd_len hi] at kk
  exact va_alen hx hb hK I.1 i 0 he rfl rfl hdg kk
/-- the world behind a call, out of the callee's end -/
theorem zIV_call (hK : va_K (zD g) vwCl (zT g) s) {σ' : zmem} {t : State} {H1 : Heap} {locs1 : List Loc} (I : zIV g σ A H0 H locs) (ht : t.heap = H1) (hB : zPW g σ' t) (hS : va_S A H0 H1 locs1) : zIV g σ' A H0 H1 locs1 := by
  obtain ⟨h1, h2, h3, -⟩ := hB
  rw [ht] at h1
  exact ⟨h1, h3.weaken (fun k q hq _ => by obtain ⟨hk, rfl⟩ := zwl_key hq; exact I.2.1.2 k (zA g k, zce g σ k) (zwl_get hk)), hS⟩
theorem zPW_of (hK : va_K (zD g) vwCl (zT g) s) (hNw : zNw s) (I : zIV g σ A H0 H locs) {U : State} (hU : U.heap = H) (hW : s.WarmedH U.vm) : zPW g σ U := ⟨by rw [hU]; exact I.1, va_K.moved hW.alike hK, I.2.1.weaken (fun _ _ _ _ => trivial), va_Nw.warmF hW hNw⟩
theorem zblind {as : List Value} : FrameBlind (va_Pc as (zPW g σ)) := fun a U k mk q => by
  obtain ⟨q0, qP, qK, qD, qN⟩ := q
  exact ⟨q0, qP, va_K.moved (u := U) (U := U.calling k mk a) (Vm.Alike.refl U.vm) qK, qD, va_Nw.same (U := U.calling k mk a) rfl rfl qN⟩
/-- a call's words: instance methods, static ones -/
def zLV (own : String) (idx : Nat) (C : String) (y : MethodName) (cy : ByteArray) (nY : Nat) (rY : Option FieldType) (k : Nat) : Prop :=
  (Cond.methodLink own idx y ∈ wsL_law ∧ Cond.instanceMethod y ∈ wsL_law ∧ Cond.selects C y y ∈ wsL_law ∧ Cond.initialized C ∈ wsL_law ∧ Cond.code y cy nY rY ∈ wsL_law) ∧
  (y.cls = C ∧ y.cls ≠ "java/lang/invoke/MethodHandle" ∧ y.cls ≠ "java/lang/invoke/VarHandle" ∧ (parseMethodDescriptor y.desc).map (fun d => d.parameters.length) = some k)
def zLS (own : String) (idx : Nat) (y : MethodName) (cy : ByteArray) (nY : Nat) (rY : Option FieldType) (k : Nat) : Prop :=
  (Cond.methodLink own idx y ∈ wsL_law ∧ Cond.static y ∈ wsL_law ∧ Cond.initialized own ∈ wsL_law ∧ Cond.code y cy nY rY ∈ wsL_law) ∧
  (y.cls = own ∧ y.cls ≠ "java/lang/invoke/MethodHandle" ∧ y.cls ≠ "java/lang/invoke/VarHandle" ∧ (parseMethodDescriptor y.desc).map (fun d => d.parameters.length) = some k)
theorem zLV_in {idx : Nat} {C : String} {y : MethodName} {cy : ByteArray} {nY : Nat} {rY : Option FieldType} {k : Nat} (h : zLV own idx C y cy nY rY k) : GoodIn wsL_law (wsV own idx C y (zwm y cy nY rY)) := by
  obtain ⟨⟨h1, h2, h3, h4, h5⟩, -⟩ := h
  intro w hw
  refine zbig w ?_
  rcases List.mem_append.mp hw with hw | hw
  · simp only [List.mem_cons, List.not_mem_nil, or_false] at hw
    rcases hw with rfl | rfl | rfl | rfl <;> assumption
  · rcases List.mem_cons.mp hw with rfl | hw
    · exact h5
    · exact hw
theorem zLS_in {idx : Nat} {y : MethodName} {cy : ByteArray} {nY : Nat} {rY : Option FieldType} {k : Nat} (h : zLS own idx y cy nY rY k) : GoodIn wsL_law (wsS own idx y (zwm y cy nY rY)) := by
  obtain ⟨⟨h1, h2, h3, h4⟩, -⟩ := h
  intro w hw
  refine zbig w ?_
  rcases List.mem_append.mp hw with hw | hw
  · simp only [List.mem_cons, List.not_mem_nil, or_false] at hw
    rcases hw with rfl | rfl | rfl <;> assumption
  · rcases List.mem_cons.mp hw with rfl | hw
    · exact h4
    · exact hw
variable {y : MethodName} {cy : ByteArray} {nY idx k f n : Nat} {rY : Option FieldType} {as st : List Value} {σ' : zmem}
theorem zrunV (M : zMC own cc nL ret g p m c s args meth) (I : zIV g σ A H0 H locs) {i ci : Nat} {C : String} {T : u_T} {N : Nat} {Qc : Array Value → State → Outcome → State → Prop} (hM : zCt Qc l g y cy nY rY f n (.ref (zA g i) :: as) σ) (hi : zkd i = (ci, 0)) (hc : vwCl[ci]? = some (C, T, N)) (hci : ci < 100) (hL : zLV own idx C y cy nY rY k)
    (hR : f + 1 ≤ R.frames ∧ 8 + (nY + 11) + n ≤ R.locals) (hcs : cells ≤ R.cells ∧ slots ≤ R.slots) (hlen : as.length = k) (hst : st = as.reverse ++ .ref (zA g i) :: rest) (hcat : (rest.map fun v => v.category).sum ≤ 8) (hls : ls.size = nL) (hdg : decode cc pc = .ok (.invokevirtual idx, 3)) :
    va_Run p l e R s m args below meth c H locs cells slots 0 0 (F0 m pc ls st) rest (Qc (Value.ref (zA g i) :: as).toArray) (zAA g) := by
  obtain ⟨⟨hx, hb, hml, hown, hts⟩, -, -, hK, hNw⟩ := M
  have he := zwl_get (g := g) (σ := σ) (zkd_lt hi (by omega))
  rw [zce_ob hi hci] at he
  exact va_runV (C := C) ⟨hx, hb, hml, hown, hts⟩ hM (cwV k hts (zLV_in hL) rfl rfl rfl hL.2 hR) ⟨zblind, va_recv hK I.1 hc he, fun U hU hW => ⟨rfl, zPW_of hK hNw I hU hW⟩⟩ rfl hlen hls hst (lv_room hcat) hdg hcs
theorem zrunS (M : zMC own cc nL ret g p m c s args meth) (I : zIV g σ A H0 H locs) {Qc : Array Value → State → Outcome → State → Prop} (hM : zCt Qc l g y cy nY rY f n as σ) (hL : zLS own idx y cy nY rY k)
    (hR : f + 1 ≤ R.frames ∧ 8 + (nY + 11) + n ≤ R.locals) (hcs : cells ≤ R.cells ∧ slots ≤ R.slots) (hlen : as.length = k) (hst : st = as.reverse ++ rest) (hcat : (rest.map fun v => v.category).sum ≤ 8) (hls : ls.size = nL) (hdg : decode cc pc = .ok (.invokestatic idx, 3)) :
    va_Run p l e R s m args below meth c H locs cells slots 0 0 (F0 m pc ls st) rest (Qc as.toArray) (zAA g) := by
  obtain ⟨⟨hx, hb, hml, hown, hts⟩, -, -, hK, hNw⟩ := M
  exact va_runS ⟨hx, hb, hml, hown, hts⟩ hM (cwS k hts (zLS_in hL) rfl rfl rfl hL.2 hR) ⟨zblind, fun U hU hW => ⟨rfl, zPW_of hK hNw I hU hW⟩⟩ rfl hlen hls hst (lv_room hcat) hdg hcs
variable {a : Array Value}
theorem zcallI (M : zMC own cc nL ret g p m c s args meth) (I : zIV g σ A H0 H locs) {r : Int32} (hr : va_Run p l e R s m args below meth c H locs cells slots 0 0 (F0 m pc ls st) rest (zQI g r σ' a) (zAA g))
    (kk : ∀ H locs, zIV g σ' A H0 H locs → W p l e R s m args below meth c H locs cells slots Q (F0 m (pc + 3) ls (.int r :: rest))) : W p l e R s m args below meth c H locs cells slots Q (F0 m pc ls st) :=
  va_calli hr I.2.2 (fun q _ h => I.app q h) (fun q h => I.app q h) (fun r' u t H1 locs1 ht hvm hw hB hz hk hS => by subst hw; exact kk H1 locs1 (zIV_call M.2.2.2.1 I ht hB hS))
theorem zcallL (M : zMC own cc nL ret g p m c s args meth) (I : zIV g σ A H0 H locs) {r : Int64} (hr : va_Run p l e R s m args below meth c H locs cells slots 0 0 (F0 m pc ls st) rest (zQL g r σ' a) (zAA g))
    (kk : ∀ H locs, zIV g σ' A H0 H locs → W p l e R s m args below meth c H locs cells slots Q (F0 m (pc + 3) ls (.long r :: rest))) : W p l e R s m args below meth c H locs cells slots Q (F0 m pc ls st) :=
  va_calll hr I.2.2 (fun q _ h => I.app q h) (fun q h => I.app q h) (fun r' u t H1 locs1 ht hvm hw hB hz hk hS => by subst hw; exact kk H1 locs1 (zIV_call M.2.2.2.1 I ht hB hS))
theorem zcallD (M : zMC own cc nL ret g p m c s args meth) (I : zIV g σ A H0 H locs) {r : UInt64} (hr : va_Run p l e R s m args below meth c H locs cells slots 0 0 (F0 m pc ls st) rest (zQD g r σ' a) (zAA g))
    (kk : ∀ H locs, zIV g σ' A H0 H locs → W p l e R s m args below meth c H locs cells slots Q (F0 m (pc + 3) ls (.double r :: rest))) : W p l e R s m args below meth c H locs cells slots Q (F0 m pc ls st) :=
  va_calld hr I.2.2 (fun q _ h => I.app q h) (fun q h => I.app q h) (fun r' u t H1 locs1 ht hvm hw hB hz hk hS => by subst hw; exact kk H1 locs1 (zIV_call M.2.2.2.1 I ht hB hS))
theorem zcallU (M : zMC own cc nL ret g p m c s args meth) (I : zIV g σ A H0 H locs) (hr : va_Run p l e R s m args below meth c H locs cells slots 0 0 (F0 m pc ls st) rest (zQV g σ' a) (zAA g))
    (kk : ∀ H locs, zIV g σ' A H0 H locs → W p l e R s m args below meth c H locs cells slots Q (F0 m (pc + 3) ls rest)) : W p l e R s m args below meth c H locs cells slots Q (F0 m pc ls st) :=
  va_callv hr I.2.2 (fun q _ h => I.app q h) (fun q h => I.app q h) (fun u t H1 locs1 ht hvm hw hB hz hk hS => kk H1 locs1 (zIV_call M.2.2.2.1 I ht hB hS))
theorem zcallR (M : zMC own cc nL ret g p m c s args meth) (I : zIV g σ A H0 H locs) {r : Nat} (hr : va_Run p l e R s m args below meth c H locs cells slots 0 0 (F0 m pc ls st) rest (zQR g r σ' a) (zAA g))
    (kk : ∀ H locs, zIV g σ' A H0 H locs → W p l e R s m args below meth c H locs cells slots Q (F0 m (pc + 3) ls (.ref (zA g r) :: rest))) : W p l e R s m args below meth c H locs cells slots Q (F0 m pc ls st) :=
  va_callr hr I.2.2 (fun q _ h => I.app q h) (fun q h => I.app q h) (fun u ra t H1 locs1 ht hvm hw hB hz hk hS => by obtain ⟨rfl, hB⟩ := hB; exact kk H1 locs1 (zIV_call M.2.2.2.1 I ht hB hS))
/-- the ends -/
theorem zretI (M : zMC own cc nL (some .int) g p m c s args meth) (I : zIV g σ (zAA g) s.heap H locs) {v : Int32} (hdg : decode cc pc = .ok (.ireturn, 1)) : W p l e R s m args below meth c H locs 0 0 (MQ below (zQI g v σ) args s 0 0 (zAA g)) (F0 m pc ls [.int v]) := by
  obtain ⟨⟨hx, hb, hml, hown, hts⟩, hr, hlocks, hK, hNw⟩ := M
  exact W.iret hx hb hr (fun t ht hW => ⟨⟨v, (), rfl, rfl, zPW_of hK hNw I ht hW⟩, I.2.2.F ht⟩) I.2.2.2.2 hdg hlocks
theorem zretZ (M : zMC own cc nL (some .boolean) g p m c s args meth) (I : zIV g σ (zAA g) s.heap H locs) {v : Int32} (hv : v = 0 ∨ v = 1) (hdg : decode cc pc = .ok (.ireturn, 1)) : W p l e R s m args below meth c H locs 0 0 (MQ below (zQI g v σ) args s 0 0 (zAA g)) (F0 m pc ls [.int v]) := by
  obtain ⟨⟨hx, hb, hml, hown, hts⟩, hr, hlocks, hK, hNw⟩ := M
  exact W.zret hx hb hr (by rcases hv with rfl | rfl <;> decide) (fun t ht hW => ⟨⟨v, (), rfl, rfl, zPW_of hK hNw I ht hW⟩, I.2.2.F ht⟩) I.2.2.2.2 hdg hlocks
theorem zretL (M : zMC own cc nL (some .long) g p m c s args meth) (I : zIV g σ (zAA g) s.heap H locs) {v : Int64} (hdg : decode cc pc = .ok (.lreturn, 1)) : W p l e R s m args below meth c H locs 0 0 (MQ below (zQL g v σ) args s 0 0 (zAA g)) (F0 m pc ls [.long v]) := by
  obtain ⟨⟨hx, hb, hml, hown, hts⟩, hr, hlocks, hK, hNw⟩ := M
  exact W.lret hx hb hr (fun t ht hW => ⟨⟨v, (), rfl, rfl, zPW_of hK hNw I ht hW⟩, I.2.2.F ht⟩) I.2.2.2.2 hdg hlocks
theorem zretD (M : zMC own cc nL (some .double) g p m c s args meth) (I : zIV g σ (zAA g) s.heap H locs) {v : UInt64} (hdg : decode cc pc = .ok (.dreturn, 1)) : W p l e R s m args below meth c H locs 0 0 (MQ below (zQD g v σ) args s 0 0 (zAA g)) (F0 m pc ls [.double v]) := by
  obtain ⟨⟨hx, hb, hml, hown, hts⟩, hr, hlocks, hK, hNw⟩ := M
  exact W.dret hx hb hr (fun t ht hW => ⟨⟨v, (), rfl, rfl, zPW_of hK hNw I ht hW⟩, I.2.2.F ht⟩) I.2.2.2.2 hdg hlocks
theorem zretV (M : zMC own cc nL none g p m c s args meth) (I : zIV g σ (zAA g) s.heap H locs) (hdg : decode cc pc = .ok (.return_, 1)) : W p l e R s m args below meth c H locs 0 0 (MQ below (zQV g σ) args s 0 0 (zAA g)) (F0 m pc ls []) := by
  obtain ⟨⟨hx, hb, hml, hown, hts⟩, hr, hlocks, hK, hNw⟩ := M
  exact W.vret hx hb hr (fun t ht hW => ⟨⟨(), rfl, trivial, zPW_of hK hNw I ht hW⟩, I.2.2.F ht⟩) I.2.2.2.2 hdg hlocks
theorem zretR {C : String} (M : zMC own cc nL (some (.object C)) g p m c s args meth) (I : zIV g σ (zAA g) s.heap H locs) {r : Nat} (hdg : decode cc pc = .ok (.areturn, 1)) : W p l e R s m args below meth c H locs 0 0 (MQ below (zQR g r σ) args s 0 0 (zAA g)) (F0 m pc ls [.ref (zA g r)]) := by
  obtain ⟨⟨hx, hb, hml, hown, hts⟩, hr, hlocks, hK, hNw⟩ := M
  exact W.aret hx hb hr (Or.inl ⟨_, rfl⟩) (Or.inr ⟨_, rfl⟩) (fun t ht hW => ⟨⟨(), zA g r, rfl, trivial, rfl, zPW_of hK hNw I ht hW⟩, I.2.2.F ht⟩) I.2.2.2.2 hdg hlocks
end ZR
/-- a contract out of its walk -/
theorem zopen {Qc : Array Value → State → Outcome → State → Prop} {l : Launch} {g : zgeo} {y : MethodName} {cc : ByteArray} {nL : Nat} {ret : Option FieldType} {f n : Nat} {as : List Value} {σ : zmem} (hy : plainName y.cls = true) (hlen : (lg_sl as).length ≤ nL)
    (body : ∀ (p : Program) (e : Env) (s : State) (m : MethodId) (below : List Frame) (meth : Method) (c : Code), zMC y.cls cc nL ret g p m c s as.toArray meth → ∀ ls : Array Slot, lv_has ls nL (lv_args 0 as) → zIV g σ (zAA g) s.heap s.heap [] →
      W p l e (zrm f n) s m as.toArray below meth c s.heap [] 0 0 (MQ below Qc as.toArray s 0 0 (zAA g)) (F0 m 0 ls [])) : zCt Qc l g y cc nL ret f n as σ := by
  refine Met.ofW (cc := cc) (maxL := nL) (ret := ret) hy rfl ?_
  intro p e s m args below meth c s₁ B hml hv
  obtain ⟨rfl, hP, hK, hD, hNw⟩ := hv
  have hts := atoms_spec (ws := zwm y cc nL ret) B.pre
  have hts : ∀ w ∈ wsL_law, w.before _ s = true := fun w h => hts w (List.mem_cons_of_mem _ h)
  have hown : s.vm.findClass y.cls = some m.cls := findClass_of_methodNamed B.named
  have hl := lv_entry as (n := nL) hlen
  rw [lg_entry_eq]
  exact body p e s m below meth c ⟨⟨B.exec, B.bytes, hml, hown, hts⟩, B.returns, B.notSynchronized, hK, hNw⟩ _ hl ⟨hP, hD.weaken (fun k q hq _ => by obtain ⟨hk, rfl⟩ := zwl_key hq; exact ⟨k, hk, rfl⟩), va_S.rf⟩
