def zkds : List (Nat × Nat) := [(10, 0), (7, 0), (6, 0), (100, 24), (6, 0), (100, 24), (1, 0), (100, 4), (7, 0), (6, 0), (100, 24), (6, 0), (100, 24), (1, 0), (100, 4), (7, 0), (6, 0), (100, 24), (6, 0), (100, 24), (1, 0), (100, 4), (7, 0), (6, 0), (100, 24), (6, 0), (100, 24), (1, 0), (100, 4), (4, 0), (1, 0), (100, 324), (8, 0), (1, 0), (100, 60), (5, 0), (0, 0), (1, 0), (100, 24), (1, 0), (100, 24), (1, 0), (100, 24), (1, 0), (100, 24), (2, 0), (1, 0), (100, 24), (1, 0), (100, 24), (1, 0), (100, 24), (1, 0), (100, 24), (3, 0), (100, 625), (100, 625), (1, 0), (100, 125), (1, 0), (100, 24), (1, 0), (100, 24), (5, 0), (0, 0), (1, 0), (100, 24), (1, 0), (100, 24), (1, 0), (100, 24), (1, 0), (100, 24), (2, 0), (1, 0), (100, 24), (1, 0), (100, 24), (1, 0), (100, 24), (1, 0), (100, 24), (3, 0), (100, 625), (100, 625), (1, 0), (100, 125), (1, 0), (100, 24), (1, 0), (100, 24), (9, 0), (0, 0), (1, 0), (100, 24), (1, 0), (100, 24), (1, 0), (100, 24), (1, 0), (100, 24), (1, 0), (100, 24), (11, 0), (100, 54), (100, 324), (100, 100), (100, 2), (100, 60), (100, 24), (100, 24), (100, 24), (100, 24), (100, 24), (100, 24), (100, 24), (100, 24), (100, 50), (100, 50), (100, 25), (100, 48), (100, 625), (100, 48), (100, 2), (101, 1)]
def zfds : List (List Nat) := [[2, 4, 0, 0, 6, 8], [2], [2, 4, 6, 8, 0], [2, 3, 0, 0, 0, 0], [2, 0], [2, 11, 0, 0, 20, 23, 25, 27], [2, 0], [2, 4, 6], [2, 0], [2, 0, 0, 11], [2, 9, 16, 23, 0, 0, 30, 33, 36, 64, 92, 0], [2, 0, 3, 4, 5, 0, 6, 0, 7, 8, 0, 9, 10, 0, 11, 12, 13, 14, 0, 15, 16, 17, 0, 18, 19, 20, 21, 0, 0, 1]]
/-- the words of all methods: the tables' words that a call may hand on -/
def wsL_law : List Cond := lw_tbl.filter goodWord
theorem zin {i : Nat} {w : Cond} (h : lw_tbl[i]? = some w) (hg : goodWord w = true) : w ∈ wsL_law := List.mem_filter.mpr ⟨List.mem_of_getElem? h, hg⟩
theorem zbig : ∀ w ∈ wsL_law, w ∈ wsL_law ∧ ((w.onTables && w.keeps) = true ∨ ∃ ty, w = .arrayClass ty) := fun w h => ⟨h, good_of_word (List.mem_filter.mp h).2⟩
/-! the world of class and reference as ONE memory: 125 cells at addresses ad 0 .. ad 124; what they hold is read off a function of cell and place -/
abbrev zmem : Type := (Nat → Nat → Int32) × (Nat → Nat → Int64)
abbrev zgeo : Type := (Nat → ClassId) × (Nat → Nat → Nat) × ClassId × ClassId × (Nat → Nat)
def zD (g : zgeo) : va_G := (g.1, g.2.1)
def zI (g : zgeo) : ClassId := g.2.2.1
def zJ (g : zgeo) : ClassId := g.2.2.2.1
def zA (g : zgeo) : Nat → Nat := g.2.2.2.2
def zT (g : zgeo) : List (ClassId × FieldType) := [(zI g, .int), (zJ g, .long)]
def zkd (i : Nat) : Nat × Nat := zkds.getD i (200, 0)
def zf (c : Nat) : List Nat := zfds.getD c []
def zfv (g : zgeo) (σ : zmem) (i k d : Nat) : Value := if d = 0 then .int (σ.1 i k) else if d = 1 then .long (σ.2 i k) else .ref (zA g (i + (d - 1)))
def zob (g : zgeo) (σ : zmem) (i c : Nat) : List Value := (List.range (zf c).length).map (fun k => zfv g σ i k ((zf c).getD k 0))
def zce (g : zgeo) (σ : zmem) (i : Nat) : va_E := if (zkd i).1 = 100 then .inl (zI g, (zkd i).2, .inl (σ.1 i)) else if (zkd i).1 = 101 then .inl (zJ g, (zkd i).2, .inr (.inl (σ.2 i))) else .inr ((zkd i).1, zob g σ i (zkd i).1)
def zwl (g : zgeo) (σ : zmem) : va_W := (List.range 125).map (fun i => (zA g i, zce g σ i))
def zup {α : Type} (f : Nat → Nat → α) (i k : Nat) (v : α) : Nat → Nat → α := fun a b => if a = i ∧ b = k then v else f a b
def zst (σ : zmem) (i k : Nat) (v : Int32) : zmem := (zup σ.1 i k v, σ.2)
def zsl (σ : zmem) (i k : Nat) (v : Int64) : zmem := (σ.1, zup σ.2 i k v)
def zrd (σ : zmem) (i : Nat) (j : Int32) : Option Int32 := if j < 0 ∨ (zkd i).2 ≤ j.toNatClampNeg then none else some (σ.1 i j.toNatClampNeg)
def zwr (σ : zmem) (i : Nat) (j v : Int32) : Option zmem := if j < 0 ∨ (zkd i).2 ≤ j.toNatClampNeg then none else some (zst σ i j.toNatClampNeg v)
def zrl (σ : zmem) (i : Nat) (j : Int32) : Option Int64 := if j < 0 ∨ (zkd i).2 ≤ j.toNatClampNeg then none else some (σ.2 i j.toNatClampNeg)
def zwL (σ : zmem) (i : Nat) (j : Int32) (v : Int64) : Option zmem := if j < 0 ∨ (zkd i).2 ≤ j.toNatClampNeg then none else some (zsl σ i j.toNatClampNeg v)
/-- a truth value -/
def zbo (v : Int32) : Option Int32 := if v = 0 ∨ v = 1 then some v else none
/-- a double that is a number -/
def zdn (v : UInt64) : Option UInt64 := if v &&& 0x7fffffffffffffff ≤ 0x7ff0000000000000 then some v else none
theorem zrd_some {σ : zmem} {i : Nat} {j v : Int32} (h : zrd σ i j = some v) : vp_in j (zkd i).2 ∧ v = σ.1 i j.toNatClampNeg := by
  unfold zrd at h
  split at h
  · cases h
  · next hn => exact ⟨hn, (Option.some.inj h).symm⟩
theorem zwr_some {σ σ' : zmem} {i : Nat} {j v : Int32} (h : zwr σ i j v = some σ') : vp_in j (zkd i).2 ∧ σ' = zst σ i j.toNatClampNeg v := by
  unfold zwr at h
  split at h
  · cases h
  · next hn => exact ⟨hn, (Option.some.inj h).symm⟩
theorem zrl_some {σ : zmem} {i : Nat} {j : Int32} {v : Int64} (h : zrl σ i j = some v) : vp_in j (zkd i).2 ∧ v = σ.2 i j.toNatClampNeg := by
  unfold zrl at h
  split at h
  · cases h
  · next hn => exact ⟨hn, (Option.some.inj h).symm⟩
theorem zwL_some {σ σ' : zmem} {i : Nat} {j : Int32} {v : Int64} (h : zwL σ i j v = some σ') : vp_in j (zkd i).2 ∧ σ' = zsl σ i j.toNatClampNeg v := by
  unfold zwL at h
  split at h
  · cases h
  · next hn => exact ⟨hn, (Option.some.inj h).symm⟩
theorem zbo_some {v w : Int32} (h : zbo v = some w) : (v = 0 ∨ v = 1) ∧ w = v := by
  unfold zbo at h
  split at h
  · next hn => exact ⟨hn, (Option.some.inj h).symm⟩
  · cases h
theorem zdn_some {v w : UInt64} (h : zdn v = some w) : vf_n64 v ∧ w = v := by
  unfold zdn at h
  split at h
  · next hn => exact ⟨hn, (Option.some.inj h).symm⟩
  · cases h
theorem zb_some {α β : Type} {x : Option α} {f : α → Option β} {r : β} (h : x.bind f = some r) : ∃ y, x = some y ∧ f y = some r := by
  cases x with
  | none => cases h
  | some y => exact ⟨y, rfl, h⟩
theorem zkd_lt {i c n : Nat} (h : zkd i = (c, n)) (hc : c < 200) : i < 125 := by
  by_cases hi : i < 125
  · exact hi
  · exfalso
    unfold zkd at h
    have h9 : zkds.length = 125 := by decide +kernel
    rw [List.getD_eq_getElem?_getD, List.getElem?_eq_none (by omega)] at h
    cases h
    omega
theorem zwl_get {g : zgeo} {σ : zmem} {i : Nat} (h : i < 125) : (zwl g σ)[i]? = some (zA g i, zce g σ i) := by
  unfold zwl
  rw [List.getElem?_map, List.getElem?_range h]
  rfl
theorem zwl_len {g : zgeo} {σ : zmem} : (zwl g σ).length = 125 := by simp [zwl]
theorem zwl_key {g : zgeo} {σ : zmem} {k : Nat} {q : Nat × va_E} (h : (zwl g σ)[k]? = some q) : k < 125 ∧ q = (zA g k, zce g σ k) := by
  have hk : k < 125 := by
    have := (List.getElem?_eq_some_iff.mp h).1
    rwa [zwl_len] at this
  rw [zwl_get hk] at h
  exact ⟨hk, (Option.some.inj h).symm⟩
theorem zob_get {g : zgeo} {σ : zmem} {i c k d : Nat} (hk : k < (zf c).length) (hd : (zf c).getD k 0 = d) : (zob g σ i c)[k]? = some (zfv g σ i k d) := by
  unfold zob
  rw [List.getElem?_map, List.getElem?_range hk]
  show some (zfv g σ i k ((zf c).getD k 0)) = _
  rw [hd]
theorem zce_ob {g : zgeo} {σ : zmem} {i c n : Nat} (h : zkd i = (c, n)) (hc : c < 100) : zce g σ i = .inr (c, zob g σ i c) := by
  unfold zce
  rw [h]
  rw [if_neg (by show ¬ c = 100; omega), if_neg (by show ¬ c = 101; omega)]
theorem zce_ar {g : zgeo} {σ : zmem} {i n : Nat} (h : zkd i = (100, n)) : zce g σ i = .inl (zI g, n, .inl (σ.1 i)) := by
  unfold zce
  rw [h]
  rfl
theorem zce_la {g : zgeo} {σ : zmem} {i n : Nat} (h : zkd i = (101, n)) : zce g σ i = .inl (zJ g, n, .inr (.inl (σ.2 i))) := by
  unfold zce
  rw [h]
  rfl
theorem zce_eq {g : zgeo} {σ σ' : zmem} {i : Nat} (h1 : σ'.1 i = σ.1 i) (h2 : σ'.2 i = σ.2 i) : zce g σ' i = zce g σ i := by
  have h3 : ∀ c, zob g σ' i c = zob g σ i c := fun c => by
    unfold zob
    refine List.map_congr_left fun k _ => ?_
    unfold zfv
    rw [h1, h2]
  unfold zce
  rw [h1, h2, h3]
theorem zup_ne {α : Type} {f : Nat → Nat → α} {i k j : Nat} {v : α} (h : j ≠ i) : zup f i k v j = f j := by
  funext b
  unfold zup
  rw [if_neg (fun q => h q.1)]
theorem zup_row {f : Nat → Nat → Int32} {i k : Nat} {v : Int32} : zup f i k v i = upd (f i) k v := by
  funext b
  unfold zup upd
  by_cases h : b = k
  · rw [if_pos ⟨rfl, h⟩, if_pos h]
  · rw [if_neg (fun q => h q.2), if_neg h]
theorem zup_rowL {f : Nat → Nat → Int64} {i k : Nat} {v : Int64} : zup f i k v i = vp_updL (f i) k v := by
  funext b
  unfold zup vp_updL
  by_cases h : b = k
  · rw [if_pos ⟨rfl, h⟩, if_pos h]
  · rw [if_neg (fun q => h q.2), if_neg h]
theorem zup_same {α : Type} {f : Nat → Nat → α} {i k j : Nat} {v : α} (h : j ≠ k) : zup f i k v i j = f i j := by
  unfold zup
  rw [if_neg (fun q => h q.2)]
theorem zup_at {α : Type} {f : Nat → Nat → α} {i k : Nat} {v : α} : zup f i k v i k = v := by
  unfold zup
  rw [if_pos ⟨rfl, rfl⟩]
theorem zwl_set {g : zgeo} {σ σ' : zmem} {i : Nat} {e : va_E} (hi : i < 125) (he : e = zce g σ' i) (h : ∀ j, j ≠ i → zce g σ' j = zce g σ j) : (zwl g σ).set i (zA g i, e) = zwl g σ' := by
  refine List.ext_getElem? fun k => ?_
  by_cases hk : k < 125
  · by_cases hki : k = i
    · subst hki
      rw [List.getElem?_set_self (by rw [zwl_len]; exact hk), zwl_get hk, he]
    · rw [List.getElem?_set_ne (Ne.symm hki), zwl_get hk, zwl_get hk, h k hki]
  · rw [List.getElem?_eq_none (by rw [List.length_set, zwl_len]; omega), List.getElem?_eq_none (by rw [zwl_len]; omega)]
theorem zob_set {g : zgeo} {σ σ' : zmem} {i c k d : Nat} (hk : k < (zf c).length) (hd : (zf c).getD k 0 = d) (h1 : ∀ j, j ≠ k → σ'.1 i j = σ.1 i j) (h2 : ∀ j, j ≠ k → σ'.2 i j = σ.2 i j) : zob g σ' i c = (zob g σ i c).set k (zfv g σ' i k d) := by
  refine List.ext_getElem? fun j => ?_
  by_cases hj : j < (zf c).length
  · by_cases hjk : j = k
    · subst hjk
      rw [List.getElem?_set_self (by simp [zob]; exact hk), zob_get hk hd]
    · rw [List.getElem?_set_ne (Ne.symm hjk), zob_get hj rfl, zob_get hj rfl]
      unfold zfv
      rw [h1 j hjk, h2 j hjk]
  · rw [List.getElem?_eq_none (by simp [zob]; omega), List.getElem?_eq_none (by simp [zob]; omega)]
/-- the world at a point of a walk -/
def zIV (g : zgeo) (σ : zmem) (A : Nat → Prop) (H0 H : Heap) (locs : List Loc) : Prop := va_P (zD g) vwCl (zwl g σ) H ∧ va_D A (zwl g σ) ∧ va_S A H0 H locs
/-- the one field that a nest mate reaches -/
def zNw (U : State) : Prop := va_Nw (.fieldLinkNest RX7 38 RX6 "many" "I" "AnchorChains") U
/-- what a method's walk knows of its own method -/
def zMC (own : String) (cc : ByteArray) (nL : Nat) (ret : Option FieldType) (g : zgeo) (p : Program) (m : MethodId) (c : Code) (s : State) (args : Array Value) (meth : Method) : Prop :=
  CallFix p m c cc nL s args wsL_law own ∧ meth.sig.returnType = ret ∧ meth.locks = false ∧ va_K (zD g) vwCl (zT g) s ∧ zNw s
/-- what is known of a class by its number -/
def zCK (ci : Nat) (C : String) (T : u_T) (N : Nat) (ty : Nat → FieldType) : Prop := vwCl[ci]? = some (C, T, N) ∧ (∀ w ∈ u_ws C T N, w ∈ wsL_law) ∧ (∀ k, k < N → parseFieldDescriptor (T k).2.2.1 = some (ty k)) ∧ (∀ a, a < N → ∀ b, b < N → a ≠ b → (T a).2.1 ≠ (T b).2.1) ∧ (zf ci).length = N ∧ ci < 100
/-- a field's link: class and place, its kind in the layout -/
def zFL (own : String) (idx ci k d : Nat) : Prop := ∃ (C : String) (T : u_T) (N : Nat) (ty : Nat → FieldType), zCK ci C T N ty ∧ k < N ∧ (zf ci).getD k 0 = d ∧ Cond.fieldLink own idx (T k).1 (T k).2.1 (T k).2.2.1 ∈ wsL_law
def zFW (own : String) (idx ci k d : Nat) (t : FieldType) : Prop := ∃ (C : String) (T : u_T) (N : Nat) (ty : Nat → FieldType), zCK ci C T N ty ∧ k < N ∧ (zf ci).getD k 0 = d ∧ Cond.fieldLink own idx (T k).1 (T k).2.1 (T k).2.2.1 ∈ wsL_law ∧ (T k).2.2.2 = false ∧ parseFieldDescriptor (T k).2.2.1 = some t
abbrev zwm (y : MethodName) (cc : ByteArray) (n : Nat) (r : Option FieldType) : List Cond := Cond.code y cc n r :: wsL_law
def zrm (f n : Nat) : Room := { frames := f, cells := 0, slots := 0, locals := n }
def zAA (g : zgeo) : Nat → Prop := fun q => ∃ i, i < 125 ∧ q = zA g i
def zPW (g : zgeo) (σ : zmem) (U : State) : Prop := va_P (zD g) vwCl (zwl g σ) U.heap ∧ va_K (zD g) vwCl (zT g) U ∧ va_D (fun _ => True) (zwl g σ) ∧ zNw U
abbrev zQI (g : zgeo) (r : Int32) (σ : zmem) := va_Qi (fun v (_ : Unit) => v = r) (fun _ => zPW g σ) (zAA g)
abbrev zQL (g : zgeo) (r : Int64) (σ : zmem) := va_Ql (fun v (_ : Unit) => v = r) (fun _ => zPW g σ) (zAA g)
abbrev zQD (g : zgeo) (r : UInt64) (σ : zmem) := va_Qd (fun v (_ : Unit) => v = r) (fun _ => zPW g σ) (zAA g)
abbrev zQV (g : zgeo) (σ : zmem) := va_Qv (fun (_ : Unit) => True) (fun _ => zPW g σ) (zAA g)
abbrev zQR (g : zgeo) (r : Nat) (σ : zmem) := va_Qr (fun (_ : Unit) => True) (fun _ a t => a = zA g r ∧ zPW g σ t) (zAA g)
/-- the contracts: at these arguments and this memory the method returns this, and leaves that memory -/
def zCt (Q : Array Value → State → Outcome → State → Prop) (l : Launch) (g : zgeo) (y : MethodName) (cc : ByteArray) (nL : Nat) (ret : Option FieldType) (f n : Nat) (as : List Value) (σ : zmem) : Prop := Met l y (zwm y cc nL ret) (zrm f n) (va_Pc as (zPW g σ)) Q 0 0 (zAA g)
set_option maxRecDepth 20000 in
theorem zin0 : ∀ w ∈ u_ws RX0 TX0 6, w ∈ wsL_law := fun w h => List.mem_filter.mpr ⟨(goodIn_r _ [213, 215, 217, 219, 221, 223] (by decide +kernel) (by decide +kernel) w h).1, List.all_eq_true.mp (show (u_ws RX0 TX0 6).all goodWord = true by decide +kernel) w h⟩
theorem zK0 : zCK 0 RX0 TX0 6 tyX0 := ⟨rfl, zin0, tyX0_ok, nmX0, by decide, by decide⟩
set_option maxRecDepth 20000 in
theorem zin1 : ∀ w ∈ u_ws RX1 TX1 1, w ∈ wsL_law := fun w h => List.mem_filter.mpr ⟨(goodIn_r _ [124] (by decide +kernel) (by decide +kernel) w h).1, List.all_eq_true.mp (show (u_ws RX1 TX1 1).all goodWord = true by decide +kernel) w h⟩
theorem zK1 : zCK 1 RX1 TX1 1 tyX1 := ⟨rfl, zin1, tyX1_ok, nmX1, by decide, by decide⟩
set_option maxRecDepth 20000 in
theorem zin2 : ∀ w ∈ u_ws RX2 TX2 5, w ∈ wsL_law := fun w h => List.mem_filter.mpr ⟨(goodIn_r _ [244, 246, 248, 250, 252] (by decide +kernel) (by decide +kernel) w h).1, List.all_eq_true.mp (show (u_ws RX2 TX2 5).all goodWord = true by decide +kernel) w h⟩
theorem zK2 : zCK 2 RX2 TX2 5 tyX2 := ⟨rfl, zin2, tyX2_ok, nmX2, by decide, by decide⟩
set_option maxRecDepth 20000 in
theorem zin3 : ∀ w ∈ u_ws RX3 TX3 6, w ∈ wsL_law := fun w h => List.mem_filter.mpr ⟨(goodIn_r _ [271, 273, 275, 277, 279, 281] (by decide +kernel) (by decide +kernel) w h).1, List.all_eq_true.mp (show (u_ws RX3 TX3 6).all goodWord = true by decide +kernel) w h⟩
theorem zK3 : zCK 3 RX3 TX3 6 tyX3 := ⟨rfl, zin3, tyX3_ok, nmX3, by decide, by decide⟩
set_option maxRecDepth 20000 in
theorem zin4 : ∀ w ∈ u_ws RX4 TX4 2, w ∈ wsL_law := fun w h => List.mem_filter.mpr ⟨(goodIn_r _ [165, 167] (by decide +kernel) (by decide +kernel) w h).1, List.all_eq_true.mp (show (u_ws RX4 TX4 2).all goodWord = true by decide +kernel) w h⟩
theorem zK4 : zCK 4 RX4 TX4 2 tyX4 := ⟨rfl, zin4, tyX4_ok, nmX4, by decide, by decide⟩
set_option maxRecDepth 20000 in
theorem zin5 : ∀ w ∈ u_ws RX5 TX5 8, w ∈ wsL_law := fun w h => List.mem_filter.mpr ⟨(goodIn_r _ [298, 300, 302, 304, 306, 308, 310, 312] (by decide +kernel) (by decide +kernel) w h).1, List.all_eq_true.mp (show (u_ws RX5 TX5 8).all goodWord = true by decide +kernel) w h⟩
theorem zK5 : zCK 5 RX5 TX5 8 tyX5 := ⟨rfl, zin5, tyX5_ok, nmX5, by decide, by decide⟩
set_option maxRecDepth 20000 in
theorem zin6 : ∀ w ∈ u_ws RX6 TX6 2, w ∈ wsL_law := fun w h => List.mem_filter.mpr ⟨(goodIn_r _ [111, 113] (by decide +kernel) (by decide +kernel) w h).1, List.all_eq_true.mp (show (u_ws RX6 TX6 2).all goodWord = true by decide +kernel) w h⟩
theorem zK6 : zCK 6 RX6 TX6 2 tyX6 := ⟨rfl, zin6, tyX6_ok, nmX6, by decide, by decide⟩
set_option maxRecDepth 20000 in
theorem zin7 : ∀ w ∈ u_ws RX7 TX7 3, w ∈ wsL_law := fun w h => List.mem_filter.mpr ⟨(goodIn_r _ [148, 150, 152] (by decide +kernel) (by decide +kernel) w h).1, List.all_eq_true.mp (show (u_ws RX7 TX7 3).all goodWord = true by decide +kernel) w h⟩
theorem zK7 : zCK 7 RX7 TX7 3 tyX7 := ⟨rfl, zin7, tyX7_ok, nmX7, by decide, by decide⟩
set_option maxRecDepth 20000 in
theorem zin8 : ∀ w ∈ u_ws RX8 TX8 2, w ∈ wsL_law := fun w h => List.mem_filter.mpr ⟨(goodIn_r _ [180, 182] (by decide +kernel) (by decide +kernel) w h).1, List.all_eq_true.mp (show (u_ws RX8 TX8 2).all goodWord = true by decide +kernel) w h⟩
theorem zK8 : zCK 8 RX8 TX8 2 tyX8 := ⟨rfl, zin8, tyX8_ok, nmX8, by decide, by decide⟩
set_option maxRecDepth 20000 in
theorem zin9 : ∀ w ∈ u_ws RX9 TX9 4, w ∈ wsL_law := fun w h => List.mem_filter.mpr ⟨(goodIn_r _ [332, 334, 336, 338] (by decide +kernel) (by decide +kernel) w h).1, List.all_eq_true.mp (show (u_ws RX9 TX9 4).all goodWord = true by decide +kernel) w h⟩
theorem zK9 : zCK 9 RX9 TX9 4 tyX9 := ⟨rfl, zin9, tyX9_ok, nmX9, by decide, by decide⟩
set_option maxRecDepth 20000 in
theorem zin10 : ∀ w ∈ u_ws RX10 TX10 12, w ∈ wsL_law := fun w h => List.mem_filter.mpr ⟨(goodIn_r _ [353, 355, 357, 359, 361, 363, 365, 367, 369, 371, 373, 375] (by decide +kernel) (by decide +kernel) w h).1, List.all_eq_true.mp (show (u_ws RX10 TX10 12).all goodWord = true by decide +kernel) w h⟩
theorem zK10 : zCK 10 RX10 TX10 12 tyX10 := ⟨rfl, zin10, tyX10_ok, nmX10, by decide, by decide⟩
set_option maxRecDepth 20000 in
theorem zin11 : ∀ w ∈ u_ws RX11 TX11 30, w ∈ wsL_law := fun w h => List.mem_filter.mpr ⟨(goodIn_r _ [1093, 1095, 1097, 1099, 1101, 1103, 1105, 1107, 1109, 1111, 1113, 1115, 1117, 1119, 1121, 1123, 1125, 1127, 1129, 1131, 1133, 1135, 1137, 1139, 1141, 1143, 1145, 1147, 1149, 1151] (by decide +kernel) (by decide +kernel) w h).1, List.all_eq_true.mp (show (u_ws RX11 TX11 30).all goodWord = true by decide +kernel) w h⟩
theorem zK11 : zCK 11 RX11 TX11 30 tyX11 := ⟨rfl, zin11, tyX11_ok, nmX11, by decide, by decide⟩
section ZR
variable {p : Program} {l : Launch} {e : Env} {R : Room} {s : State} {m : MethodId} {args : Array Value} {below : List Frame} {meth : Method} {c : Code} {H : Heap} {locs : List Loc} {cells slots : Nat} {Q : State → Prop}
variable {own : String} {cc : ByteArray} {nL : Nat} {ret : Option FieldType} {g : zgeo} {σ : zmem} {A : Nat → Prop} {H0 : Heap} {pc : Nat} {ls : Array Slot} {rest : List Value}
theorem zIV.app (I : zIV g σ A H0 H locs) : ∀ q, zAA g q → A q := fun q ⟨i, hi, hq⟩ => by rw [hq]; exact I.2.1.2 i _ (zwl_get hi)
theorem zgetI (M : zMC own cc nL ret g p m c s args meth) (I : zIV g σ A H0 H locs) {i ci k idx : Nat} (hi : zkd i = (ci, 0)) (F : zFL own idx ci k 0) (hdg : decode cc pc = .ok (.getfield idx, 3))
    (kk : W p l e R s m args below meth c H locs cells slots Q (F0 m (pc + 3) ls (.int (σ.1 i k) :: rest))) : W p l e R s m args below meth c H locs cells slots Q (F0 m pc ls (.ref (zA g i) :: rest)) := by
  obtain ⟨⟨hx, hb, hml, hown, hts⟩, -, -, hK, hNw⟩ := M
  obtain ⟨C, T, N, ty, ⟨k1, k2, k3, k4, k5, k6⟩, hk, hd, hw⟩ := F
  have he := zwl_get (g := g) (σ := σ) (zkd_lt hi (by omega))
  rw [zce_ob hi k6] at he
  exact va_get hx hb hts k2 hown hK I.1 i he k1 k hk (hts _ hw) (fun _ h => h) (v := .int (σ.1 i k)) (zob_get (by rw [k5]; exact hk) hd) hdg kk
theorem zgetL (M : zMC own cc nL ret g p m c s args meth) (I : zIV g σ A H0 H locs) {i ci k idx : Nat} (hi : zkd i = (ci, 0)) (F : zFL own idx ci k 1) (hdg : decode cc pc = .ok (.getfield idx, 3))
    (kk : W p l e R s m args below meth c H locs cells slots Q (F0 m (pc + 3) ls (.long (σ.2 i k) :: rest))) : W p l e R s m args below meth c H locs cells slots Q (F0 m pc ls (.ref (zA g i) :: rest)) := by
  obtain ⟨⟨hx, hb, hml, hown, hts⟩, -, -, hK, hNw⟩ := M
  obtain ⟨C, T, N, ty, ⟨k1, k2, k3, k4, k5, k6⟩, hk, hd, hw⟩ := F
  have he := zwl_get (g := g) (σ := σ) (zkd_lt hi (by omega))
  rw [zce_ob hi k6] at he
  exact va_get hx hb hts k2 hown hK I.1 i he k1 k hk (hts _ hw) (fun _ h => h) (v := .long (σ.2 i k)) (zob_get (by rw [k5]; exact hk) hd) hdg kk
theorem zgetR (M : zMC own cc nL ret g p m c s args meth) (I : zIV g σ A H0 H locs) {i ci k idx o : Nat} (hi : zkd i = (ci, 0)) (F : zFL own idx ci k (o + 2)) (hdg : decode cc pc = .ok (.getfield idx, 3)) {j : Nat} (hj : j = i + (o + 1))
    (kk : W p l e R s m args below meth c H locs cells slots Q (F0 m (pc + 3) ls (.ref (zA g j) :: rest))) : W p l e R s m args below meth c H locs cells slots Q (F0 m pc ls (.ref (zA g i) :: rest)) := by
  obtain ⟨⟨hx, hb, hml, hown, hts⟩, -, -, hK, hNw⟩ := M
  obtain ⟨C, T, N, ty, ⟨k1, k2, k3, k4, k5, k6⟩, hk, hd, hw⟩ := F
  have he := zwl_get (g := g) (σ := σ) (zkd_lt hi (by omega))
  rw [zce_ob hi k6] at he
  subst hj
  exact va_get hx hb hts k2 hown hK I.1 i he k1 k hk (hts _ hw) (fun _ h => h) (v := .ref (zA g (i + (o + 1)))) (zob_get (by rw [k5]; exact hk) hd) hdg kk
theorem zst_ce {i k j : Nat} {v : Int32} (h : j ≠ i) : zce g (zst σ i k v) j = zce g σ j := zce_eq (zup_ne h) rfl
theorem zsl_ce {i k j : Nat} {v : Int64} (h : j ≠ i) : zce g (zsl σ i k v) j = zce g σ j := zce_eq rfl (zup_ne h)
theorem zputV (M : zMC own cc nL ret g p m c s args meth) (I : zIV g σ A H0 H locs) {i ci k idx d : Nat} {t : FieldType} {v : Value} {σ' : zmem} (hi : zkd i = (ci, 0)) (F : zFW own idx ci k d t) (hn : narrow t v = v) (hfit : fits t v = true) (hv : zfv g σ' i k d = v)
    (h1 : ∀ j, j ≠ k → σ'.1 i j = σ.1 i j) (h2 : ∀ j, j ≠ k → σ'.2 i j = σ.2 i j) (h3 : ∀ j, j ≠ i → zce g σ' j = zce g σ j) (hdg : decode cc pc = .ok (.putfield idx, 3))
    (kk : ∀ H locs, zIV g σ' A H0 H locs → W p l e R s m args below meth c H locs cells slots Q (F0 m (pc + 3) ls rest)) : W p l e R s m args below meth c H locs cells slots Q (F0 m pc ls (v :: .ref (zA g i) :: rest)) := by
  obtain ⟨⟨hx, hb, hml, hown, hts⟩, -, -, hK, hNw⟩ := M
  obtain ⟨C, T, N, ty, ⟨k1, k2, k3, k4, k5, k6⟩, hk, hd, hw, hfin, hpd⟩ := F
  have hlt := zkd_lt hi (by omega)
  have he := zwl_get (g := g) (σ := σ) hlt
  rw [zce_ob hi k6] at he
  refine va_put hx hb hts k2 ty k3 k4 hown hK I.1 I.2.1 I.2.2 i he k1 k hk (hts _ hw) (fun _ h => h) hfin hpd hn hfit (by simp [zob]; rw [k5]; exact hk) hdg (fun H1 locs1 hP hD hS => ?_)
  have e : (zwl g σ).set i (zA g i, .inr (ci, (zob g σ i ci).set k v)) = zwl g σ' := by
    refine zwl_set hlt ?_ h3
    rw [zce_ob hi k6, zob_set (by rw [k5]; exact hk) hd h1 h2, hv]
  rw [e] at hP hD
  exact kk H1 locs1 ⟨hP, hD, hS⟩
theorem zgetN (M : zMC RX7 cc nL ret g p m c s args meth) (I : zIV g σ A H0 H locs) {i : Nat} (hi : zkd i = (6, 0)) (hdg : decode cc pc = .ok (.getfield 38, 3))
    (kk : W p l e R s m args below meth c H locs cells slots Q (F0 m (pc + 3) ls (.int (σ.1 i 1) :: rest))) : W p l e R s m args below meth c H locs cells slots Q (F0 m pc ls (.ref (zA g i) :: rest)) := by
  obtain ⟨⟨hx, hb, hml, hown, hts⟩, -, -, hK, hNw⟩ := M
  obtain ⟨k1, k2, k3, k4, k5, k6⟩ := zK6
  have he := zwl_get (g := g) (σ := σ) (zkd_lt hi (by omega))
  rw [zce_ob hi k6] at he
  exact va_getN (host := "AnchorChains") hx hb hts k2 hown hK I.1 i he k1 1 (show 1 < 2 by decide) (va_Nw.use rfl hNw) (fun _ h => h) (v := .int (σ.1 i 1)) (zob_get (by rw [k5]; decide) (by decide)) hdg kk
theorem zputN (M : zMC RX7 cc nL ret g p m c s args meth) (I : zIV g σ A H0 H locs) {i : Nat} {v : Int32} (hi : zkd i = (6, 0)) (hdg : decode cc pc = .ok (.putfield 38, 3))
    (kk : ∀ H locs, zIV g (zst σ i 1 v) A H0 H locs → W p l e R s m args below meth c H locs cells slots Q (F0 m (pc + 3) ls rest)) : W p l e R s m args below meth c H locs cells slots Q (F0 m pc ls (.int v :: .ref (zA g i) :: rest)) := by
  obtain ⟨⟨hx, hb, hml, hown, hts⟩, -, -, hK, hNw⟩ := M
  obtain ⟨k1, k2, k3, k4, k5, k6⟩ := zK6
  have hlt := zkd_lt hi (by omega)
  have he := zwl_get (g := g) (σ := σ) hlt
  rw [zce_ob hi k6] at he
  refine va_putN (host := "AnchorChains") (ty := .int) hx hb hts k2 tyX6 k3 k4 hown hK I.1 I.2.1 I.2.2 i he k1 1 (show 1 < 2 by decide) (va_Nw.use rfl hNw) (fun _ h => h) rfl (by decide) rfl rfl (by simp [zob]; rw [k5]; decide) hdg (fun H1 locs1 hP hD hS => ?_)
  have e : (zwl g σ).set i (zA g i, .inr (6, (zob g σ i 6).set 1 (.int v))) = zwl g (zst σ i 1 v) := by
    refine zwl_set hlt ?_ (fun _ h => zst_ce h)
    rw [zce_ob hi k6, zob_set (σ := σ) (σ' := zst σ i 1 v) (k := 1) (d := 0) (by rw [k5]; decide) (by decide) (fun j h => zup_same h) (fun _ _ => rfl)]
    rw [show zfv g (zst σ i 1 v) i 1 0 = Value.int v from (show Value.int (zup σ.1 i 1 v i 1) = _ by rw [zup_at])]
  rw [e] at hP hD
  exact kk H1 locs1 ⟨hP, hD, hS⟩
theorem zputI (M : zMC own cc nL ret g p m c s args meth) (I : zIV g σ A H0 H locs) {i ci k idx : Nat} {v : Int32} (hi : zkd i = (ci, 0)) (F : zFW own idx ci k 0 .int) (hdg : decode cc pc = .ok (.putfield idx, 3))
    (kk : ∀ H locs, zIV g (zst σ i k v) A H0 H locs → W p l e R s m args below meth c H locs cells slots Q (F0 m (pc + 3) ls rest)) : W p l e R s m args below meth c H locs cells slots Q (F0 m pc ls (.int v :: .ref (zA g i) :: rest)) :=
  zputV (σ' := zst σ i k v) M I hi F rfl rfl (show Value.int (zup σ.1 i k v i k) = _ by rw [zup_at]) (fun _ h => zup_same h) (fun _ _ => rfl) (fun _ h => zst_ce h) hdg kk
theorem zputZ (M : zMC own cc nL ret g p m c s args meth) (I : zIV g σ A H0 H locs) {i ci k idx : Nat} {v : Int32} (hv : v = 0 ∨ v = 1) (hi : zkd i = (ci, 0)) (F : zFW own idx ci k 0 .boolean) (hdg : decode cc pc = .ok (.putfield idx, 3))
    (kk : ∀ H locs, zIV g (zst σ i k v) A H0 H locs → W p l e R s m args below meth c H locs cells slots Q (F0 m (pc + 3) ls rest)) : W p l e R s m args below meth c H locs cells slots Q (F0 m pc ls (.int v :: .ref (zA g i) :: rest)) :=
  zputV (σ' := zst σ i k v) M I hi F (by rcases hv with rfl | rfl <;> decide) (by rcases hv with rfl | rfl <;> decide) (show Value.int (zup σ.1 i k v i k) = _ by rw [zup_at]) (fun _ h => zup_same h) (fun _ _ => rfl) (fun _ h => zst_ce h) hdg kk
theorem zputL (M : zMC own cc nL ret g p m c s args meth) (I : zIV g σ A H0 H locs) {i ci k idx : Nat} {v : Int64} (hi : zkd i = (ci, 0)) (F : zFW own idx ci k 1 .long) (hdg : decode cc pc = .ok (.putfield idx, 3))
    (kk : ∀ H locs, zIV g (zsl σ i k v) A H0 H locs → W p l e R s m args below meth c H locs cells slots Q (F0 m (pc + 3) ls rest)) : W p l e R s m args below meth c H locs cells slots Q (F0 m pc ls (.long v :: .ref (zA g i) :: rest)) :=
  zputV (σ' := zsl σ i k v) M I hi F rfl rfl (show Value.long (zup σ.2 i k v i k) = _ by rw [zup_at]) (fun _ _ => rfl) (fun _ h => zup_same h) (fun _ h => zsl_ce h) hdg kk
theorem zkd_len {i t n : Nat} (h : zkd i = (t, n)) : (zkd i).2 = n := by rw [h]
theorem ziald (M : zMC own cc nL ret g p m c s args meth) (I : zIV g σ A H0 H locs) {i n : Nat} {j v : Int32} (hi : zkd i = (100, n)) (hv : zrd σ i j = some v) (hdg : decode cc pc = .ok (.iaload, 1))
    (kk : W p l e R s m args below meth c H locs cells slots Q (F0 m (pc + 1) ls (.int v :: rest))) : W p l e R s m args below meth c H locs cells slots Q (F0 m pc ls (.int j :: .ref (zA g i) :: rest)) := by
  obtain ⟨⟨hx, hb, hml, hown, hts⟩, -, -, hK, hNw⟩ := M
  obtain ⟨hin, rfl⟩ := zrd_some hv
  rw [zkd_len hi] at hin
  have he := zwl_get (g := g) (σ := σ) (zkd_lt hi (by omega))
  rw [zce_ar hi] at he
  exact va_iald hx hb hK I.1 i 0 he rfl hin hdg kk
theorem zlald (M : zMC own cc nL ret g p m c s args meth) (I : zIV g σ A H0 H locs) {i n : Nat} {j : Int32} {v : Int64} (hi : zkd i = (101, n)) (hv : zrl σ i j = some v) (hdg : decode cc pc = .ok (.laload, 1))
    (kk : W p l e R s m args below meth c H locs cells slots Q (F0 m (pc + 1) ls (.long v :: rest))) : W p l e R s m args below meth c H locs cells slots Q (F0 m pc ls (.int j :: .ref (zA g i) :: rest)) := by
  obtain ⟨⟨hx, hb, hml, hown, hts⟩, -, -, hK, hNw⟩ := M
  obtain ⟨hin, rfl⟩ := zrl_some hv
  rw [zkd_len hi] at hin
  have he := zwl_get (g := g) (σ := σ) (zkd_lt hi (by omega))
  rw [zce_la hi] at he
  exact va_lald hx hb hK I.1 i 1 he rfl hin hdg kk
theorem ziast (M : zMC own cc nL ret g p m c s args meth) (I : zIV g σ A H0 H locs) {i n : Nat} {j v : Int32} {σ' : zmem} (hi : zkd i = (100, n)) (hv : zwr σ i j v = some σ') (hdg : decode cc pc = .ok (.iastore, 1))
    (kk : ∀ H locs, zIV g σ' A H0 H locs → W p l e R s m args below meth c H locs cells slots Q (F0 m (pc + 1) ls rest)) : W p l e R s m args below meth c H locs cells slots Q (F0 m pc ls (.int v :: .int j :: .ref (zA g i) :: rest)) := by
  obtain ⟨⟨hx, hb, hml, hown, hts⟩, -, -, hK, hNw⟩ := M
  obtain ⟨hin, rfl⟩ := zwr_some hv
  rw [zkd_len hi] at hin
  have hlt := zkd_lt hi (by omega)
  have he := zwl_get (g := g) (σ := σ) hlt
  rw [zce_ar hi] at he
  refine va_iast hx hb hK I.1 I.2.1 I.2.2 i 0 he rfl hin hdg (fun H1 locs1 hP hD hS => ?_)
  have e : (zwl g σ).set i (zA g i, .inl (zI g, n, .inl (upd (σ.1 i) j.toNatClampNeg v))) = zwl g (zst σ i j.toNatClampNeg v) := by
    refine zwl_set hlt ?_ (fun _ h => zst_ce h)
    rw [zce_ar hi]
    show _ = Sum.inl (zI g, n, Sum.inl (zup σ.1 i _ v i))
    rw [zup_row]
  rw [e] at hP hD
  exact kk H1 locs1 ⟨hP, hD, hS⟩
theorem zlast (M : zMC own cc nL ret g p m c s args meth) (I : zIV g σ A H0 H locs) {i n : Nat} {j : Int32} {v : Int64} {σ' : zmem} (hi : zkd i = (101, n)) (hv : zwL σ i j v = some σ') (hdg : decode cc pc = .ok (.lastore, 1))
    (kk : ∀ H locs, zIV g σ' A H0 H locs → W p l e R s m args below meth c H locs cells slots Q (F0 m (pc + 1) ls rest)) : W p l e R s m args below meth c H locs cells slots Q (F0 m pc ls (.long v :: .int j :: .ref (zA g i) :: rest)) := by
  obtain ⟨⟨hx, hb, hml, hown, hts⟩, -, -, hK, hNw⟩ := M
  obtain ⟨hin, rfl⟩ := zwL_some hv
  rw [zkd_len hi] at hin
  have hlt := zkd_lt hi (by omega)
  have he := zwl_get (g := g) (σ := σ) hlt
  rw [zce_la hi] at he
  refine va_last hx hb hK I.1 I.2.1 I.2.2 i 1 he rfl hin hdg (fun H1 locs1 hP hD hS => ?_)
  have e : (zwl g σ).set i (zA g i, .inl (zJ g, n, .inr (.inl (vp_updL (σ.2 i) j.toNatClampNeg v)))) = zwl g (zsl σ i j.toNatClampNeg v) := by
    refine zwl_set hlt ?_ (fun _ h => zsl_ce h)
    rw [zce_la hi]
    show _ = Sum.inl (zJ g, n, Sum.inr (Sum.inl (zup σ.2 i _ v i)))
    rw [zup_rowL]
  rw [e] at hP hD
  exact kk H1 locs1 ⟨hP, hD, hS⟩
theorem zalen (M : zMC own cc nL ret g p m c s args meth) (I : zIV g σ A H0 H locs) {i n : Nat} (hi : zkd i = (100, n)) (hdg : decode cc pc = .ok (.arraylength, 1))
    (kk : W p l e R s m args below meth c H locs cells slots Q (F0 m (pc + 1) ls (.int (nI (zkd i).2) :: rest))) : W p l e R s m args below meth c H locs cells slots Q (F0 m pc ls (.ref (zA g i) :: rest)) := by
  obtain ⟨⟨hx, hb, hml, hown, hts⟩, -, -, hK, hNw⟩ := M
  have he := zwl_get (g := g) (σ := σ) (zkd_lt hi (by omega))
  rw [zce_ar hi] at he
  rw [zkd_len hi] at kk
  exact va_alen hx hb hK I.1 i 0 he rfl rfl hdg kk
/-- the world behind a call, out of the callee's end -/
theorem zIV_call (hK : va_K (zD g) vwCl (zT g) s) {σ' : zmem} {t : State} {H1 : Heap} {locs1 : List Loc} (I : zIV g σ A H0 H locs) (ht : t.heap = H1) (hB : zPW g σ' t) (hS : va_S A H0 H1 locs1) : zIV g σ' A H0 H1 locs1 := by
  obtain ⟨h1, h2, h3, -⟩ := hB
  rw [ht] at h1
  exact ⟨h1, h3.weaken (fun k q hq _ => by obtain ⟨hk, rfl⟩ := zwl_key hq; exact I.2.1.2 k (zA g k, zce g σ k) (zwl_get hk)), hS⟩
theorem zPW_of (hK : va_K (zD g) vwCl (zT g) s) (hNw : zNw s) (I : zIV g σ A H0 H locs) {U : State} (hU : U.heap = H) (hW : s.WarmedH U.vm) : zPW g σ U := ⟨by rw [hU]; exact I.1, va_K.moved hW.alike hK, I.2.1.weaken (fun _ _ _ _ => trivial), va_Nw.warmF hW hNw⟩
theorem zblind {as : List Value} : FrameBlind (va_Pc as (zPW g σ)) := fun a U k mk q => by
  obtain ⟨q0, qP, qK, qD, qN⟩ := q
  exact ⟨q0, qP, va_K.moved (u := U) (U := U.calling k mk a) (Vm.Alike.refl U.vm) qK, qD, va_Nw.same (U := U.calling k mk a) rfl rfl qN⟩
/-- a call's words: instance methods, static ones -/
def zLV (own : String) (idx : Nat) (C : String) (y : MethodName) (cy : ByteArray) (nY : Nat) (rY : Option FieldType) (k : Nat) : Prop :=
  (Cond.methodLink own idx y ∈ wsL_law ∧ Cond.instanceMethod y ∈ wsL_law ∧ Cond.selects C y y ∈ wsL_law ∧ Cond.initialized C ∈ wsL_law ∧ Cond.code y cy nY rY ∈ wsL_law) ∧
  (y.cls = C ∧ y.cls ≠ "java/lang/invoke/MethodHandle" ∧ y.cls ≠ "java/lang/invoke/VarHandle" ∧ (parseMethodDescriptor y.desc).map (fun d => d.parameters.length) = some k)
def zLS (own : String) (idx : Nat) (y : MethodName) (cy : ByteArray) (nY : Nat) (rY : Option FieldType) (k : Nat) : Prop :=
  (Cond.methodLink own idx y ∈ wsL_law ∧ Cond.static y ∈ wsL_law ∧ Cond.initialized own ∈ wsL_law ∧ Cond.code y cy nY rY ∈ wsL_law) ∧
  (y.cls = own ∧ y.cls ≠ "java/lang/invoke/MethodHandle" ∧ y.cls ≠ "java/lang/invoke/VarHandle" ∧ (parseMethodDescriptor y.desc).map (fun d => d.parameters.length) = some k)
theorem zLV_in {idx : Nat} {C : String} {y : MethodName} {cy : ByteArray} {nY : Nat} {rY : Option FieldType} {k : Nat} (h : zLV own idx C y cy nY rY k) : GoodIn wsL_law (wsV own idx C y (zwm y cy nY rY)) := by
  obtain ⟨⟨h1, h2, h3, h4, h5⟩, -⟩ := h
  intro w hw
  refine zbig w ?_
  rcases List.mem_append.mp hw with hw | hw
  · simp only [List.mem_cons, List.not_mem_nil, or_false] at hw
    rcases hw with rfl | rfl | rfl | rfl <;> assumption
  · rcases List.mem_cons.mp hw with rfl | hw
    · exact h5
    · exact hw
theorem zLS_in {idx : Nat} {y : MethodName} {cy : ByteArray} {nY : Nat} {rY : Option FieldType} {k : Nat} (h : zLS own idx y cy nY rY k) : GoodIn wsL_law (wsS own idx y (zwm y cy nY rY)) := by
  obtain ⟨⟨h1, h2, h3, h4⟩, -⟩ := h
  intro w hw
  refine zbig w ?_
  rcases List.mem_append.mp hw with hw | hw
  · simp only [List.mem_cons, List.not_mem_nil, or_false] at hw
    rcases hw with rfl | rfl | rfl <;> assumption
  · rcases List.mem_cons.mp hw with rfl | hw
    · exact h4
    · exact hw
variable {y : MethodName} {cy : ByteArray} {nY idx k f n : Nat} {rY : Option FieldType} {as st : List Value} {σ' : zmem}
theorem zrunV (M : zMC own cc nL ret g p m c s args meth) (I : zIV g σ A H0 H locs) {i ci : Nat} {C : String} {T : u_T} {N : Nat} {Qc : Array Value → State → Outcome → State → Prop} (hM : zCt Qc l g y cy nY rY f n (.ref (zA g i) :: as) σ) (hi : zkd i = (ci, 0)) (hc : vwCl[ci]? = some (C, T, N)) (hci : ci < 100) (hL : zLV own idx C y cy nY rY k)
    (hR : f + 1 ≤ R.frames ∧ 8 + (nY + 11) + n ≤ R.locals) (hcs : cells ≤ R.cells ∧ slots ≤ R.slots) (hlen : as.length = k) (hst : st = as.reverse ++ .ref (zA g i) :: rest) (hcat : (rest.map fun v => v.category).sum ≤ 8) (hls : ls.size = nL) (hdg : decode cc pc = .ok (.invokevirtual idx, 3)) :
    va_Run p l e R s m args below meth c H locs cells slots 0 0 (F0 m pc ls st) rest (Qc (Value.ref (zA g i) :: as).toArray) (zAA g) := by
  obtain ⟨⟨hx, hb, hml, hown, hts⟩, -, -, hK, hNw⟩ := M
  have he := zwl_get (g := g) (σ := σ) (zkd_lt hi (by omega))
  rw [zce_ob hi hci] at he
  exact va_runV (C := C) ⟨hx, hb, hml, hown, hts⟩ hM (cwV k hts (zLV_in hL) rfl rfl rfl hL.2 hR) ⟨zblind, va_recv hK I.1 hc he, fun U hU hW => ⟨rfl, zPW_of hK hNw I hU hW⟩⟩ rfl hlen hls hst (lv_room hcat) hdg hcs
theorem zrunS (M : zMC own cc nL ret g p m c s args meth) (I : zIV g σ A H0 H locs) {Qc : Array Value → State → Outcome → State → Prop} (hM : zCt Qc l g y cy nY rY f n as σ) (hL : zLS own idx y cy nY rY k)
    (hR : f + 1 ≤ R.frames ∧ 8 + (nY + 11) + n ≤ R.locals) (hcs : cells ≤ R.cells ∧ slots ≤ R.slots) (hlen : as.length = k) (hst : st = as.reverse ++ rest) (hcat : (rest.map fun v => v.category).sum ≤ 8) (hls : ls.size = nL) (hdg : decode cc pc = .ok (.invokestatic idx, 3)) :
    va_Run p l e R s m args below meth c H locs cells slots 0 0 (F0 m pc ls st) rest (Qc as.toArray) (zAA g) := by
  obtain ⟨⟨hx, hb, hml, hown, hts⟩, -, -, hK, hNw⟩ := M
  exact va_runS ⟨hx, hb, hml, hown, hts⟩ hM (cwS k hts (zLS_in hL) rfl rfl rfl hL.2 hR) ⟨zblind, fun U hU hW => ⟨rfl, zPW_of hK hNw I hU hW⟩⟩ rfl hlen hls hst (lv_room hcat) hdg hcs
variable {a : Array Value}
theorem zcallI (M : zMC own cc nL ret g p m c s args meth) (I : zIV g σ A H0 H locs) {r : Int32} (hr : va_Run p l e R s m args below meth c H locs cells slots 0 0 (F0 m pc ls st) rest (zQI g r σ' a) (zAA g))
    (kk : ∀ H locs, zIV g σ' A H0 H locs → W p l e R s m args below meth c H locs cells slots Q (F0 m (pc + 3) ls (.int r :: rest))) : W p l e R s m args below meth c H locs cells slots Q (F0 m pc ls st) :=
  va_calli hr I.2.2 (fun q _ h => I.app q h) (fun q h => I.app q h) (fun r' u t H1 locs1 ht hvm hw hB hz hk hS => by subst hw; exact kk H1 locs1 (zIV_call M.2.2.2.1 I ht hB hS))
theorem zcallL (M : zMC own cc nL ret g p m c s args meth) (I : zIV g σ A H0 H locs) {r : Int64} (hr : va_Run p l e R s m args below meth c H locs cells slots 0 0 (F0 m pc ls st) rest (zQL g r σ' a) (zAA g))
    (kk : ∀ H locs, zIV g σ' A H0 H locs → W p l e R s m args below meth c H locs cells slots Q (F0 m (pc + 3) ls (.long r :: rest))) : W p l e R s m args below meth c H locs cells slots Q (F0 m pc ls st) :=
  va_calll hr I.2.2 (fun q _ h => I.app q h) (fun q h => I.app q h) (fun r' u t H1 locs1 ht hvm hw hB hz hk hS => by subst hw; exact kk H1 locs1 (zIV_call M.2.2.2.1 I ht hB hS))
theorem zcallD (M : zMC own cc nL ret g p m c s args meth) (I : zIV g σ A H0 H locs) {r : UInt64} (hr : va_Run p l e R s m args below meth c H locs cells slots 0 0 (F0 m pc ls st) rest (zQD g r σ' a) (zAA g))
    (kk : ∀ H locs, zIV g σ' A H0 H locs → W p l e R s m args below meth c H locs cells slots Q (F0 m (pc + 3) ls (.double r :: rest))) : W p l e R s m args below meth c H locs cells slots Q (F0 m pc ls st) :=
  va_calld hr I.2.2 (fun q _ h => I.app q h) (fun q h => I.app q h) (fun r' u t H1 locs1 ht hvm hw hB hz hk hS => by subst hw; exact kk H1 locs1 (zIV_call M.2.2.2.1 I ht hB hS))
theorem zcallU (M : zMC own cc nL ret g p m c s args meth) (I : zIV g σ A H0 H locs) (hr : va_Run p l e R s m args below meth c H locs cells slots 0 0 (F0 m pc ls st) rest (zQV g σ' a) (zAA g))
    (kk : ∀ H locs, zIV g σ' A H0 H locs → W p l e R s m args below meth c H locs cells slots Q (F0 m (pc + 3) ls rest)) : W p l e R s m args below meth c H locs cells slots Q (F0 m pc ls st) :=
  va_callv hr I.2.2 (fun q _ h => I.app q h) (fun q h => I.app q h) (fun u t H1 locs1 ht hvm hw hB hz hk hS => kk H1 locs1 (zIV_call M.2.2.2.1 I ht hB hS))
theorem zcallR (M : zMC own cc nL ret g p m c s args meth) (I : zIV g σ A H0 H locs) {r : Nat} (hr : va_Run p l e R s m args below meth c H locs cells slots 0 0 (F0 m pc ls st) rest (zQR g r σ' a) (zAA g))
    (kk : ∀ H locs, zIV g σ' A H0 H locs → W p l e R s m args below meth c H locs cells slots Q (F0 m (pc + 3) ls (.ref (zA g r) :: rest))) : W p l e R s m args below meth c H locs cells slots Q (F0 m pc ls st) :=
  va_callr hr I.2.2 (fun q _ h => I.app q h) (fun q h => I.app q h) (fun u ra t H1 locs1 ht hvm hw hB hz hk hS => by obtain ⟨rfl, hB⟩ := hB; exact kk H1 locs1 (zIV_call M.2.2.2.1 I ht hB hS))
/-- the ends -/
theorem zretI (M : zMC own cc nL (some .int) g p m c s args meth) (I : zIV g σ (zAA g) s.heap H locs) {v : Int32} (hdg : decode cc pc = .ok (.ireturn, 1)) : W p l e R s m args below meth c H locs 0 0 (MQ below (zQI g v σ) args s 0 0 (zAA g)) (F0 m pc ls [.int v]) := by
  obtain ⟨⟨hx, hb, hml, hown, hts⟩, hr, hlocks, hK, hNw⟩ := M
  exact W.iret hx hb hr (fun t ht hW => ⟨⟨v, (), rfl, rfl, zPW_of hK hNw I ht hW⟩, I.2.2.F ht⟩) I.2.2.2.2 hdg hlocks
theorem zretZ (M : zMC own cc nL (some .boolean) g p m c s args meth) (I : zIV g σ (zAA g) s.heap H locs) {v : Int32} (hv : v = 0 ∨ v = 1) (hdg : decode cc pc = .ok (.ireturn, 1)) : W p l e R s m args below meth c H locs 0 0 (MQ below (zQI g v σ) args s 0 0 (zAA g)) (F0 m pc ls [.int v]) := by
  obtain ⟨⟨hx, hb, hml, hown, hts⟩, hr, hlocks, hK, hNw⟩ := M
  exact W.zret hx hb hr (by rcases hv with rfl | rfl <;> decide) (fun t ht hW => ⟨⟨v, (), rfl, rfl, zPW_of hK hNw I ht hW⟩, I.2.2.F ht⟩) I.2.2.2.2 hdg hlocks
theorem zretL (M : zMC own cc nL (some .long) g p m c s args meth) (I : zIV g σ (zAA g) s.heap H locs) {v : Int64} (hdg : decode cc pc = .ok (.lreturn, 1)) : W p l e R s m args below meth c H locs 0 0 (MQ below (zQL g v σ) args s 0 0 (zAA g)) (F0 m pc ls [.long v]) := by
  obtain ⟨⟨hx, hb, hml, hown, hts⟩, hr, hlocks, hK, hNw⟩ := M
  exact W.lret hx hb hr (fun t ht hW => ⟨⟨v, (), rfl, rfl, zPW_of hK hNw I ht hW⟩, I.2.2.F ht⟩) I.2.2.2.2 hdg hlocks
theorem zretD (M : zMC own cc nL (some .double) g p m c s args meth) (I : zIV g σ (zAA g) s.heap H locs) {v : UInt64} (hdg : decode cc pc = .ok (.dreturn, 1)) : W p l e R s m args below meth c H locs 0 0 (MQ below (zQD g v σ) args s 0 0 (zAA g)) (F0 m pc ls [.double v]) := by
  obtain ⟨⟨hx, hb, hml, hown, hts⟩, hr, hlocks, hK, hNw⟩ := M
  exact W.dret hx hb hr (fun t ht hW => ⟨⟨v, (), rfl, rfl, zPW_of hK hNw I ht hW⟩, I.2.2.F ht⟩) I.2.2.2.2 hdg hlocks
theorem zretV (M : zMC own cc nL none g p m c s args meth) (I : zIV g σ (zAA g) s.heap H locs) (hdg : decode cc pc = .ok (.return_, 1)) : W p l e R s m args below meth c H locs 0 0 (MQ below (zQV g σ) args s 0 0 (zAA g)) (F0 m pc ls []) := by
  obtain ⟨⟨hx, hb, hml, hown, hts⟩, hr, hlocks, hK, hNw⟩ := M
  exact W.vret hx hb hr (fun t ht hW => ⟨⟨(), rfl, trivial, zPW_of hK hNw I ht hW⟩, I.2.2.F ht⟩) I.2.2.2.2 hdg hlocks
theorem zretR {C : String} (M : zMC own cc nL (some (.object C)) g p m c s args meth) (I : zIV g σ (zAA g) s.heap H locs) {r : Nat} (hdg : decode cc pc = .ok (.areturn, 1)) : W p l e R s m args below meth c H locs 0 0 (MQ below (zQR g r σ) args s 0 0 (zAA g)) (F0 m pc ls [.ref (zA g r)]) := by
  obtain ⟨⟨hx, hb, hml, hown, hts⟩, hr, hlocks, hK, hNw⟩ := M
  exact W.aret hx hb hr (Or.inl ⟨_, rfl⟩) (Or.inr ⟨_, rfl⟩) (fun t ht hW => ⟨⟨(), zA g r, rfl, trivial, rfl, zPW_of hK hNw I ht hW⟩, I.2.2.F ht⟩) I.2.2.2.2 hdg hlocks
end ZR
/-- a contract out of its walk -/
theorem zopen {Qc : Array Value → State → Outcome → State → Prop} {l : Launch} {g : zgeo} {y : MethodName} {cc : ByteArray} {nL : Nat} {ret : Option FieldType} {f n : Nat} {as : List Value} {σ : zmem} (hy : plainName y.cls = true) (hlen : (lg_sl as).length ≤ nL)
    (body : ∀ (p : Program) (e : Env) (s : State) (m : MethodId) (below : List Frame) (meth : Method) (c : Code), zMC y.cls cc nL ret g p m c s as.toArray meth → ∀ ls : Array Slot, lv_has ls nL (lv_args 0 as) → zIV g σ (zAA g) s.heap s.heap [] →
      W p l e (zrm f n) s m as.toArray below meth c s.heap [] 0 0 (MQ below Qc as.toArray s 0 0 (zAA g)) (F0 m 0 ls [])) : zCt Qc l g y cc nL ret f n as σ := by
  refine Met.ofW (cc := cc) (maxL := nL) (ret := ret) hy rfl ?_
  intro p e s m args below meth c s₁ B hml hv
  obtain ⟨rfl, hP, hK, hD, hNw⟩ := hv
  have hts := atoms_spec (ws := zwm y cc nL ret) B.pre
  have hts : ∀ w ∈ wsL_law, w.before _ s = true := fun w h => hts w (List.mem_cons_of_mem _ h)
  have hown : s.vm.findClass y.cls = some m.cls := findClass_of_methodNamed B.named
  have hl := lv_entry as (n := nL) hlen
  rw [lg_entry_eq]
  exact body p e s m below meth c ⟨⟨B.exec, B.bytes, hml, hown, hts⟩, B.returns, B.notSynchronized, hK, hNw⟩ _ hl ⟨hP, hD.weaken (fun k q hq _ => by obtain ⟨hk, rfl⟩ := zwl_key hq; exact ⟨k, hk, rfl⟩), va_S.rf⟩
theorem zfl_X0_14 : zFL RX0 14 0 0 2 := ⟨_, _, _, _, zK0, by decide, by decide, (zin (i := 199) (by decide +kernel) rfl)⟩
theorem zfl_X0_20 : zFL RX0 20 0 1 4 := ⟨_, _, _, _, zK0, by decide, by decide, (zin (i := 202) (by decide +kernel) rfl)⟩
theorem zfl_X0_23 : zFL RX0 23 0 2 0 := ⟨_, _, _, _, zK0, by decide, by decide, (zin (i := 205) (by decide +kernel) rfl)⟩
theorem zfw_X0_23 : zFW RX0 23 0 2 0 .int := ⟨_, _, _, _, zK0, by decide, by decide, (zin (i := 205) (by decide +kernel) rfl), rfl, by decide⟩
theorem zfl_X0_27 : zFL RX0 27 0 3 0 := ⟨_, _, _, _, zK0, by decide, by decide, (zin (i := 209) (by decide +kernel) rfl)⟩
theorem zfw_X0_27 : zFW RX0 27 0 3 0 .int := ⟨_, _, _, _, zK0, by decide, by decide, (zin (i := 209) (by decide +kernel) rfl), rfl, by decide⟩
theorem zfl_X0_30 : zFL RX0 30 0 4 6 := ⟨_, _, _, _, zK0, by decide, by decide, (zin (i := 211) (by decide +kernel) rfl)⟩
theorem zfl_X0_33 : zFL RX0 33 0 5 8 := ⟨_, _, _, _, zK0, by decide, by decide, (zin (i := 212) (by decide +kernel) rfl)⟩
theorem zfl_X0_36 : zFL RX0 36 7 2 6 := ⟨_, _, _, _, zK7, by decide, by decide, (zin (i := 144) (by decide +kernel) rfl)⟩
theorem zfl_X0_45 : zFL RX0 45 7 0 2 := ⟨_, _, _, _, zK7, by decide, by decide, (zin (i := 132) (by decide +kernel) rfl)⟩
theorem zfl_X0_55 : zFL RX0 55 7 1 4 := ⟨_, _, _, _, zK7, by decide, by decide, (zin (i := 138) (by decide +kernel) rfl)⟩
theorem zfl_X1_9 : zFL RX1 9 1 0 2 := ⟨_, _, _, _, zK1, by decide, by decide, (zin (i := 123) (by decide +kernel) rfl)⟩
theorem zfl_X10_10 : zFL RX10 10 10 0 2 := ⟨_, _, _, _, zK10, by decide, by decide, (zin (i := 341) (by decide +kernel) rfl)⟩
theorem zfl_X10_16 : zFL RX10 16 10 1 9 := ⟨_, _, _, _, zK10, by decide, by decide, (zin (i := 342) (by decide +kernel) rfl)⟩
theorem zfl_X10_19 : zFL RX10 19 10 2 16 := ⟨_, _, _, _, zK10, by decide, by decide, (zin (i := 343) (by decide +kernel) rfl)⟩
theorem zfl_X10_22 : zFL RX10 22 10 3 23 := ⟨_, _, _, _, zK10, by decide, by decide, (zin (i := 344) (by decide +kernel) rfl)⟩
theorem zfl_X10_25 : zFL RX10 25 10 4 0 := ⟨_, _, _, _, zK10, by decide, by decide, (zin (i := 345) (by decide +kernel) rfl)⟩
theorem zfw_X10_25 : zFW RX10 25 10 4 0 .boolean := ⟨_, _, _, _, zK10, by decide, by decide, (zin (i := 345) (by decide +kernel) rfl), rfl, by decide⟩
theorem zfl_X10_29 : zFL RX10 29 10 5 0 := ⟨_, _, _, _, zK10, by decide, by decide, (zin (i := 346) (by decide +kernel) rfl)⟩
theorem zfw_X10_29 : zFW RX10 29 10 5 0 .boolean := ⟨_, _, _, _, zK10, by decide, by decide, (zin (i := 346) (by decide +kernel) rfl), rfl, by decide⟩
theorem zfl_X10_35 : zFL RX10 35 10 6 30 := ⟨_, _, _, _, zK10, by decide, by decide, (zin (i := 347) (by decide +kernel) rfl)⟩
theorem zfl_X10_42 : zFL RX10 42 10 7 33 := ⟨_, _, _, _, zK10, by decide, by decide, (zin (i := 348) (by decide +kernel) rfl)⟩
theorem zfl_X10_49 : zFL RX10 49 10 8 36 := ⟨_, _, _, _, zK10, by decide, by decide, (zin (i := 349) (by decide +kernel) rfl)⟩
theorem zfl_X10_53 : zFL RX10 53 10 9 64 := ⟨_, _, _, _, zK10, by decide, by decide, (zin (i := 350) (by decide +kernel) rfl)⟩
theorem zfl_X10_59 : zFL RX10 59 10 10 92 := ⟨_, _, _, _, zK10, by decide, by decide, (zin (i := 351) (by decide +kernel) rfl)⟩
theorem zfl_X10_63 : zFL RX10 63 10 11 0 := ⟨_, _, _, _, zK10, by decide, by decide, (zin (i := 352) (by decide +kernel) rfl)⟩
theorem zfw_X10_63 : zFW RX10 63 10 11 0 .boolean := ⟨_, _, _, _, zK10, by decide, by decide, (zin (i := 352) (by decide +kernel) rfl), rfl, by decide⟩
theorem zfl_X10_141 : zFL RX10 141 5 0 2 := ⟨_, _, _, _, zK5, by decide, by decide, (zin (i := 287) (by decide +kernel) rfl)⟩
theorem zfl_X10_145 : zFL RX10 145 0 2 0 := ⟨_, _, _, _, zK0, by decide, by decide, (zin (i := 208) (by decide +kernel) rfl)⟩
theorem zfl_X10_161 : zFL RX10 161 7 2 6 := ⟨_, _, _, _, zK7, by decide, by decide, (zin (i := 147) (by decide +kernel) rfl)⟩
theorem zfl_X10_227 : zFL RX10 227 9 0 2 := ⟨_, _, _, _, zK9, by decide, by decide, (zin (i := 326) (by decide +kernel) rfl)⟩
theorem zfl_X10_283 : zFL RX10 283 7 0 2 := ⟨_, _, _, _, zK7, by decide, by decide, (zin (i := 136) (by decide +kernel) rfl)⟩
theorem zfl_X10_307 : zFL RX10 307 7 1 4 := ⟨_, _, _, _, zK7, by decide, by decide, (zin (i := 142) (by decide +kernel) rfl)⟩
theorem zfl_X10_310 : zFL RX10 310 5 1 11 := ⟨_, _, _, _, zK5, by decide, by decide, (zin (i := 289) (by decide +kernel) rfl)⟩
theorem zfl_X10_314 : zFL RX10 314 2 4 0 := ⟨_, _, _, _, zK2, by decide, by decide, (zin (i := 243) (by decide +kernel) rfl)⟩
theorem zfl_X10_317 : zFL RX10 317 5 2 0 := ⟨_, _, _, _, zK5, by decide, by decide, (zin (i := 291) (by decide +kernel) rfl)⟩
theorem zfl_X10_320 : zFL RX10 320 5 3 0 := ⟨_, _, _, _, zK5, by decide, by decide, (zin (i := 293) (by decide +kernel) rfl)⟩
theorem zfl_X10_326 : zFL RX10 326 9 1 0 := ⟨_, _, _, _, zK9, by decide, by decide, (zin (i := 328) (by decide +kernel) rfl)⟩
theorem zfl_X10_329 : zFL RX10 329 9 2 0 := ⟨_, _, _, _, zK9, by decide, by decide, (zin (i := 330) (by decide +kernel) rfl)⟩
theorem zfl_X11_7 : zFL RX11 7 11 0 2 := ⟨_, _, _, _, zK11, by decide, by decide, (zin (i := 1063) (by decide +kernel) rfl)⟩
theorem zfl_X11_13 : zFL RX11 13 11 2 3 := ⟨_, _, _, _, zK11, by decide, by decide, (zin (i := 1065) (by decide +kernel) rfl)⟩
theorem zfl_X11_16 : zFL RX11 16 11 3 4 := ⟨_, _, _, _, zK11, by decide, by decide, (zin (i := 1066) (by decide +kernel) rfl)⟩
theorem zfl_X11_19 : zFL RX11 19 11 4 5 := ⟨_, _, _, _, zK11, by decide, by decide, (zin (i := 1067) (by decide +kernel) rfl)⟩
theorem zfl_X11_22 : zFL RX11 22 11 6 6 := ⟨_, _, _, _, zK11, by decide, by decide, (zin (i := 1069) (by decide +kernel) rfl)⟩
theorem zfl_X11_25 : zFL RX11 25 11 8 7 := ⟨_, _, _, _, zK11, by decide, by decide, (zin (i := 1071) (by decide +kernel) rfl)⟩
theorem zfl_X11_28 : zFL RX11 28 11 9 8 := ⟨_, _, _, _, zK11, by decide, by decide, (zin (i := 1072) (by decide +kernel) rfl)⟩
theorem zfl_X11_31 : zFL RX11 31 11 11 9 := ⟨_, _, _, _, zK11, by decide, by decide, (zin (i := 1074) (by decide +kernel) rfl)⟩
theorem zfl_X11_34 : zFL RX11 34 11 12 10 := ⟨_, _, _, _, zK11, by decide, by decide, (zin (i := 1075) (by decide +kernel) rfl)⟩
theorem zfl_X11_37 : zFL RX11 37 11 14 11 := ⟨_, _, _, _, zK11, by decide, by decide, (zin (i := 1077) (by decide +kernel) rfl)⟩
theorem zfl_X11_40 : zFL RX11 40 11 15 12 := ⟨_, _, _, _, zK11, by decide, by decide, (zin (i := 1078) (by decide +kernel) rfl)⟩
theorem zfl_X11_43 : zFL RX11 43 11 16 13 := ⟨_, _, _, _, zK11, by decide, by decide, (zin (i := 1079) (by decide +kernel) rfl)⟩
theorem zfl_X11_46 : zFL RX11 46 11 17 14 := ⟨_, _, _, _, zK11, by decide, by decide, (zin (i := 1080) (by decide +kernel) rfl)⟩
theorem zfl_X11_49 : zFL RX11 49 11 19 15 := ⟨_, _, _, _, zK11, by decide, by decide, (zin (i := 1082) (by decide +kernel) rfl)⟩
theorem zfl_X11_52 : zFL RX11 52 11 20 16 := ⟨_, _, _, _, zK11, by decide, by decide, (zin (i := 1083) (by decide +kernel) rfl)⟩
theorem zfl_X11_55 : zFL RX11 55 11 21 17 := ⟨_, _, _, _, zK11, by decide, by decide, (zin (i := 1084) (by decide +kernel) rfl)⟩
theorem zfl_X11_58 : zFL RX11 58 11 23 18 := ⟨_, _, _, _, zK11, by decide, by decide, (zin (i := 1086) (by decide +kernel) rfl)⟩
theorem zfl_X11_61 : zFL RX11 61 11 24 19 := ⟨_, _, _, _, zK11, by decide, by decide, (zin (i := 1087) (by decide +kernel) rfl)⟩
theorem zfl_X11_64 : zFL RX11 64 11 25 20 := ⟨_, _, _, _, zK11, by decide, by decide, (zin (i := 1088) (by decide +kernel) rfl)⟩
theorem zfl_X11_67 : zFL RX11 67 11 26 21 := ⟨_, _, _, _, zK11, by decide, by decide, (zin (i := 1089) (by decide +kernel) rfl)⟩
theorem zfl_X11_70 : zFL RX11 70 11 7 0 := ⟨_, _, _, _, zK11, by decide, by decide, (zin (i := 1070) (by decide +kernel) rfl)⟩
theorem zfw_X11_70 : zFW RX11 70 11 7 0 .int := ⟨_, _, _, _, zK11, by decide, by decide, (zin (i := 1070) (by decide +kernel) rfl), rfl, by decide⟩
theorem zfl_X11_74 : zFL RX11 74 11 1 0 := ⟨_, _, _, _, zK11, by decide, by decide, (zin (i := 1064) (by decide +kernel) rfl)⟩
theorem zfw_X11_74 : zFW RX11 74 11 1 0 .int := ⟨_, _, _, _, zK11, by decide, by decide, (zin (i := 1064) (by decide +kernel) rfl), rfl, by decide⟩
theorem zfl_X11_97 : zFL RX11 97 11 10 0 := ⟨_, _, _, _, zK11, by decide, by decide, (zin (i := 1073) (by decide +kernel) rfl)⟩
theorem zfw_X11_97 : zFW RX11 97 11 10 0 .int := ⟨_, _, _, _, zK11, by decide, by decide, (zin (i := 1073) (by decide +kernel) rfl), rfl, by decide⟩
theorem zfl_X11_100 : zFL RX11 100 11 13 0 := ⟨_, _, _, _, zK11, by decide, by decide, (zin (i := 1076) (by decide +kernel) rfl)⟩
theorem zfw_X11_100 : zFW RX11 100 11 13 0 .int := ⟨_, _, _, _, zK11, by decide, by decide, (zin (i := 1076) (by decide +kernel) rfl), rfl, by decide⟩
theorem zfl_X11_114 : zFL RX11 114 11 18 0 := ⟨_, _, _, _, zK11, by decide, by decide, (zin (i := 1081) (by decide +kernel) rfl)⟩
theorem zfw_X11_114 : zFW RX11 114 11 18 0 .int := ⟨_, _, _, _, zK11, by decide, by decide, (zin (i := 1081) (by decide +kernel) rfl), rfl, by decide⟩
theorem zfl_X11_122 : zFL RX11 122 11 22 0 := ⟨_, _, _, _, zK11, by decide, by decide, (zin (i := 1085) (by decide +kernel) rfl)⟩
theorem zfw_X11_122 : zFW RX11 122 11 22 0 .int := ⟨_, _, _, _, zK11, by decide, by decide, (zin (i := 1085) (by decide +kernel) rfl), rfl, by decide⟩
theorem zfl_X11_165 : zFL RX11 165 11 5 0 := ⟨_, _, _, _, zK11, by decide, by decide, (zin (i := 1068) (by decide +kernel) rfl)⟩
theorem zfw_X11_165 : zFW RX11 165 11 5 0 .int := ⟨_, _, _, _, zK11, by decide, by decide, (zin (i := 1068) (by decide +kernel) rfl), rfl, by decide⟩
theorem zfl_X11_168 : zFL RX11 168 11 28 0 := ⟨_, _, _, _, zK11, by decide, by decide, (zin (i := 1091) (by decide +kernel) rfl)⟩
theorem zfw_X11_168 : zFW RX11 168 11 28 0 .boolean := ⟨_, _, _, _, zK11, by decide, by decide, (zin (i := 1091) (by decide +kernel) rfl), rfl, by decide⟩
theorem zfl_X11_172 : zFL RX11 172 11 27 0 := ⟨_, _, _, _, zK11, by decide, by decide, (zin (i := 1090) (by decide +kernel) rfl)⟩
theorem zfw_X11_172 : zFW RX11 172 11 27 0 .int := ⟨_, _, _, _, zK11, by decide, by decide, (zin (i := 1090) (by decide +kernel) rfl), rfl, by decide⟩
theorem zfl_X11_245 : zFL RX11 245 11 29 1 := ⟨_, _, _, _, zK11, by decide, by decide, (zin (i := 1092) (by decide +kernel) rfl)⟩
theorem zfw_X11_245 : zFW RX11 245 11 29 1 .long := ⟨_, _, _, _, zK11, by decide, by decide, (zin (i := 1092) (by decide +kernel) rfl), rfl, by decide⟩
theorem zfl_X2_14 : zFL RX2 14 2 0 2 := ⟨_, _, _, _, zK2, by decide, by decide, (zin (i := 234) (by decide +kernel) rfl)⟩
theorem zfl_X2_20 : zFL RX2 20 2 1 4 := ⟨_, _, _, _, zK2, by decide, by decide, (zin (i := 236) (by decide +kernel) rfl)⟩
theorem zfl_X2_23 : zFL RX2 23 2 2 6 := ⟨_, _, _, _, zK2, by decide, by decide, (zin (i := 238) (by decide +kernel) rfl)⟩
theorem zfl_X2_26 : zFL RX2 26 2 3 8 := ⟨_, _, _, _, zK2, by decide, by decide, (zin (i := 240) (by decide +kernel) rfl)⟩
theorem zfl_X2_29 : zFL RX2 29 2 4 0 := ⟨_, _, _, _, zK2, by decide, by decide, (zin (i := 241) (by decide +kernel) rfl)⟩
theorem zfw_X2_29 : zFW RX2 29 2 4 0 .int := ⟨_, _, _, _, zK2, by decide, by decide, (zin (i := 241) (by decide +kernel) rfl), rfl, by decide⟩
theorem zfl_X2_43 : zFL RX2 43 0 2 0 := ⟨_, _, _, _, zK0, by decide, by decide, (zin (i := 207) (by decide +kernel) rfl)⟩
theorem zfl_X3_11 : zFL RX3 11 3 0 2 := ⟨_, _, _, _, zK3, by decide, by decide, (zin (i := 261) (by decide +kernel) rfl)⟩
theorem zfl_X3_15 : zFL RX3 15 3 1 3 := ⟨_, _, _, _, zK3, by decide, by decide, (zin (i := 262) (by decide +kernel) rfl)⟩
theorem zfl_X3_18 : zFL RX3 18 3 2 0 := ⟨_, _, _, _, zK3, by decide, by decide, (zin (i := 263) (by decide +kernel) rfl)⟩
theorem zfw_X3_18 : zFW RX3 18 3 2 0 .int := ⟨_, _, _, _, zK3, by decide, by decide, (zin (i := 263) (by decide +kernel) rfl), rfl, by decide⟩
theorem zfl_X3_22 : zFL RX3 22 3 3 0 := ⟨_, _, _, _, zK3, by decide, by decide, (zin (i := 265) (by decide +kernel) rfl)⟩
theorem zfw_X3_22 : zFW RX3 22 3 3 0 .int := ⟨_, _, _, _, zK3, by decide, by decide, (zin (i := 265) (by decide +kernel) rfl), rfl, by decide⟩
theorem zfl_X3_25 : zFL RX3 25 3 4 0 := ⟨_, _, _, _, zK3, by decide, by decide, (zin (i := 267) (by decide +kernel) rfl)⟩
theorem zfw_X3_25 : zFW RX3 25 3 4 0 .int := ⟨_, _, _, _, zK3, by decide, by decide, (zin (i := 267) (by decide +kernel) rfl), rfl, by decide⟩
theorem zfl_X3_28 : zFL RX3 28 3 5 0 := ⟨_, _, _, _, zK3, by decide, by decide, (zin (i := 269) (by decide +kernel) rfl)⟩
theorem zfw_X3_28 : zFW RX3 28 3 5 0 .int := ⟨_, _, _, _, zK3, by decide, by decide, (zin (i := 269) (by decide +kernel) rfl), rfl, by decide⟩
theorem zfl_X3_50 : zFL RX3 50 7 2 6 := ⟨_, _, _, _, zK7, by decide, by decide, (zin (i := 146) (by decide +kernel) rfl)⟩
theorem zfl_X3_61 : zFL RX3 61 7 0 2 := ⟨_, _, _, _, zK7, by decide, by decide, (zin (i := 134) (by decide +kernel) rfl)⟩
theorem zfl_X3_70 : zFL RX3 70 7 1 4 := ⟨_, _, _, _, zK7, by decide, by decide, (zin (i := 140) (by decide +kernel) rfl)⟩
theorem zfl_X4_16 : zFL RX4 16 4 0 2 := ⟨_, _, _, _, zK4, by decide, by decide, (zin (i := 163) (by decide +kernel) rfl)⟩
theorem zfl_X4_22 : zFL RX4 22 4 1 0 := ⟨_, _, _, _, zK4, by decide, by decide, (zin (i := 164) (by decide +kernel) rfl)⟩
theorem zfw_X4_22 : zFW RX4 22 4 1 0 .int := ⟨_, _, _, _, zK4, by decide, by decide, (zin (i := 164) (by decide +kernel) rfl), rfl, by decide⟩
theorem zfl_X5_12 : zFL RX5 12 5 0 2 := ⟨_, _, _, _, zK5, by decide, by decide, (zin (i := 286) (by decide +kernel) rfl)⟩
theorem zfl_X5_21 : zFL RX5 21 5 1 11 := ⟨_, _, _, _, zK5, by decide, by decide, (zin (i := 288) (by decide +kernel) rfl)⟩
theorem zfl_X5_25 : zFL RX5 25 5 2 0 := ⟨_, _, _, _, zK5, by decide, by decide, (zin (i := 290) (by decide +kernel) rfl)⟩
theorem zfw_X5_25 : zFW RX5 25 5 2 0 .int := ⟨_, _, _, _, zK5, by decide, by decide, (zin (i := 290) (by decide +kernel) rfl), rfl, by decide⟩
theorem zfl_X5_29 : zFL RX5 29 5 3 0 := ⟨_, _, _, _, zK5, by decide, by decide, (zin (i := 292) (by decide +kernel) rfl)⟩
theorem zfw_X5_29 : zFW RX5 29 5 3 0 .int := ⟨_, _, _, _, zK5, by decide, by decide, (zin (i := 292) (by decide +kernel) rfl), rfl, by decide⟩
theorem zfl_X5_35 : zFL RX5 35 5 4 20 := ⟨_, _, _, _, zK5, by decide, by decide, (zin (i := 294) (by decide +kernel) rfl)⟩
theorem zfl_X5_44 : zFL RX5 44 5 5 23 := ⟨_, _, _, _, zK5, by decide, by decide, (zin (i := 295) (by decide +kernel) rfl)⟩
theorem zfl_X5_48 : zFL RX5 48 5 6 25 := ⟨_, _, _, _, zK5, by decide, by decide, (zin (i := 296) (by decide +kernel) rfl)⟩
theorem zfl_X5_51 : zFL RX5 51 5 7 27 := ⟨_, _, _, _, zK5, by decide, by decide, (zin (i := 297) (by decide +kernel) rfl)⟩
theorem zfl_X5_64 : zFL RX5 64 2 4 0 := ⟨_, _, _, _, zK2, by decide, by decide, (zin (i := 242) (by decide +kernel) rfl)⟩
theorem zfl_X5_67 : zFL RX5 67 0 0 2 := ⟨_, _, _, _, zK0, by decide, by decide, (zin (i := 200) (by decide +kernel) rfl)⟩
theorem zfl_X5_70 : zFL RX5 70 2 0 2 := ⟨_, _, _, _, zK2, by decide, by decide, (zin (i := 235) (by decide +kernel) rfl)⟩
theorem zfl_X5_77 : zFL RX5 77 0 1 4 := ⟨_, _, _, _, zK0, by decide, by decide, (zin (i := 204) (by decide +kernel) rfl)⟩
theorem zfl_X5_88 : zFL RX5 88 0 3 0 := ⟨_, _, _, _, zK0, by decide, by decide, (zin (i := 210) (by decide +kernel) rfl)⟩
theorem zfl_X5_91 : zFL RX5 91 7 0 2 := ⟨_, _, _, _, zK7, by decide, by decide, (zin (i := 133) (by decide +kernel) rfl)⟩
theorem zfl_X5_103 : zFL RX5 103 7 1 4 := ⟨_, _, _, _, zK7, by decide, by decide, (zin (i := 139) (by decide +kernel) rfl)⟩
theorem zfl_X5_116 : zFL RX5 116 7 2 6 := ⟨_, _, _, _, zK7, by decide, by decide, (zin (i := 145) (by decide +kernel) rfl)⟩
theorem zfl_X5_135 : zFL RX5 135 3 3 0 := ⟨_, _, _, _, zK3, by decide, by decide, (zin (i := 266) (by decide +kernel) rfl)⟩
theorem zfl_X5_138 : zFL RX5 138 3 5 0 := ⟨_, _, _, _, zK3, by decide, by decide, (zin (i := 270) (by decide +kernel) rfl)⟩
theorem zfl_X5_144 : zFL RX5 144 3 2 0 := ⟨_, _, _, _, zK3, by decide, by decide, (zin (i := 264) (by decide +kernel) rfl)⟩
theorem zfl_X5_147 : zFL RX5 147 3 4 0 := ⟨_, _, _, _, zK3, by decide, by decide, (zin (i := 268) (by decide +kernel) rfl)⟩
theorem zfl_X5_150 : zFL RX5 150 2 1 4 := ⟨_, _, _, _, zK2, by decide, by decide, (zin (i := 237) (by decide +kernel) rfl)⟩
theorem zfl_X5_153 : zFL RX5 153 2 2 6 := ⟨_, _, _, _, zK2, by decide, by decide, (zin (i := 239) (by decide +kernel) rfl)⟩
theorem zfl_X6_9 : zFL RX6 9 6 0 2 := ⟨_, _, _, _, zK6, by decide, by decide, (zin (i := 108) (by decide +kernel) rfl)⟩
theorem zfl_X6_15 : zFL RX6 15 6 1 0 := ⟨_, _, _, _, zK6, by decide, by decide, (zin (i := 109) (by decide +kernel) rfl)⟩
theorem zfw_X6_15 : zFW RX6 15 6 1 0 .int := ⟨_, _, _, _, zK6, by decide, by decide, (zin (i := 109) (by decide +kernel) rfl), rfl, by decide⟩
theorem zfl_X7_12 : zFL RX7 12 7 0 2 := ⟨_, _, _, _, zK7, by decide, by decide, (zin (i := 131) (by decide +kernel) rfl)⟩
theorem zfl_X7_18 : zFL RX7 18 7 1 4 := ⟨_, _, _, _, zK7, by decide, by decide, (zin (i := 137) (by decide +kernel) rfl)⟩
theorem zfl_X7_26 : zFL RX7 26 7 2 6 := ⟨_, _, _, _, zK7, by decide, by decide, (zin (i := 143) (by decide +kernel) rfl)⟩
theorem zfl_X8_14 : zFL RX8 14 8 0 2 := ⟨_, _, _, _, zK8, by decide, by decide, (zin (i := 178) (by decide +kernel) rfl)⟩
theorem zfl_X8_20 : zFL RX8 20 8 1 0 := ⟨_, _, _, _, zK8, by decide, by decide, (zin (i := 179) (by decide +kernel) rfl)⟩
theorem zfw_X8_20 : zFW RX8 20 8 1 0 .int := ⟨_, _, _, _, zK8, by decide, by decide, (zin (i := 179) (by decide +kernel) rfl), rfl, by decide⟩
theorem zfl_X8_43 : zFL RX8 43 7 0 2 := ⟨_, _, _, _, zK7, by decide, by decide, (zin (i := 135) (by decide +kernel) rfl)⟩
theorem zfl_X8_54 : zFL RX8 54 7 1 4 := ⟨_, _, _, _, zK7, by decide, by decide, (zin (i := 141) (by decide +kernel) rfl)⟩
theorem zfl_X9_12 : zFL RX9 12 9 0 2 := ⟨_, _, _, _, zK9, by decide, by decide, (zin (i := 325) (by decide +kernel) rfl)⟩
theorem zfl_X9_18 : zFL RX9 18 9 1 0 := ⟨_, _, _, _, zK9, by decide, by decide, (zin (i := 327) (by decide +kernel) rfl)⟩
theorem zfw_X9_18 : zFW RX9 18 9 1 0 .int := ⟨_, _, _, _, zK9, by decide, by decide, (zin (i := 327) (by decide +kernel) rfl), rfl, by decide⟩
theorem zfl_X9_22 : zFL RX9 22 9 2 0 := ⟨_, _, _, _, zK9, by decide, by decide, (zin (i := 329) (by decide +kernel) rfl)⟩
theorem zfw_X9_22 : zFW RX9 22 9 2 0 .int := ⟨_, _, _, _, zK9, by decide, by decide, (zin (i := 329) (by decide +kernel) rfl), rfl, by decide⟩
theorem zfl_X9_30 : zFL RX9 30 9 3 11 := ⟨_, _, _, _, zK9, by decide, by decide, (zin (i := 331) (by decide +kernel) rfl)⟩
theorem zfl_X9_38 : zFL RX9 38 0 2 0 := ⟨_, _, _, _, zK0, by decide, by decide, (zin (i := 206) (by decide +kernel) rfl)⟩
theorem zfl_X9_41 : zFL RX9 41 0 1 4 := ⟨_, _, _, _, zK0, by decide, by decide, (zin (i := 203) (by decide +kernel) rfl)⟩
theorem zfl_X9_58 : zFL RX9 58 0 0 2 := ⟨_, _, _, _, zK0, by decide, by decide, (zin (i := 201) (by decide +kernel) rfl)⟩
theorem zlv_L_7 : zLV RL 7 RX10 yX10_put cX10_put 4 (some .int) 3 := ⟨⟨(zin (i := 723) (by decide +kernel) rfl), (zin (i := 724) (by decide +kernel) rfl), (zin (i := 725) (by decide +kernel) rfl), (zin (i := 68) (by decide +kernel) rfl), (zin (i := 726) (by decide +kernel) rfl)⟩, rfl, by decide, by decide, by decide +kernel⟩
theorem zlv_L_19 : zLV RL 19 RX10 yX10_take cX10_take 4 (some .int) 3 := ⟨⟨(zin (i := 840) (by decide +kernel) rfl), (zin (i := 841) (by decide +kernel) rfl), (zin (i := 842) (by decide +kernel) rfl), (zin (i := 68) (by decide +kernel) rfl), (zin (i := 843) (by decide +kernel) rfl)⟩, rfl, by decide, by decide, by decide +kernel⟩
theorem zlv_L_22 : zLV RL 22 RX10 yX10_change cX10_change 5 (some .int) 3 := ⟨⟨(zin (i := 857) (by decide +kernel) rfl), (zin (i := 858) (by decide +kernel) rfl), (zin (i := 859) (by decide +kernel) rfl), (zin (i := 68) (by decide +kernel) rfl), (zin (i := 860) (by decide +kernel) rfl)⟩, rfl, by decide, by decide, by decide +kernel⟩
theorem zlv_L_25 : zLV RL 25 RX10 yX10_turn cX10_turn 4 (some .int) 3 := ⟨⟨(zin (i := 864) (by decide +kernel) rfl), (zin (i := 865) (by decide +kernel) rfl), (zin (i := 866) (by decide +kernel) rfl), (zin (i := 68) (by decide +kernel) rfl), (zin (i := 867) (by decide +kernel) rfl)⟩, rfl, by decide, by decide, by decide +kernel⟩
theorem zlv_L_28 : zLV RL 28 RX10 yX10_copy cX10_copy 6 (some .int) 4 := ⟨⟨(zin (i := 876) (by decide +kernel) rfl), (zin (i := 877) (by decide +kernel) rfl), (zin (i := 878) (by decide +kernel) rfl), (zin (i := 68) (by decide +kernel) rfl), (zin (i := 879) (by decide +kernel) rfl)⟩, rfl, by decide, by decide, by decide +kernel⟩
theorem zlv_L_32 : zLV RL 32 RX10 yX10_set cX10_set 4 (some .int) 2 := ⟨⟨(zin (i := 888) (by decide +kernel) rfl), (zin (i := 889) (by decide +kernel) rfl), (zin (i := 890) (by decide +kernel) rfl), (zin (i := 68) (by decide +kernel) rfl), (zin (i := 891) (by decide +kernel) rfl)⟩, rfl, by decide, by decide, by decide +kernel⟩
theorem zlv_L_36 : zLV RL 36 RX10 yX10_append cX10_append 2 (some .int) 1 := ⟨⟨(zin (i := 903) (by decide +kernel) rfl), (zin (i := 904) (by decide +kernel) rfl), (zin (i := 905) (by decide +kernel) rfl), (zin (i := 68) (by decide +kernel) rfl), (zin (i := 906) (by decide +kernel) rfl)⟩, rfl, by decide, by decide, by decide +kernel⟩
theorem zlv_L_40 : zLV RL 40 RX10 yX10_read cX10_read 1 (some .int) 0 := ⟨⟨(zin (i := 917) (by decide +kernel) rfl), (zin (i := 918) (by decide +kernel) rfl), (zin (i := 919) (by decide +kernel) rfl), (zin (i := 68) (by decide +kernel) rfl), (zin (i := 920) (by decide +kernel) rfl)⟩, rfl, by decide, by decide, by decide +kernel⟩
theorem zlv_L_44 : zLV RL 44 RX10 yX10_keep cX10_keep 2 (some .int) 1 := ⟨⟨(zin (i := 944) (by decide +kernel) rfl), (zin (i := 945) (by decide +kernel) rfl), (zin (i := 946) (by decide +kernel) rfl), (zin (i := 68) (by decide +kernel) rfl), (zin (i := 947) (by decide +kernel) rfl)⟩, rfl, by decide, by decide, by decide +kernel⟩
theorem zlv_L_47 : zLV RL 47 RX10 yX10_restore cX10_restore 2 (some .int) 1 := ⟨⟨(zin (i := 960) (by decide +kernel) rfl), (zin (i := 961) (by decide +kernel) rfl), (zin (i := 962) (by decide +kernel) rfl), (zin (i := 68) (by decide +kernel) rfl), (zin (i := 963) (by decide +kernel) rfl)⟩, rfl, by decide, by decide, by decide +kernel⟩
theorem zlv_L_50 : zLV RL 50 RX10 yX10_undo cX10_undo 1 (some .int) 0 := ⟨⟨(zin (i := 968) (by decide +kernel) rfl), (zin (i := 969) (by decide +kernel) rfl), (zin (i := 970) (by decide +kernel) rfl), (zin (i := 68) (by decide +kernel) rfl), (zin (i := 971) (by decide +kernel) rfl)⟩, rfl, by decide, by decide, by decide +kernel⟩
theorem zlv_L_53 : zLV RL 53 RX10 yX10_sign cX10_sign 3 (some .int) 2 := ⟨⟨(zin (i := 984) (by decide +kernel) rfl), (zin (i := 985) (by decide +kernel) rfl), (zin (i := 986) (by decide +kernel) rfl), (zin (i := 68) (by decide +kernel) rfl), (zin (i := 987) (by decide +kernel) rfl)⟩, rfl, by decide, by decide, by decide +kernel⟩
theorem zlv_L_56 : zLV RL 56 RX10 yX10_anchor cX10_anchor 3 (some .int) 2 := ⟨⟨(zin (i := 991) (by decide +kernel) rfl), (zin (i := 992) (by decide +kernel) rfl), (zin (i := 993) (by decide +kernel) rfl), (zin (i := 68) (by decide +kernel) rfl), (zin (i := 994) (by decide +kernel) rfl)⟩, rfl, by decide, by decide, by decide +kernel⟩
theorem zlv_L_59 : zLV RL 59 RX10 yX10_turned cX10_turned 3 (some .int) 2 := ⟨⟨(zin (i := 1000) (by decide +kernel) rfl), (zin (i := 1001) (by decide +kernel) rfl), (zin (i := 1002) (by decide +kernel) rfl), (zin (i := 68) (by decide +kernel) rfl), (zin (i := 1003) (by decide +kernel) rfl)⟩, rfl, by decide, by decide, by decide +kernel⟩
theorem zlv_L_62 : zLV RL 62 RX10 yX10_gap cX10_gap 3 (some .int) 2 := ⟨⟨(zin (i := 1008) (by decide +kernel) rfl), (zin (i := 1009) (by decide +kernel) rfl), (zin (i := 1010) (by decide +kernel) rfl), (zin (i := 68) (by decide +kernel) rfl), (zin (i := 1011) (by decide +kernel) rfl)⟩, rfl, by decide, by decide, by decide +kernel⟩
theorem zlv_L_65 : zLV RL 65 RX10 yX10_partner cX10_partner 3 (some .int) 2 := ⟨⟨(zin (i := 1016) (by decide +kernel) rfl), (zin (i := 1017) (by decide +kernel) rfl), (zin (i := 1018) (by decide +kernel) rfl), (zin (i := 68) (by decide +kernel) rfl), (zin (i := 1019) (by decide +kernel) rfl)⟩, rfl, by decide, by decide, by decide +kernel⟩
theorem zlv_L_68 : zLV RL 68 RX10 yX10_doubled cX10_doubled 3 (some .int) 2 := ⟨⟨(zin (i := 1023) (by decide +kernel) rfl), (zin (i := 1024) (by decide +kernel) rfl), (zin (i := 1025) (by decide +kernel) rfl), (zin (i := 68) (by decide +kernel) rfl), (zin (i := 1026) (by decide +kernel) rfl)⟩, rfl, by decide, by decide, by decide +kernel⟩
theorem zlv_L_71 : zLV RL 71 RX10 yX10_count cX10_count 2 (some .int) 1 := ⟨⟨(zin (i := 1031) (by decide +kernel) rfl), (zin (i := 1032) (by decide +kernel) rfl), (zin (i := 1033) (by decide +kernel) rfl), (zin (i := 68) (by decide +kernel) rfl), (zin (i := 1034) (by decide +kernel) rfl)⟩, rfl, by decide, by decide, by decide +kernel⟩
theorem zlv_L_74 : zLV RL 74 RX10 yX10_setting cX10_setting 2 (some .int) 1 := ⟨⟨(zin (i := 1039) (by decide +kernel) rfl), (zin (i := 1040) (by decide +kernel) rfl), (zin (i := 1041) (by decide +kernel) rfl), (zin (i := 68) (by decide +kernel) rfl), (zin (i := 1042) (by decide +kernel) rfl)⟩, rfl, by decide, by decide, by decide +kernel⟩
theorem zlv_L_77 : zLV RL 77 RX10 yX10_ifSet cX10_ifSet 3 (some .int) 2 := ⟨⟨(zin (i := 1046) (by decide +kernel) rfl), (zin (i := 1047) (by decide +kernel) rfl), (zin (i := 1048) (by decide +kernel) rfl), (zin (i := 68) (by decide +kernel) rfl), (zin (i := 1049) (by decide +kernel) rfl)⟩, rfl, by decide, by decide, by decide +kernel⟩
theorem zlv_L_80 : zLV RL 80 RX10 yX10_ifChanged cX10_ifChanged 4 (some .int) 3 := ⟨⟨(zin (i := 1053) (by decide +kernel) rfl), (zin (i := 1054) (by decide +kernel) rfl), (zin (i := 1055) (by decide +kernel) rfl), (zin (i := 68) (by decide +kernel) rfl), (zin (i := 1056) (by decide +kernel) rfl)⟩, rfl, by decide, by decide, by decide +kernel⟩
theorem zlv_L_92 : zLV RL 92 RX11 yX11_put cX11_put 5 (some .int) 3 := ⟨⟨(zin (i := 1158) (by decide +kernel) rfl), (zin (i := 1159) (by decide +kernel) rfl), (zin (i := 1160) (by decide +kernel) rfl), (zin (i := 79) (by decide +kernel) rfl), (zin (i := 1161) (by decide +kernel) rfl)⟩, rfl, by decide, by decide, by decide +kernel⟩
theorem zlv_L_93 : zLV RL 93 RX11 yX11_thrown cX11_thrown 1 (some .int) 0 := ⟨⟨(zin (i := 1154) (by decide +kernel) rfl), (zin (i := 1155) (by decide +kernel) rfl), (zin (i := 1156) (by decide +kernel) rfl), (zin (i := 79) (by decide +kernel) rfl), (zin (i := 1157) (by decide +kernel) rfl)⟩, rfl, by decide, by decide, by decide +kernel⟩
theorem zlv_L_98 : zLV RL 98 RX11 yX11_take cX11_take 5 (some .int) 3 := ⟨⟨(zin (i := 1187) (by decide +kernel) rfl), (zin (i := 1188) (by decide +kernel) rfl), (zin (i := 1189) (by decide +kernel) rfl), (zin (i := 79) (by decide +kernel) rfl), (zin (i := 1190) (by decide +kernel) rfl)⟩, rfl, by decide, by decide, by decide +kernel⟩
theorem zlv_L_101 : zLV RL 101 RX11 yX11_change cX11_change 5 (some .int) 3 := ⟨⟨(zin (i := 1195) (by decide +kernel) rfl), (zin (i := 1196) (by decide +kernel) rfl), (zin (i := 1197) (by decide +kernel) rfl), (zin (i := 79) (by decide +kernel) rfl), (zin (i := 1198) (by decide +kernel) rfl)⟩, rfl, by decide, by decide, by decide +kernel⟩
theorem zlv_L_104 : zLV RL 104 RX11 yX11_turn cX11_turn 7 (some .int) 3 := ⟨⟨(zin (i := 1199) (by decide +kernel) rfl), (zin (i := 1200) (by decide +kernel) rfl), (zin (i := 1201) (by decide +kernel) rfl), (zin (i := 79) (by decide +kernel) rfl), (zin (i := 1202) (by decide +kernel) rfl)⟩, rfl, by decide, by decide, by decide +kernel⟩
theorem zlv_L_108 : zLV RL 108 RX11 yX11_copy cX11_copy 7 (some .int) 4 := ⟨⟨(zin (i := 1203) (by decide +kernel) rfl), (zin (i := 1204) (by decide +kernel) rfl), (zin (i := 1205) (by decide +kernel) rfl), (zin (i := 79) (by decide +kernel) rfl), (zin (i := 1206) (by decide +kernel) rfl)⟩, rfl, by decide, by decide, by decide +kernel⟩
theorem zlv_L_109 : zLV RL 109 RX10 yX10_exchange cX10_exchange 1 (some .int) 0 := ⟨⟨(zin (i := 378) (by decide +kernel) rfl), (zin (i := 379) (by decide +kernel) rfl), (zin (i := 380) (by decide +kernel) rfl), (zin (i := 68) (by decide +kernel) rfl), (zin (i := 381) (by decide +kernel) rfl)⟩, rfl, by decide, by decide, by decide +kernel⟩
theorem zlv_L_112 : zLV RL 112 RX11 yX11_exchange cX11_exchange 3 (some .int) 0 := ⟨⟨(zin (i := 1207) (by decide +kernel) rfl), (zin (i := 1208) (by decide +kernel) rfl), (zin (i := 1209) (by decide +kernel) rfl), (zin (i := 79) (by decide +kernel) rfl), (zin (i := 1210) (by decide +kernel) rfl)⟩, rfl, by decide, by decide, by decide +kernel⟩
theorem zlv_L_116 : zLV RL 116 RX11 yX11_set cX11_set 4 (some .int) 2 := ⟨⟨(zin (i := 1223) (by decide +kernel) rfl), (zin (i := 1224) (by decide +kernel) rfl), (zin (i := 1225) (by decide +kernel) rfl), (zin (i := 79) (by decide +kernel) rfl), (zin (i := 1226) (by decide +kernel) rfl)⟩, rfl, by decide, by decide, by decide +kernel⟩
theorem zlv_L_120 : zLV RL 120 RX11 yX11_append cX11_append 2 (some .int) 1 := ⟨⟨(zin (i := 1233) (by decide +kernel) rfl), (zin (i := 1234) (by decide +kernel) rfl), (zin (i := 1235) (by decide +kernel) rfl), (zin (i := 79) (by decide +kernel) rfl), (zin (i := 1236) (by decide +kernel) rfl)⟩, rfl, by decide, by decide, by decide +kernel⟩
theorem zlv_L_121 : zLV RL 121 RX10 yX10_clearBuffer cX10_clearBuffer 2 (some .int) 0 := ⟨⟨(zin (i := 546) (by decide +kernel) rfl), (zin (i := 547) (by decide +kernel) rfl), (zin (i := 548) (by decide +kernel) rfl), (zin (i := 68) (by decide +kernel) rfl), (zin (i := 549) (by decide +kernel) rfl)⟩, rfl, by decide, by decide, by decide +kernel⟩
theorem zlv_L_124 : zLV RL 124 RX11 yX11_clearBuffer cX11_clearBuffer 2 (some .int) 0 := ⟨⟨(zin (i := 1237) (by decide +kernel) rfl), (zin (i := 1238) (by decide +kernel) rfl), (zin (i := 1239) (by decide +kernel) rfl), (zin (i := 79) (by decide +kernel) rfl), (zin (i := 1240) (by decide +kernel) rfl)⟩, rfl, by decide, by decide, by decide +kernel⟩
theorem zlv_L_125 : zLV RL 125 RX10 yX10_firstError cX10_firstError 1 (some .int) 0 := ⟨⟨(zin (i := 558) (by decide +kernel) rfl), (zin (i := 559) (by decide +kernel) rfl), (zin (i := 560) (by decide +kernel) rfl), (zin (i := 68) (by decide +kernel) rfl), (zin (i := 561) (by decide +kernel) rfl)⟩, rfl, by decide, by decide, by decide +kernel⟩
theorem zlv_L_128 : zLV RL 128 RX11 yX11_firstError cX11_firstError 1 (some .int) 0 := ⟨⟨(zin (i := 1241) (by decide +kernel) rfl), (zin (i := 1242) (by decide +kernel) rfl), (zin (i := 1243) (by decide +kernel) rfl), (zin (i := 79) (by decide +kernel) rfl), (zin (i := 1244) (by decide +kernel) rfl)⟩, rfl, by decide, by decide, by decide +kernel⟩
theorem zlv_L_132 : zLV RL 132 RX11 yX11_read cX11_read 3 (some .int) 0 := ⟨⟨(zin (i := 1253) (by decide +kernel) rfl), (zin (i := 1254) (by decide +kernel) rfl), (zin (i := 1255) (by decide +kernel) rfl), (zin (i := 79) (by decide +kernel) rfl), (zin (i := 1256) (by decide +kernel) rfl)⟩, rfl, by decide, by decide, by decide +kernel⟩
theorem zlv_L_135 : zLV RL 135 RX11 yX11_keep cX11_keep 3 (some .int) 1 := ⟨⟨(zin (i := 1257) (by decide +kernel) rfl), (zin (i := 1258) (by decide +kernel) rfl), (zin (i := 1259) (by decide +kernel) rfl), (zin (i := 79) (by decide +kernel) rfl), (zin (i := 1260) (by decide +kernel) rfl)⟩, rfl, by decide, by decide, by decide +kernel⟩
theorem zlv_L_138 : zLV RL 138 RX11 yX11_restore cX11_restore 3 (some .int) 1 := ⟨⟨(zin (i := 1264) (by decide +kernel) rfl), (zin (i := 1265) (by decide +kernel) rfl), (zin (i := 1266) (by decide +kernel) rfl), (zin (i := 79) (by decide +kernel) rfl), (zin (i := 1267) (by decide +kernel) rfl)⟩, rfl, by decide, by decide, by decide +kernel⟩
theorem zlv_L_141 : zLV RL 141 RX11 yX11_undo cX11_undo 2 (some .int) 0 := ⟨⟨(zin (i := 1268) (by decide +kernel) rfl), (zin (i := 1269) (by decide +kernel) rfl), (zin (i := 1270) (by decide +kernel) rfl), (zin (i := 79) (by decide +kernel) rfl), (zin (i := 1271) (by decide +kernel) rfl)⟩, rfl, by decide, by decide, by decide +kernel⟩
theorem zlv_L_144 : zLV RL 144 RX11 yX11_sign cX11_sign 3 (some .int) 2 := ⟨⟨(zin (i := 1272) (by decide +kernel) rfl), (zin (i := 1273) (by decide +kernel) rfl), (zin (i := 1274) (by decide +kernel) rfl), (zin (i := 79) (by decide +kernel) rfl), (zin (i := 1275) (by decide +kernel) rfl)⟩, rfl, by decide, by decide, by decide +kernel⟩
theorem zlv_L_147 : zLV RL 147 RX11 yX11_anchor cX11_anchor 3 (some .int) 2 := ⟨⟨(zin (i := 1276) (by decide +kernel) rfl), (zin (i := 1277) (by decide +kernel) rfl), (zin (i := 1278) (by decide +kernel) rfl), (zin (i := 79) (by decide +kernel) rfl), (zin (i := 1279) (by decide +kernel) rfl)⟩, rfl, by decide, by decide, by decide +kernel⟩
theorem zlv_L_150 : zLV RL 150 RX11 yX11_turned cX11_turned 3 (some .int) 2 := ⟨⟨(zin (i := 1292) (by decide +kernel) rfl), (zin (i := 1293) (by decide +kernel) rfl), (zin (i := 1294) (by decide +kernel) rfl), (zin (i := 79) (by decide +kernel) rfl), (zin (i := 1295) (by decide +kernel) rfl)⟩, rfl, by decide, by decide, by decide +kernel⟩
theorem zlv_L_153 : zLV RL 153 RX11 yX11_gap cX11_gap 3 (some .int) 2 := ⟨⟨(zin (i := 1304) (by decide +kernel) rfl), (zin (i := 1305) (by decide +kernel) rfl), (zin (i := 1306) (by decide +kernel) rfl), (zin (i := 79) (by decide +kernel) rfl), (zin (i := 1307) (by decide +kernel) rfl)⟩, rfl, by decide, by decide, by decide +kernel⟩
theorem zlv_L_156 : zLV RL 156 RX11 yX11_partner cX11_partner 3 (some .int) 2 := ⟨⟨(zin (i := 1336) (by decide +kernel) rfl), (zin (i := 1337) (by decide +kernel) rfl), (zin (i := 1338) (by decide +kernel) rfl), (zin (i := 79) (by decide +kernel) rfl), (zin (i := 1339) (by decide +kernel) rfl)⟩, rfl, by decide, by decide, by decide +kernel⟩
theorem zlv_L_159 : zLV RL 159 RX11 yX11_doubled cX11_doubled 3 (some .int) 2 := ⟨⟨(zin (i := 1344) (by decide +kernel) rfl), (zin (i := 1345) (by decide +kernel) rfl), (zin (i := 1346) (by decide +kernel) rfl), (zin (i := 79) (by decide +kernel) rfl), (zin (i := 1347) (by decide +kernel) rfl)⟩, rfl, by decide, by decide, by decide +kernel⟩
theorem zlv_L_162 : zLV RL 162 RX11 yX11_count cX11_count 2 (some .int) 1 := ⟨⟨(zin (i := 1356) (by decide +kernel) rfl), (zin (i := 1357) (by decide +kernel) rfl), (zin (i := 1358) (by decide +kernel) rfl), (zin (i := 79) (by decide +kernel) rfl), (zin (i := 1359) (by decide +kernel) rfl)⟩, rfl, by decide, by decide, by decide +kernel⟩
theorem zlv_L_165 : zLV RL 165 RX11 yX11_setting cX11_setting 2 (some .int) 1 := ⟨⟨(zin (i := 1388) (by decide +kernel) rfl), (zin (i := 1389) (by decide +kernel) rfl), (zin (i := 1390) (by decide +kernel) rfl), (zin (i := 79) (by decide +kernel) rfl), (zin (i := 1391) (by decide +kernel) rfl)⟩, rfl, by decide, by decide, by decide +kernel⟩
theorem zlv_L_168 : zLV RL 168 RX11 yX11_ifSet cX11_ifSet 3 (some .int) 2 := ⟨⟨(zin (i := 1392) (by decide +kernel) rfl), (zin (i := 1393) (by decide +kernel) rfl), (zin (i := 1394) (by decide +kernel) rfl), (zin (i := 79) (by decide +kernel) rfl), (zin (i := 1395) (by decide +kernel) rfl)⟩, rfl, by decide, by decide, by decide +kernel⟩
theorem zlv_L_171 : zLV RL 171 RX11 yX11_ifChanged cX11_ifChanged 4 (some .int) 3 := ⟨⟨(zin (i := 1400) (by decide +kernel) rfl), (zin (i := 1401) (by decide +kernel) rfl), (zin (i := 1402) (by decide +kernel) rfl), (zin (i := 79) (by decide +kernel) rfl), (zin (i := 1403) (by decide +kernel) rfl)⟩, rfl, by decide, by decide, by decide +kernel⟩
theorem zlv_L_172 : zLV RL 172 RX10 yX10_bestLength cX10_bestLength 1 (some .int) 0 := ⟨⟨(zin (i := 573) (by decide +kernel) rfl), (zin (i := 574) (by decide +kernel) rfl), (zin (i := 575) (by decide +kernel) rfl), (zin (i := 68) (by decide +kernel) rfl), (zin (i := 576) (by decide +kernel) rfl)⟩, rfl, by decide, by decide, by decide +kernel⟩
theorem zlv_L_175 : zLV RL 175 RX11 yX11_bestLength cX11_bestLength 1 (some .int) 0 := ⟨⟨(zin (i := 1408) (by decide +kernel) rfl), (zin (i := 1409) (by decide +kernel) rfl), (zin (i := 1410) (by decide +kernel) rfl), (zin (i := 79) (by decide +kernel) rfl), (zin (i := 1411) (by decide +kernel) rfl)⟩, rfl, by decide, by decide, by decide +kernel⟩
theorem zlv_L_176 : zLV RL 176 RX10 yX10_likeShare cX10_likeShare 1 (some .double) 0 := ⟨⟨(zin (i := 595) (by decide +kernel) rfl), (zin (i := 596) (by decide +kernel) rfl), (zin (i := 597) (by decide +kernel) rfl), (zin (i := 68) (by decide +kernel) rfl), (zin (i := 598) (by decide +kernel) rfl)⟩, rfl, by decide, by decide, by decide +kernel⟩
theorem zlv_L_180 : zLV RL 180 RX11 yX11_likeShare cX11_likeShare 1 (some .double) 0 := ⟨⟨(zin (i := 1416) (by decide +kernel) rfl), (zin (i := 1417) (by decide +kernel) rfl), (zin (i := 1418) (by decide +kernel) rfl), (zin (i := 79) (by decide +kernel) rfl), (zin (i := 1419) (by decide +kernel) rfl)⟩, rfl, by decide, by decide, by decide +kernel⟩
theorem zlv_L_181 : zLV RL 181 RX10 yX10_digest cX10_digest 4 (some .long) 0 := ⟨⟨(zin (i := 614) (by decide +kernel) rfl), (zin (i := 615) (by decide +kernel) rfl), (zin (i := 616) (by decide +kernel) rfl), (zin (i := 68) (by decide +kernel) rfl), (zin (i := 617) (by decide +kernel) rfl)⟩, rfl, by decide, by decide, by decide +kernel⟩
theorem zlv_L_185 : zLV RL 185 RX11 yX11_digest cX11_digest 5 (some .long) 0 := ⟨⟨(zin (i := 1425) (by decide +kernel) rfl), (zin (i := 1426) (by decide +kernel) rfl), (zin (i := 1427) (by decide +kernel) rfl), (zin (i := 79) (by decide +kernel) rfl), (zin (i := 1428) (by decide +kernel) rfl)⟩, rfl, by decide, by decide, by decide +kernel⟩
theorem zlv_X0_41 : zLV RX0 41 RX1 yX1_at cX1_at 2 (some .int) 1 := ⟨⟨(zin (i := 428) (by decide +kernel) rfl), (zin (i := 395) (by decide +kernel) rfl), (zin (i := 396) (by decide +kernel) rfl), (zin (i := 71) (by decide +kernel) rfl), (zin (i := 397) (by decide +kernel) rfl)⟩, rfl, by decide, by decide, by decide +kernel⟩
theorem zlv_X0_49 : zLV RX0 49 RX6 yX6_listWords cX6_listWords 6 (some .int) 3 := ⟨⟨(zin (i := 429) (by decide +kernel) rfl), (zin (i := 430) (by decide +kernel) rfl), (zin (i := 431) (by decide +kernel) rfl), (zin (i := 70) (by decide +kernel) rfl), (zin (i := 432) (by decide +kernel) rfl)⟩, rfl, by decide, by decide, by decide +kernel⟩
theorem zlv_X0_58 : zLV RX0 58 RX6 yX6_wordAt cX6_wordAt 7 (some .int) 3 := ⟨⟨(zin (i := 442) (by decide +kernel) rfl), (zin (i := 437) (by decide +kernel) rfl), (zin (i := 438) (by decide +kernel) rfl), (zin (i := 70) (by decide +kernel) rfl), (zin (i := 439) (by decide +kernel) rfl)⟩, rfl, by decide, by decide, by decide +kernel⟩
theorem zls_X0_62 : zLS RX0 62 yX0_times cX0_times 5 (some .int) 3 := ⟨⟨(zin (i := 443) (by decide +kernel) rfl), (zin (i := 444) (by decide +kernel) rfl), (zin (i := 75) (by decide +kernel) rfl), (zin (i := 445) (by decide +kernel) rfl)⟩, rfl, by decide, by decide, by decide +kernel⟩
theorem zlv_X0_66 : zLV RX0 66 RX1 yX1_store cX1_store 3 none 2 := ⟨⟨(zin (i := 446) (by decide +kernel) rfl), (zin (i := 128) (by decide +kernel) rfl), (zin (i := 129) (by decide +kernel) rfl), (zin (i := 71) (by decide +kernel) rfl), (zin (i := 130) (by decide +kernel) rfl)⟩, rfl, by decide, by decide, by decide +kernel⟩
theorem zls_X0_70 : zLS RX0 70 yX0_firstPlace cX0_firstPlace 4 (some .int) 3 := ⟨⟨(zin (i := 447) (by decide +kernel) rfl), (zin (i := 448) (by decide +kernel) rfl), (zin (i := 75) (by decide +kernel) rfl), (zin (i := 449) (by decide +kernel) rfl)⟩, rfl, by decide, by decide, by decide +kernel⟩
theorem zls_X10_66 : zLS RX10 66 yX10_isRow cX10_isRow 1 (some .boolean) 1 := ⟨⟨(zin (i := 727) (by decide +kernel) rfl), (zin (i := 728) (by decide +kernel) rfl), (zin (i := 68) (by decide +kernel) rfl), (zin (i := 729) (by decide +kernel) rfl)⟩, rfl, by decide, by decide, by decide +kernel⟩
theorem zlv_X10_70 : zLV RX10 70 RX7 yX7_rowOf cX7_rowOf 2 (some (.object "AnchorChains$Row")) 1 := ⟨⟨(zin (i := 649) (by decide +kernel) rfl), (zin (i := 650) (by decide +kernel) rfl), (zin (i := 651) (by decide +kernel) rfl), (zin (i := 69) (by decide +kernel) rfl), (zin (i := 652) (by decide +kernel) rfl)⟩, rfl, by decide, by decide, by decide +kernel⟩
theorem zlv_X10_74 : zLV RX10 74 RX6 yX6_size cX6_size 1 (some .int) 0 := ⟨⟨(zin (i := 623) (by decide +kernel) rfl), (zin (i := 535) (by decide +kernel) rfl), (zin (i := 536) (by decide +kernel) rfl), (zin (i := 70) (by decide +kernel) rfl), (zin (i := 537) (by decide +kernel) rfl)⟩, rfl, by decide, by decide, by decide +kernel⟩
theorem zls_X10_87 : zLS RX10 87 yX10_isSign cX10_isSign 1 (some .boolean) 1 := ⟨⟨(zin (i := 798) (by decide +kernel) rfl), (zin (i := 799) (by decide +kernel) rfl), (zin (i := 68) (by decide +kernel) rfl), (zin (i := 800) (by decide +kernel) rfl)⟩, rfl, by decide, by decide, by decide +kernel⟩
theorem zlv_X10_100 : zLV RX10 100 RX10 yX10_saveState cX10_saveState 1 none 0 := ⟨⟨(zin (i := 382) (by decide +kernel) rfl), (zin (i := 384) (by decide +kernel) rfl), (zin (i := 0) (by decide +kernel) rfl), (zin (i := 68) (by decide +kernel) rfl), (zin (i := 385) (by decide +kernel) rfl)⟩, rfl, by decide, by decide, by decide +kernel⟩
theorem zlv_X10_103 : zLV RX10 103 RX6 yX6_insert cX6_insert 4 none 2 := ⟨⟨(zin (i := 833) (by decide +kernel) rfl), (zin (i := 834) (by decide +kernel) rfl), (zin (i := 835) (by decide +kernel) rfl), (zin (i := 70) (by decide +kernel) rfl), (zin (i := 836) (by decide +kernel) rfl)⟩, rfl, by decide, by decide, by decide +kernel⟩
theorem zlv_X10_107 : zLV RX10 107 RX10 yX10_isPlace cX10_isPlace 3 (some .boolean) 2 := ⟨⟨(zin (i := 844) (by decide +kernel) rfl), (zin (i := 846) (by decide +kernel) rfl), (zin (i := 28) (by decide +kernel) rfl), (zin (i := 68) (by decide +kernel) rfl), (zin (i := 847) (by decide +kernel) rfl)⟩, rfl, by decide, by decide, by decide +kernel⟩
theorem zlv_X10_113 : zLV RX10 113 RX6 yX6_remove cX6_remove 4 none 2 := ⟨⟨(zin (i := 849) (by decide +kernel) rfl), (zin (i := 850) (by decide +kernel) rfl), (zin (i := 851) (by decide +kernel) rfl), (zin (i := 70) (by decide +kernel) rfl), (zin (i := 852) (by decide +kernel) rfl)⟩, rfl, by decide, by decide, by decide +kernel⟩
theorem zlv_X10_116 : zLV RX10 116 RX6 yX6_signAt cX6_signAt 2 (some .int) 1 := ⟨⟨(zin (i := 653) (by decide +kernel) rfl), (zin (i := 404) (by decide +kernel) rfl), (zin (i := 405) (by decide +kernel) rfl), (zin (i := 70) (by decide +kernel) rfl), (zin (i := 406) (by decide +kernel) rfl)⟩, rfl, by decide, by decide, by decide +kernel⟩
theorem zlv_X10_120 : zLV RX10 120 RX6 yX6_write cX6_write 3 none 2 := ⟨⟨(zin (i := 703) (by decide +kernel) rfl), (zin (i := 413) (by decide +kernel) rfl), (zin (i := 414) (by decide +kernel) rfl), (zin (i := 70) (by decide +kernel) rfl), (zin (i := 415) (by decide +kernel) rfl)⟩, rfl, by decide, by decide, by decide +kernel⟩
theorem zlv_X10_125 : zLV RX10 125 RX6 yX6_reverse cX6_reverse 8 (some .int) 2 := ⟨⟨(zin (i := 869) (by decide +kernel) rfl), (zin (i := 870) (by decide +kernel) rfl), (zin (i := 871) (by decide +kernel) rfl), (zin (i := 70) (by decide +kernel) rfl), (zin (i := 872) (by decide +kernel) rfl)⟩, rfl, by decide, by decide, by decide +kernel⟩
theorem zlv_X10_131 : zLV RX10 131 RX6 yX6_extend cX6_extend 2 none 1 := ⟨⟨(zin (i := 881) (by decide +kernel) rfl), (zin (i := 882) (by decide +kernel) rfl), (zin (i := 883) (by decide +kernel) rfl), (zin (i := 70) (by decide +kernel) rfl), (zin (i := 884) (by decide +kernel) rfl)⟩, rfl, by decide, by decide, by decide +kernel⟩
theorem zlv_X10_135 : zLV RX10 135 RX7 yX7_exchangeRows cX7_exchangeRows 4 none 0 := ⟨⟨(zin (i := 408) (by decide +kernel) rfl), (zin (i := 409) (by decide +kernel) rfl), (zin (i := 410) (by decide +kernel) rfl), (zin (i := 69) (by decide +kernel) rfl), (zin (i := 411) (by decide +kernel) rfl)⟩, rfl, by decide, by decide, by decide +kernel⟩
theorem zlv_X10_138 : zLV RX10 138 RX10 yX10_refresh cX10_refresh 1 none 0 := ⟨⟨(zin (i := 416) (by decide +kernel) rfl), (zin (i := 418) (by decide +kernel) rfl), (zin (i := 2) (by decide +kernel) rfl), (zin (i := 68) (by decide +kernel) rfl), (zin (i := 419) (by decide +kernel) rfl)⟩, rfl, by decide, by decide, by decide +kernel⟩
theorem zls_X10_151 : zLS RX10 151 yX10_isSetting cX10_isSetting 1 (some .boolean) 1 := ⟨⟨(zin (i := 892) (by decide +kernel) rfl), (zin (i := 893) (by decide +kernel) rfl), (zin (i := 68) (by decide +kernel) rfl), (zin (i := 894) (by decide +kernel) rfl)⟩, rfl, by decide, by decide, by decide +kernel⟩
theorem zls_X10_156 : zLS RX10 156 yX10_isValueOf cX10_isValueOf 2 (some .boolean) 2 := ⟨⟨(zin (i := 896) (by decide +kernel) rfl), (zin (i := 897) (by decide +kernel) rfl), (zin (i := 68) (by decide +kernel) rfl), (zin (i := 898) (by decide +kernel) rfl)⟩, rfl, by decide, by decide, by decide +kernel⟩
theorem zlv_X10_165 : zLV RX10 165 RX1 yX1_at cX1_at 2 (some .int) 1 := ⟨⟨(zin (i := 644) (by decide +kernel) rfl), (zin (i := 395) (by decide +kernel) rfl), (zin (i := 396) (by decide +kernel) rfl), (zin (i := 71) (by decide +kernel) rfl), (zin (i := 397) (by decide +kernel) rfl)⟩, rfl, by decide, by decide, by decide +kernel⟩
theorem zlv_X10_170 : zLV RX10 170 RX1 yX1_store cX1_store 3 none 2 := ⟨⟨(zin (i := 594) (by decide +kernel) rfl), (zin (i := 128) (by decide +kernel) rfl), (zin (i := 129) (by decide +kernel) rfl), (zin (i := 71) (by decide +kernel) rfl), (zin (i := 130) (by decide +kernel) rfl)⟩, rfl, by decide, by decide, by decide +kernel⟩
theorem zlv_X10_175 : zLV RX10 175 RX8 yX8_size cX8_size 1 (some .int) 0 := ⟨⟨(zin (i := 550) (by decide +kernel) rfl), (zin (i := 551) (by decide +kernel) rfl), (zin (i := 552) (by decide +kernel) rfl), (zin (i := 73) (by decide +kernel) rfl), (zin (i := 553) (by decide +kernel) rfl)⟩, rfl, by decide, by decide, by decide +kernel⟩
theorem zlv_X10_178 : zLV RX10 178 RX8 yX8_add cX8_add 2 none 1 := ⟨⟨(zin (i := 909) (by decide +kernel) rfl), (zin (i := 910) (by decide +kernel) rfl), (zin (i := 911) (by decide +kernel) rfl), (zin (i := 73) (by decide +kernel) rfl), (zin (i := 912) (by decide +kernel) rfl)⟩, rfl, by decide, by decide, by decide +kernel⟩
theorem zlv_X10_181 : zLV RX10 181 RX8 yX8_clear cX8_clear 1 none 0 := ⟨⟨(zin (i := 554) (by decide +kernel) rfl), (zin (i := 555) (by decide +kernel) rfl), (zin (i := 556) (by decide +kernel) rfl), (zin (i := 73) (by decide +kernel) rfl), (zin (i := 557) (by decide +kernel) rfl)⟩, rfl, by decide, by decide, by decide +kernel⟩
theorem zlv_X10_184 : zLV RX10 184 RX8 yX8_faultPlace cX8_faultPlace 6 (some .int) 0 := ⟨⟨(zin (i := 562) (by decide +kernel) rfl), (zin (i := 563) (by decide +kernel) rfl), (zin (i := 564) (by decide +kernel) rfl), (zin (i := 73) (by decide +kernel) rfl), (zin (i := 565) (by decide +kernel) rfl)⟩, rfl, by decide, by decide, by decide +kernel⟩
theorem zlv_X10_187 : zLV RX10 187 RX8 yX8_isPairOfRows cX8_isPairOfRows 3 (some .boolean) 0 := ⟨⟨(zin (i := 921) (by decide +kernel) rfl), (zin (i := 922) (by decide +kernel) rfl), (zin (i := 923) (by decide +kernel) rfl), (zin (i := 73) (by decide +kernel) rfl), (zin (i := 924) (by decide +kernel) rfl)⟩, rfl, by decide, by decide, by decide +kernel⟩
theorem zlv_X10_193 : zLV RX10 193 RX8 yX8_writeRows cX8_writeRows 5 none 1 := ⟨⟨(zin (i := 927) (by decide +kernel) rfl), (zin (i := 928) (by decide +kernel) rfl), (zin (i := 929) (by decide +kernel) rfl), (zin (i := 73) (by decide +kernel) rfl), (zin (i := 930) (by decide +kernel) rfl)⟩, rfl, by decide, by decide, by decide +kernel⟩
theorem zls_X10_197 : zLS RX10 197 yX10_isSnapshot cX10_isSnapshot 1 (some .boolean) 1 := ⟨⟨(zin (i := 948) (by decide +kernel) rfl), (zin (i := 949) (by decide +kernel) rfl), (zin (i := 68) (by decide +kernel) rfl), (zin (i := 950) (by decide +kernel) rfl)⟩, rfl, by decide, by decide, by decide +kernel⟩
theorem zlv_X10_202 : zLV RX10 202 RX10 yX10_snapshotOf cX10_snapshotOf 2 (some (.object "AnchorChains$State")) 1 := ⟨⟨(zin (i := 952) (by decide +kernel) rfl), (zin (i := 954) (by decide +kernel) rfl), (zin (i := 29) (by decide +kernel) rfl), (zin (i := 68) (by decide +kernel) rfl), (zin (i := 955) (by decide +kernel) rfl)⟩, rfl, by decide, by decide, by decide +kernel⟩
theorem zlv_X10_206 : zLV RX10 206 RX7 yX7_takeRows cX7_takeRows 2 none 1 := ⟨⟨(zin (i := 956) (by decide +kernel) rfl), (zin (i := 586) (by decide +kernel) rfl), (zin (i := 587) (by decide +kernel) rfl), (zin (i := 69) (by decide +kernel) rfl), (zin (i := 588) (by decide +kernel) rfl)⟩, rfl, by decide, by decide, by decide +kernel⟩
theorem zlv_X10_209 : zLV RX10 209 RX7 yX7_signs cX7_signs 1 (some .int) 0 := ⟨⟨(zin (i := 603) (by decide +kernel) rfl), (zin (i := 604) (by decide +kernel) rfl), (zin (i := 605) (by decide +kernel) rfl), (zin (i := 69) (by decide +kernel) rfl), (zin (i := 606) (by decide +kernel) rfl)⟩, rfl, by decide, by decide, by decide +kernel⟩
theorem zlv_X10_214 : zLV RX10 214 RX4 yX4_size cX4_size 1 (some .int) 0 := ⟨⟨(zin (i := 636) (by decide +kernel) rfl), (zin (i := 637) (by decide +kernel) rfl), (zin (i := 638) (by decide +kernel) rfl), (zin (i := 72) (by decide +kernel) rfl), (zin (i := 639) (by decide +kernel) rfl)⟩, rfl, by decide, by decide, by decide +kernel⟩
theorem zlv_X10_217 : zLV RX10 217 RX4 yX4_giveBack cX4_giveBack 2 none 1 := ⟨⟨(zin (i := 973) (by decide +kernel) rfl), (zin (i := 974) (by decide +kernel) rfl), (zin (i := 975) (by decide +kernel) rfl), (zin (i := 72) (by decide +kernel) rfl), (zin (i := 976) (by decide +kernel) rfl)⟩, rfl, by decide, by decide, by decide +kernel⟩
theorem zlv_X10_224 : zLV RX10 224 RX5 yX5_anchorProperty cX5_anchorProperty 3 (some .int) 2 := ⟨⟨(zin (i := 675) (by decide +kernel) rfl), (zin (i := 676) (by decide +kernel) rfl), (zin (i := 677) (by decide +kernel) rfl), (zin (i := 74) (by decide +kernel) rfl), (zin (i := 678) (by decide +kernel) rfl)⟩, rfl, by decide, by decide, by decide +kernel⟩
theorem zlv_X10_230 : zLV RX10 230 RX9 yX9_property cX9_property 3 (some .int) 2 := ⟨⟨(zin (i := 679) (by decide +kernel) rfl), (zin (i := 680) (by decide +kernel) rfl), (zin (i := 681) (by decide +kernel) rfl), (zin (i := 78) (by decide +kernel) rfl), (zin (i := 682) (by decide +kernel) rfl)⟩, rfl, by decide, by decide, by decide +kernel⟩
theorem zlv_X10_235 : zLV RX10 235 RX5 yX5_gapProperty cX5_gapProperty 3 (some .int) 2 := ⟨⟨(zin (i := 687) (by decide +kernel) rfl), (zin (i := 688) (by decide +kernel) rfl), (zin (i := 689) (by decide +kernel) rfl), (zin (i := 74) (by decide +kernel) rfl), (zin (i := 690) (by decide +kernel) rfl)⟩, rfl, by decide, by decide, by decide +kernel⟩
theorem zlv_X10_238 : zLV RX10 238 RX5 yX5_partnersOf cX5_partnersOf 2 (some (.object "AnchorChains$Cells")) 1 := ⟨⟨(zin (i := 654) (by decide +kernel) rfl), (zin (i := 633) (by decide +kernel) rfl), (zin (i := 634) (by decide +kernel) rfl), (zin (i := 74) (by decide +kernel) rfl), (zin (i := 635) (by decide +kernel) rfl)⟩, rfl, by decide, by decide, by decide +kernel⟩
theorem zlv_X10_244 : zLV RX10 244 RX6 yX6_stretchProperty cX6_stretchProperty 6 (some .int) 1 := ⟨⟨(zin (i := 655) (by decide +kernel) rfl), (zin (i := 656) (by decide +kernel) rfl), (zin (i := 657) (by decide +kernel) rfl), (zin (i := 70) (by decide +kernel) rfl), (zin (i := 658) (by decide +kernel) rfl)⟩, rfl, by decide, by decide, by decide +kernel⟩
theorem zlv_X10_249 : zLV RX10 249 RX10 yX10_numberOf cX10_numberOf 2 (some .int) 1 := ⟨⟨(zin (i := 619) (by decide +kernel) rfl), (zin (i := 621) (by decide +kernel) rfl), (zin (i := 17) (by decide +kernel) rfl), (zin (i := 68) (by decide +kernel) rfl), (zin (i := 622) (by decide +kernel) rfl)⟩, rfl, by decide, by decide, by decide +kernel⟩
theorem zlv_X10_252 : zLV RX10 252 RX10 yX10_costWithSetting cX10_costWithSetting 3 (some .int) 2 := ⟨⟨(zin (i := 691) (by decide +kernel) rfl), (zin (i := 693) (by decide +kernel) rfl), (zin (i := 24) (by decide +kernel) rfl), (zin (i := 68) (by decide +kernel) rfl), (zin (i := 694) (by decide +kernel) rfl)⟩, rfl, by decide, by decide, by decide +kernel⟩
theorem zlv_X10_255 : zLV RX10 255 RX10 yX10_costWithSign cX10_costWithSign 4 (some .int) 3 := ⟨⟨(zin (i := 699) (by decide +kernel) rfl), (zin (i := 701) (by decide +kernel) rfl), (zin (i := 25) (by decide +kernel) rfl), (zin (i := 68) (by decide +kernel) rfl), (zin (i := 702) (by decide +kernel) rfl)⟩, rfl, by decide, by decide, by decide +kernel⟩
theorem zlv_X10_259 : zLV RX10 259 RX10 yX10_bestWordLength cX10_bestWordLength 5 (some .int) 0 := ⟨⟨(zin (i := 577) (by decide +kernel) rfl), (zin (i := 579) (by decide +kernel) rfl), (zin (i := 15) (by decide +kernel) rfl), (zin (i := 68) (by decide +kernel) rfl), (zin (i := 580) (by decide +kernel) rfl)⟩, rfl, by decide, by decide, by decide +kernel⟩
theorem zlv_X10_262 : zLV RX10 262 RX10 yX10_shareOfLikeSigns cX10_shareOfLikeSigns 2 (some .double) 0 := ⟨⟨(zin (i := 599) (by decide +kernel) rfl), (zin (i := 601) (by decide +kernel) rfl), (zin (i := 16) (by decide +kernel) rfl), (zin (i := 68) (by decide +kernel) rfl), (zin (i := 602) (by decide +kernel) rfl)⟩, rfl, by decide, by decide, by decide +kernel⟩
theorem zls_X10_268 : zLS RX10 268 yX10_fold cX10_fold 4 (some .long) 2 := ⟨⟨(zin (i := 640) (by decide +kernel) rfl), (zin (i := 641) (by decide +kernel) rfl), (zin (i := 68) (by decide +kernel) rfl), (zin (i := 642) (by decide +kernel) rfl)⟩, rfl, by decide, by decide, by decide +kernel⟩
theorem zlv_X10_272 : zLV RX10 272 RX10 yX10_foldRow cX10_foldRow 8 (some .long) 2 := ⟨⟨(zin (i := 645) (by decide +kernel) rfl), (zin (i := 647) (by decide +kernel) rfl), (zin (i := 18) (by decide +kernel) rfl), (zin (i := 68) (by decide +kernel) rfl), (zin (i := 648) (by decide +kernel) rfl)⟩, rfl, by decide, by decide, by decide +kernel⟩
theorem zlv_X10_276 : zLV RX10 276 RX10 yX10_foldAnchors cX10_foldAnchors 7 (some .long) 1 := ⟨⟨(zin (i := 671) (by decide +kernel) rfl), (zin (i := 673) (by decide +kernel) rfl), (zin (i := 22) (by decide +kernel) rfl), (zin (i := 68) (by decide +kernel) rfl), (zin (i := 674) (by decide +kernel) rfl)⟩, rfl, by decide, by decide, by decide +kernel⟩
theorem zlv_X10_280 : zLV RX10 280 RX10 yX10_foldGaps cX10_foldGaps 7 (some .long) 1 := ⟨⟨(zin (i := 683) (by decide +kernel) rfl), (zin (i := 685) (by decide +kernel) rfl), (zin (i := 23) (by decide +kernel) rfl), (zin (i := 68) (by decide +kernel) rfl), (zin (i := 686) (by decide +kernel) rfl)⟩, rfl, by decide, by decide, by decide +kernel⟩
theorem zlv_X10_287 : zLV RX10 287 RX6 yX6_has cX6_has 2 (some .boolean) 1 := ⟨⟨(zin (i := 695) (by decide +kernel) rfl), (zin (i := 696) (by decide +kernel) rfl), (zin (i := 697) (by decide +kernel) rfl), (zin (i := 70) (by decide +kernel) rfl), (zin (i := 698) (by decide +kernel) rfl)⟩, rfl, by decide, by decide, by decide +kernel⟩
theorem zls_X10_290 : zLS RX10 290 yX10_bitsOfShare cX10_bitsOfShare 8 (some .long) 1 := ⟨⟨(zin (i := 704) (by decide +kernel) rfl), (zin (i := 705) (by decide +kernel) rfl), (zin (i := 68) (by decide +kernel) rfl), (zin (i := 706) (by decide +kernel) rfl)⟩, rfl, by decide, by decide, by decide +kernel⟩
theorem zlv_X10_294 : zLV RX10 294 RX10 yX10_foldText cX10_foldText 6 (some .long) 1 := ⟨⟨(zin (i := 709) (by decide +kernel) rfl), (zin (i := 711) (by decide +kernel) rfl), (zin (i := 26) (by decide +kernel) rfl), (zin (i := 68) (by decide +kernel) rfl), (zin (i := 712) (by decide +kernel) rfl)⟩, rfl, by decide, by decide, by decide +kernel⟩
theorem zlv_X10_297 : zLV RX10 297 RX4 yX4_save cX4_save 2 none 1 := ⟨⟨(zin (i := 386) (by decide +kernel) rfl), (zin (i := 387) (by decide +kernel) rfl), (zin (i := 388) (by decide +kernel) rfl), (zin (i := 72) (by decide +kernel) rfl), (zin (i := 389) (by decide +kernel) rfl)⟩, rfl, by decide, by decide, by decide +kernel⟩
theorem zlv_X10_300 : zLV RX10 300 RX5 yX5_build cX5_build 7 (some .int) 1 := ⟨⟨(zin (i := 420) (by decide +kernel) rfl), (zin (i := 421) (by decide +kernel) rfl), (zin (i := 422) (by decide +kernel) rfl), (zin (i := 74) (by decide +kernel) rfl), (zin (i := 423) (by decide +kernel) rfl)⟩, rfl, by decide, by decide, by decide +kernel⟩
theorem zlv_X10_304 : zLV RX10 304 RX9 yX9_find cX9_find 5 none 1 := ⟨⟨(zin (i := 538) (by decide +kernel) rfl), (zin (i := 539) (by decide +kernel) rfl), (zin (i := 540) (by decide +kernel) rfl), (zin (i := 78) (by decide +kernel) rfl), (zin (i := 541) (by decide +kernel) rfl)⟩, rfl, by decide, by decide, by decide +kernel⟩
theorem zlv_X10_323 : zLV RX10 323 RX5 yX5_freeCost cX5_freeCost 2 (some .int) 1 := ⟨⟨(zin (i := 624) (by decide +kernel) rfl), (zin (i := 625) (by decide +kernel) rfl), (zin (i := 626) (by decide +kernel) rfl), (zin (i := 74) (by decide +kernel) rfl), (zin (i := 627) (by decide +kernel) rfl)⟩, rfl, by decide, by decide, by decide +kernel⟩
theorem zlv_X10_332 : zLV RX10 332 RX5 yX5_likePairs cX5_likePairs 5 (some .int) 1 := ⟨⟨(zin (i := 608) (by decide +kernel) rfl), (zin (i := 609) (by decide +kernel) rfl), (zin (i := 610) (by decide +kernel) rfl), (zin (i := 74) (by decide +kernel) rfl), (zin (i := 611) (by decide +kernel) rfl)⟩, rfl, by decide, by decide, by decide +kernel⟩
theorem zlv_X10_335 : zLV RX10 335 RX5 yX5_leftOut cX5_leftOut 5 (some .int) 2 := ⟨⟨(zin (i := 628) (by decide +kernel) rfl), (zin (i := 629) (by decide +kernel) rfl), (zin (i := 630) (by decide +kernel) rfl), (zin (i := 74) (by decide +kernel) rfl), (zin (i := 631) (by decide +kernel) rfl)⟩, rfl, by decide, by decide, by decide +kernel⟩
theorem zlv_X10_340 : zLV RX10 340 RX7 yX7_takeAll cX7_takeAll 3 none 1 := ⟨⟨(zin (i := 581) (by decide +kernel) rfl), (zin (i := 582) (by decide +kernel) rfl), (zin (i := 583) (by decide +kernel) rfl), (zin (i := 69) (by decide +kernel) rfl), (zin (i := 584) (by decide +kernel) rfl)⟩, rfl, by decide, by decide, by decide +kernel⟩
theorem zlv_X10_345 : zLV RX10 345 RX8 yX8_codeAt cX8_codeAt 2 (some .int) 1 := ⟨⟨(zin (i := 713) (by decide +kernel) rfl), (zin (i := 714) (by decide +kernel) rfl), (zin (i := 715) (by decide +kernel) rfl), (zin (i := 73) (by decide +kernel) rfl), (zin (i := 716) (by decide +kernel) rfl)⟩, rfl, by decide, by decide, by decide +kernel⟩
theorem zls_X11_77 : zLS RX11 77 yX11_within cX11_within 3 (some .boolean) 3 := ⟨⟨(zin (i := 1165) (by decide +kernel) rfl), (zin (i := 1166) (by decide +kernel) rfl), (zin (i := 79) (by decide +kernel) rfl), (zin (i := 1167) (by decide +kernel) rfl)⟩, rfl, by decide, by decide, by decide +kernel⟩
theorem zls_X11_81 : zLS RX11 81 yX11_isRow cX11_isRow 1 (some .boolean) 1 := ⟨⟨(zin (i := 1162) (by decide +kernel) rfl), (zin (i := 1163) (by decide +kernel) rfl), (zin (i := 79) (by decide +kernel) rfl), (zin (i := 1164) (by decide +kernel) rfl)⟩, rfl, by decide, by decide, by decide +kernel⟩
theorem zlv_X11_85 : zLV RX11 85 RX11 yX11_signs cX11_signs 2 (some .int) 1 := ⟨⟨(zin (i := 1168) (by decide +kernel) rfl), (zin (i := 1170) (by decide +kernel) rfl), (zin (i := 30) (by decide +kernel) rfl), (zin (i := 79) (by decide +kernel) rfl), (zin (i := 1171) (by decide +kernel) rfl)⟩, rfl, by decide, by decide, by decide +kernel⟩
theorem zlv_X11_89 : zLV RX11 89 RX11 yX11_at cX11_at 3 (some .int) 2 := ⟨⟨(zin (i := 1179) (by decide +kernel) rfl), (zin (i := 1181) (by decide +kernel) rfl), (zin (i := 32) (by decide +kernel) rfl), (zin (i := 79) (by decide +kernel) rfl), (zin (i := 1182) (by decide +kernel) rfl)⟩, rfl, by decide, by decide, by decide +kernel⟩
theorem zlv_X11_93 : zLV RX11 93 RX11 yX11_stands cX11_stands 7 (some .boolean) 4 := ⟨⟨(zin (i := 1219) (by decide +kernel) rfl), (zin (i := 1221) (by decide +kernel) rfl), (zin (i := 37) (by decide +kernel) rfl), (zin (i := 79) (by decide +kernel) rfl), (zin (i := 1222) (by decide +kernel) rfl)⟩, rfl, by decide, by decide, by decide +kernel⟩
theorem zlv_X11_103 : zLV RX11 103 RX11 yX11_onlyPlace cX11_onlyPlace 7 (some .int) 3 := ⟨⟨(zin (i := 1215) (by decide +kernel) rfl), (zin (i := 1217) (by decide +kernel) rfl), (zin (i := 36) (by decide +kernel) rfl), (zin (i := 79) (by decide +kernel) rfl), (zin (i := 1218) (by decide +kernel) rfl)⟩, rfl, by decide, by decide, by decide +kernel⟩
theorem zlv_X11_107 : zLV RX11 107 RX11 yX11_layAnchors cX11_layAnchors 5 none 0 := ⟨⟨(zin (i := 1211) (by decide +kernel) rfl), (zin (i := 1213) (by decide +kernel) rfl), (zin (i := 35) (by decide +kernel) rfl), (zin (i := 79) (by decide +kernel) rfl), (zin (i := 1214) (by decide +kernel) rfl)⟩, rfl, by decide, by decide, by decide +kernel⟩
theorem zlv_X11_110 : zLV RX11 110 RX11 yX11_fit cX11_fit 6 (some .boolean) 2 := ⟨⟨(zin (i := 1288) (by decide +kernel) rfl), (zin (i := 1290) (by decide +kernel) rfl), (zin (i := 42) (by decide +kernel) rfl), (zin (i := 79) (by decide +kernel) rfl), (zin (i := 1291) (by decide +kernel) rfl)⟩, rfl, by decide, by decide, by decide +kernel⟩
theorem zlv_X11_118 : zLV RX11 118 RX11 yX11_lineUp cX11_lineUp 3 none 2 := ⟨⟨(zin (i := 1332) (by decide +kernel) rfl), (zin (i := 1334) (by decide +kernel) rfl), (zin (i := 50) (by decide +kernel) rfl), (zin (i := 79) (by decide +kernel) rfl), (zin (i := 1335) (by decide +kernel) rfl)⟩, rfl, by decide, by decide, by decide +kernel⟩
theorem zls_X11_125 : zLS RX11 125 yX11_bandFor cX11_bandFor 4 (some .int) 3 := ⟨⟨(zin (i := 1320) (by decide +kernel) rfl), (zin (i := 1321) (by decide +kernel) rfl), (zin (i := 79) (by decide +kernel) rfl), (zin (i := 1322) (by decide +kernel) rfl)⟩, rfl, by decide, by decide, by decide +kernel⟩
theorem zlv_X11_129 : zLV RX11 129 RX11 yX11_layLeast cX11_layLeast 12 none 5 := ⟨⟨(zin (i := 1323) (by decide +kernel) rfl), (zin (i := 1325) (by decide +kernel) rfl), (zin (i := 48) (by decide +kernel) rfl), (zin (i := 79) (by decide +kernel) rfl), (zin (i := 1326) (by decide +kernel) rfl)⟩, rfl, by decide, by decide, by decide +kernel⟩
theorem zlv_X11_133 : zLV RX11 133 RX11 yX11_goBack cX11_goBack 10 none 4 := ⟨⟨(zin (i := 1328) (by decide +kernel) rfl), (zin (i := 1330) (by decide +kernel) rfl), (zin (i := 49) (by decide +kernel) rfl), (zin (i := 79) (by decide +kernel) rfl), (zin (i := 1331) (by decide +kernel) rfl)⟩, rfl, by decide, by decide, by decide +kernel⟩
theorem zlv_X11_137 : zLV RX11 137 RX11 yX11_layChain cX11_layChain 4 none 0 := ⟨⟨(zin (i := 1284) (by decide +kernel) rfl), (zin (i := 1286) (by decide +kernel) rfl), (zin (i := 41) (by decide +kernel) rfl), (zin (i := 79) (by decide +kernel) rfl), (zin (i := 1287) (by decide +kernel) rfl)⟩, rfl, by decide, by decide, by decide +kernel⟩
theorem zlv_X11_140 : zLV RX11 140 RX11 yX11_addGap cX11_addGap 5 none 4 := ⟨⟨(zin (i := 1316) (by decide +kernel) rfl), (zin (i := 1318) (by decide +kernel) rfl), (zin (i := 47) (by decide +kernel) rfl), (zin (i := 79) (by decide +kernel) rfl), (zin (i := 1319) (by decide +kernel) rfl)⟩, rfl, by decide, by decide, by decide +kernel⟩
theorem zlv_X11_143 : zLV RX11 143 RX11 yX11_layAll cX11_layAll 7 none 0 := ⟨⟨(zin (i := 1312) (by decide +kernel) rfl), (zin (i := 1314) (by decide +kernel) rfl), (zin (i := 46) (by decide +kernel) rfl), (zin (i := 79) (by decide +kernel) rfl), (zin (i := 1315) (by decide +kernel) rfl)⟩, rfl, by decide, by decide, by decide +kernel⟩
theorem zls_X11_146 : zLS RX11 146 yX11_isSign cX11_isSign 1 (some .boolean) 1 := ⟨⟨(zin (i := 1172) (by decide +kernel) rfl), (zin (i := 1173) (by decide +kernel) rfl), (zin (i := 79) (by decide +kernel) rfl), (zin (i := 1174) (by decide +kernel) rfl)⟩, rfl, by decide, by decide, by decide +kernel⟩
theorem zlv_X11_149 : zLV RX11 149 RX11 yX11_save cX11_save 2 none 0 := ⟨⟨(zin (i := 1175) (by decide +kernel) rfl), (zin (i := 1177) (by decide +kernel) rfl), (zin (i := 31) (by decide +kernel) rfl), (zin (i := 79) (by decide +kernel) rfl), (zin (i := 1178) (by decide +kernel) rfl)⟩, rfl, by decide, by decide, by decide +kernel⟩
theorem zlv_X11_152 : zLV RX11 152 RX11 yX11_lay cX11_lay 4 none 3 := ⟨⟨(zin (i := 1183) (by decide +kernel) rfl), (zin (i := 1185) (by decide +kernel) rfl), (zin (i := 33) (by decide +kernel) rfl), (zin (i := 79) (by decide +kernel) rfl), (zin (i := 1186) (by decide +kernel) rfl)⟩, rfl, by decide, by decide, by decide +kernel⟩
theorem zlv_X11_156 : zLV RX11 156 RX11 yX11_isPlace cX11_isPlace 3 (some .boolean) 2 := ⟨⟨(zin (i := 1191) (by decide +kernel) rfl), (zin (i := 1193) (by decide +kernel) rfl), (zin (i := 34) (by decide +kernel) rfl), (zin (i := 79) (by decide +kernel) rfl), (zin (i := 1194) (by decide +kernel) rfl)⟩, rfl, by decide, by decide, by decide +kernel⟩
theorem zls_X11_159 : zLS RX11 159 yX11_isSetting cX11_isSetting 1 (some .boolean) 1 := ⟨⟨(zin (i := 1227) (by decide +kernel) rfl), (zin (i := 1228) (by decide +kernel) rfl), (zin (i := 79) (by decide +kernel) rfl), (zin (i := 1229) (by decide +kernel) rfl)⟩, rfl, by decide, by decide, by decide +kernel⟩
theorem zls_X11_162 : zLS RX11 162 yX11_isValue cX11_isValue 2 (some .boolean) 2 := ⟨⟨(zin (i := 1230) (by decide +kernel) rfl), (zin (i := 1231) (by decide +kernel) rfl), (zin (i := 79) (by decide +kernel) rfl), (zin (i := 1232) (by decide +kernel) rfl)⟩, rfl, by decide, by decide, by decide +kernel⟩
theorem zlv_X11_175 : zLV RX11 175 RX11 yX11_takes cX11_takes 7 (some .boolean) 1 := ⟨⟨(zin (i := 1249) (by decide +kernel) rfl), (zin (i := 1251) (by decide +kernel) rfl), (zin (i := 39) (by decide +kernel) rfl), (zin (i := 79) (by decide +kernel) rfl), (zin (i := 1252) (by decide +kernel) rfl)⟩, rfl, by decide, by decide, by decide +kernel⟩
theorem zlv_X11_178 : zLV RX11 178 RX11 yX11_rightUpTo cX11_rightUpTo 2 (some .int) 0 := ⟨⟨(zin (i := 1245) (by decide +kernel) rfl), (zin (i := 1247) (by decide +kernel) rfl), (zin (i := 38) (by decide +kernel) rfl), (zin (i := 79) (by decide +kernel) rfl), (zin (i := 1248) (by decide +kernel) rfl)⟩, rfl, by decide, by decide, by decide +kernel⟩
theorem zls_X11_182 : zLS RX11 182 yX11_isSnapshot cX11_isSnapshot 1 (some .boolean) 1 := ⟨⟨(zin (i := 1261) (by decide +kernel) rfl), (zin (i := 1262) (by decide +kernel) rfl), (zin (i := 79) (by decide +kernel) rfl), (zin (i := 1263) (by decide +kernel) rfl)⟩, rfl, by decide, by decide, by decide +kernel⟩
theorem zlv_X11_185 : zLV RX11 185 RX11 yX11_anchorNow cX11_anchorNow 3 (some .int) 2 := ⟨⟨(zin (i := 1280) (by decide +kernel) rfl), (zin (i := 1282) (by decide +kernel) rfl), (zin (i := 40) (by decide +kernel) rfl), (zin (i := 79) (by decide +kernel) rfl), (zin (i := 1283) (by decide +kernel) rfl)⟩, rfl, by decide, by decide, by decide +kernel⟩
theorem zlv_X11_188 : zLV RX11 188 RX11 yX11_stretchOf cX11_stretchOf 4 (some .int) 1 := ⟨⟨(zin (i := 1300) (by decide +kernel) rfl), (zin (i := 1302) (by decide +kernel) rfl), (zin (i := 44) (by decide +kernel) rfl), (zin (i := 79) (by decide +kernel) rfl), (zin (i := 1303) (by decide +kernel) rfl)⟩, rfl, by decide, by decide, by decide +kernel⟩
theorem zlv_X11_191 : zLV RX11 191 RX11 yX11_turnedNow cX11_turnedNow 3 (some .int) 2 := ⟨⟨(zin (i := 1296) (by decide +kernel) rfl), (zin (i := 1298) (by decide +kernel) rfl), (zin (i := 43) (by decide +kernel) rfl), (zin (i := 79) (by decide +kernel) rfl), (zin (i := 1299) (by decide +kernel) rfl)⟩, rfl, by decide, by decide, by decide +kernel⟩
theorem zlv_X11_194 : zLV RX11 194 RX11 yX11_gapNow cX11_gapNow 3 (some .int) 2 := ⟨⟨(zin (i := 1308) (by decide +kernel) rfl), (zin (i := 1310) (by decide +kernel) rfl), (zin (i := 45) (by decide +kernel) rfl), (zin (i := 79) (by decide +kernel) rfl), (zin (i := 1311) (by decide +kernel) rfl)⟩, rfl, by decide, by decide, by decide +kernel⟩
theorem zlv_X11_197 : zLV RX11 197 RX11 yX11_partnerNow cX11_partnerNow 3 (some .int) 2 := ⟨⟨(zin (i := 1340) (by decide +kernel) rfl), (zin (i := 1342) (by decide +kernel) rfl), (zin (i := 51) (by decide +kernel) rfl), (zin (i := 79) (by decide +kernel) rfl), (zin (i := 1343) (by decide +kernel) rfl)⟩, rfl, by decide, by decide, by decide +kernel⟩
theorem zlv_X11_200 : zLV RX11 200 RX11 yX11_standings cX11_standings 8 (some .int) 3 := ⟨⟨(zin (i := 1352) (by decide +kernel) rfl), (zin (i := 1354) (by decide +kernel) rfl), (zin (i := 53) (by decide +kernel) rfl), (zin (i := 79) (by decide +kernel) rfl), (zin (i := 1355) (by decide +kernel) rfl)⟩, rfl, by decide, by decide, by decide +kernel⟩
theorem zlv_X11_203 : zLV RX11 203 RX11 yX11_doubledNow cX11_doubledNow 6 (some .int) 2 := ⟨⟨(zin (i := 1348) (by decide +kernel) rfl), (zin (i := 1350) (by decide +kernel) rfl), (zin (i := 52) (by decide +kernel) rfl), (zin (i := 79) (by decide +kernel) rfl), (zin (i := 1351) (by decide +kernel) rfl)⟩, rfl, by decide, by decide, by decide +kernel⟩
theorem zlv_X11_206 : zLV RX11 206 RX11 yX11_costNow cX11_costNow 3 (some .int) 0 := ⟨⟨(zin (i := 1364) (by decide +kernel) rfl), (zin (i := 1366) (by decide +kernel) rfl), (zin (i := 55) (by decide +kernel) rfl), (zin (i := 79) (by decide +kernel) rfl), (zin (i := 1367) (by decide +kernel) rfl)⟩, rfl, by decide, by decide, by decide +kernel⟩
theorem zlv_X11_209 : zLV RX11 209 RX11 yX11_freeCost cX11_freeCost 1 (some .int) 0 := ⟨⟨(zin (i := 1368) (by decide +kernel) rfl), (zin (i := 1370) (by decide +kernel) rfl), (zin (i := 56) (by decide +kernel) rfl), (zin (i := 79) (by decide +kernel) rfl), (zin (i := 1371) (by decide +kernel) rfl)⟩, rfl, by decide, by decide, by decide +kernel⟩
theorem zlv_X11_212 : zLV RX11 212 RX11 yX11_turnedStretches cX11_turnedStretches 7 (some .int) 1 := ⟨⟨(zin (i := 1372) (by decide +kernel) rfl), (zin (i := 1374) (by decide +kernel) rfl), (zin (i := 57) (by decide +kernel) rfl), (zin (i := 79) (by decide +kernel) rfl), (zin (i := 1375) (by decide +kernel) rfl)⟩, rfl, by decide, by decide, by decide +kernel⟩
theorem zlv_X11_216 : zLV RX11 216 RX11 yX11_likeOnes cX11_likeOnes 3 (some .int) 0 := ⟨⟨(zin (i := 1376) (by decide +kernel) rfl), (zin (i := 1378) (by decide +kernel) rfl), (zin (i := 58) (by decide +kernel) rfl), (zin (i := 79) (by decide +kernel) rfl), (zin (i := 1379) (by decide +kernel) rfl)⟩, rfl, by decide, by decide, by decide +kernel⟩
theorem zlv_X11_219 : zLV RX11 219 RX11 yX11_leftOut cX11_leftOut 4 (some .int) 1 := ⟨⟨(zin (i := 1380) (by decide +kernel) rfl), (zin (i := 1382) (by decide +kernel) rfl), (zin (i := 59) (by decide +kernel) rfl), (zin (i := 79) (by decide +kernel) rfl), (zin (i := 1383) (by decide +kernel) rfl)⟩, rfl, by decide, by decide, by decide +kernel⟩
theorem zlv_X11_222 : zLV RX11 222 RX11 yX11_laidCount cX11_laidCount 2 (some .int) 1 := ⟨⟨(zin (i := 1384) (by decide +kernel) rfl), (zin (i := 1386) (by decide +kernel) rfl), (zin (i := 60) (by decide +kernel) rfl), (zin (i := 79) (by decide +kernel) rfl), (zin (i := 1387) (by decide +kernel) rfl)⟩, rfl, by decide, by decide, by decide +kernel⟩
theorem zlv_X11_225 : zLV RX11 225 RX11 yX11_counted cX11_counted 2 (some .int) 1 := ⟨⟨(zin (i := 1360) (by decide +kernel) rfl), (zin (i := 1362) (by decide +kernel) rfl), (zin (i := 54) (by decide +kernel) rfl), (zin (i := 79) (by decide +kernel) rfl), (zin (i := 1363) (by decide +kernel) rfl)⟩, rfl, by decide, by decide, by decide +kernel⟩
theorem zlv_X11_228 : zLV RX11 228 RX11 yX11_setThen cX11_setThen 5 (some .int) 2 := ⟨⟨(zin (i := 1396) (by decide +kernel) rfl), (zin (i := 1398) (by decide +kernel) rfl), (zin (i := 61) (by decide +kernel) rfl), (zin (i := 79) (by decide +kernel) rfl), (zin (i := 1399) (by decide +kernel) rfl)⟩, rfl, by decide, by decide, by decide +kernel⟩
theorem zlv_X11_231 : zLV RX11 231 RX11 yX11_changedThen cX11_changedThen 6 (some .int) 3 := ⟨⟨(zin (i := 1404) (by decide +kernel) rfl), (zin (i := 1406) (by decide +kernel) rfl), (zin (i := 62) (by decide +kernel) rfl), (zin (i := 79) (by decide +kernel) rfl), (zin (i := 1407) (by decide +kernel) rfl)⟩, rfl, by decide, by decide, by decide +kernel⟩
theorem zlv_X11_234 : zLV RX11 234 RX11 yX11_bestNow cX11_bestNow 5 (some .int) 0 := ⟨⟨(zin (i := 1412) (by decide +kernel) rfl), (zin (i := 1414) (by decide +kernel) rfl), (zin (i := 63) (by decide +kernel) rfl), (zin (i := 79) (by decide +kernel) rfl), (zin (i := 1415) (by decide +kernel) rfl)⟩, rfl, by decide, by decide, by decide +kernel⟩
theorem zlv_X11_239 : zLV RX11 239 RX11 yX11_share cX11_share 2 (some .double) 0 := ⟨⟨(zin (i := 1420) (by decide +kernel) rfl), (zin (i := 1422) (by decide +kernel) rfl), (zin (i := 64) (by decide +kernel) rfl), (zin (i := 79) (by decide +kernel) rfl), (zin (i := 1423) (by decide +kernel) rfl)⟩, rfl, by decide, by decide, by decide +kernel⟩
theorem zlv_X11_249 : zLV RX11 249 RX11 yX11_mix cX11_mix 3 none 1 := ⟨⟨(zin (i := 1430) (by decide +kernel) rfl), (zin (i := 1432) (by decide +kernel) rfl), (zin (i := 65) (by decide +kernel) rfl), (zin (i := 79) (by decide +kernel) rfl), (zin (i := 1433) (by decide +kernel) rfl)⟩, rfl, by decide, by decide, by decide +kernel⟩
theorem zlv_X11_255 : zLV RX11 255 RX11 yX11_mixRow cX11_mixRow 3 none 1 := ⟨⟨(zin (i := 1435) (by decide +kernel) rfl), (zin (i := 1437) (by decide +kernel) rfl), (zin (i := 66) (by decide +kernel) rfl), (zin (i := 79) (by decide +kernel) rfl), (zin (i := 1438) (by decide +kernel) rfl)⟩, rfl, by decide, by decide, by decide +kernel⟩
theorem zlv_X2_33 : zLV RX2 33 RX2 yX2_countUpTo cX2_countUpTo 5 none 1 := ⟨⟨(zin (i := 454) (by decide +kernel) rfl), (zin (i := 456) (by decide +kernel) rfl), (zin (i := 3) (by decide +kernel) rfl), (zin (i := 76) (by decide +kernel) rfl), (zin (i := 457) (by decide +kernel) rfl)⟩, rfl, by decide, by decide, by decide +kernel⟩
theorem zlv_X2_37 : zLV RX2 37 RX2 yX2_countFrom cX2_countFrom 5 none 1 := ⟨⟨(zin (i := 465) (by decide +kernel) rfl), (zin (i := 467) (by decide +kernel) rfl), (zin (i := 4) (by decide +kernel) rfl), (zin (i := 76) (by decide +kernel) rfl), (zin (i := 468) (by decide +kernel) rfl)⟩, rfl, by decide, by decide, by decide +kernel⟩
theorem zlv_X2_40 : zLV RX2 40 RX2 yX2_pick cX2_pick 6 none 1 := ⟨⟨(zin (i := 469) (by decide +kernel) rfl), (zin (i := 471) (by decide +kernel) rfl), (zin (i := 5) (by decide +kernel) rfl), (zin (i := 76) (by decide +kernel) rfl), (zin (i := 472) (by decide +kernel) rfl)⟩, rfl, by decide, by decide, by decide +kernel⟩
theorem zlv_X2_46 : zLV RX2 46 RX0 yX0_fit cX0_fit 5 (some .boolean) 2 := ⟨⟨(zin (i := 458) (by decide +kernel) rfl), (zin (i := 459) (by decide +kernel) rfl), (zin (i := 460) (by decide +kernel) rfl), (zin (i := 75) (by decide +kernel) rfl), (zin (i := 461) (by decide +kernel) rfl)⟩, rfl, by decide, by decide, by decide +kernel⟩
theorem zlv_X2_50 : zLV RX2 50 RX1 yX1_at cX1_at 2 (some .int) 1 := ⟨⟨(zin (i := 462) (by decide +kernel) rfl), (zin (i := 395) (by decide +kernel) rfl), (zin (i := 396) (by decide +kernel) rfl), (zin (i := 71) (by decide +kernel) rfl), (zin (i := 397) (by decide +kernel) rfl)⟩, rfl, by decide, by decide, by decide +kernel⟩
theorem zlv_X2_60 : zLV RX2 60 RX1 yX1_store cX1_store 3 none 2 := ⟨⟨(zin (i := 464) (by decide +kernel) rfl), (zin (i := 128) (by decide +kernel) rfl), (zin (i := 129) (by decide +kernel) rfl), (zin (i := 71) (by decide +kernel) rfl), (zin (i := 130) (by decide +kernel) rfl)⟩, rfl, by decide, by decide, by decide +kernel⟩
theorem zlv_X2_64 : zLV RX2 64 RX2 yX2_mostOfAll cX2_mostOfAll 4 (some .int) 1 := ⟨⟨(zin (i := 473) (by decide +kernel) rfl), (zin (i := 475) (by decide +kernel) rfl), (zin (i := 6) (by decide +kernel) rfl), (zin (i := 76) (by decide +kernel) rfl), (zin (i := 476) (by decide +kernel) rfl)⟩, rfl, by decide, by decide, by decide +kernel⟩
theorem zlv_X3_38 : zLV RX3 38 RX3 yX3_store cX3_store 5 none 4 := ⟨⟨(zin (i := 501) (by decide +kernel) rfl), (zin (i := 503) (by decide +kernel) rfl), (zin (i := 9) (by decide +kernel) rfl), (zin (i := 77) (by decide +kernel) rfl), (zin (i := 504) (by decide +kernel) rfl)⟩, rfl, by decide, by decide, by decide +kernel⟩
theorem zlv_X3_42 : zLV RX3 42 RX3 yX3_fillCell cX3_fillCell 10 none 3 := ⟨⟨(zin (i := 505) (by decide +kernel) rfl), (zin (i := 507) (by decide +kernel) rfl), (zin (i := 10) (by decide +kernel) rfl), (zin (i := 77) (by decide +kernel) rfl), (zin (i := 508) (by decide +kernel) rfl)⟩, rfl, by decide, by decide, by decide +kernel⟩
theorem zlv_X3_46 : zLV RX3 46 RX3 yX3_costAt cX3_costAt 3 (some .int) 2 := ⟨⟨(zin (i := 511) (by decide +kernel) rfl), (zin (i := 513) (by decide +kernel) rfl), (zin (i := 11) (by decide +kernel) rfl), (zin (i := 77) (by decide +kernel) rfl), (zin (i := 514) (by decide +kernel) rfl)⟩, rfl, by decide, by decide, by decide +kernel⟩
theorem zlv_X3_56 : zLV RX3 56 RX1 yX1_at cX1_at 2 (some .int) 1 := ⟨⟨(zin (i := 509) (by decide +kernel) rfl), (zin (i := 395) (by decide +kernel) rfl), (zin (i := 396) (by decide +kernel) rfl), (zin (i := 71) (by decide +kernel) rfl), (zin (i := 397) (by decide +kernel) rfl)⟩, rfl, by decide, by decide, by decide +kernel⟩
theorem zlv_X3_65 : zLV RX3 65 RX6 yX6_signAt cX6_signAt 2 (some .int) 1 := ⟨⟨(zin (i := 510) (by decide +kernel) rfl), (zin (i := 404) (by decide +kernel) rfl), (zin (i := 405) (by decide +kernel) rfl), (zin (i := 70) (by decide +kernel) rfl), (zin (i := 406) (by decide +kernel) rfl)⟩, rfl, by decide, by decide, by decide +kernel⟩
theorem zlv_X4_26 : zLV RX4 26 RX4 yX4_dropOldest cX4_dropOldest 2 none 0 := ⟨⟨(zin (i := 390) (by decide +kernel) rfl), (zin (i := 392) (by decide +kernel) rfl), (zin (i := 1) (by decide +kernel) rfl), (zin (i := 72) (by decide +kernel) rfl), (zin (i := 393) (by decide +kernel) rfl)⟩, rfl, by decide, by decide, by decide +kernel⟩
theorem zlv_X4_29 : zLV RX4 29 RX7 yX7_writeTo cX7_writeTo 4 none 2 := ⟨⟨(zin (i := 399) (by decide +kernel) rfl), (zin (i := 400) (by decide +kernel) rfl), (zin (i := 401) (by decide +kernel) rfl), (zin (i := 69) (by decide +kernel) rfl), (zin (i := 402) (by decide +kernel) rfl)⟩, rfl, by decide, by decide, by decide +kernel⟩
theorem zlv_X4_33 : zLV RX4 33 RX1 yX1_at cX1_at 2 (some .int) 1 := ⟨⟨(zin (i := 394) (by decide +kernel) rfl), (zin (i := 395) (by decide +kernel) rfl), (zin (i := 396) (by decide +kernel) rfl), (zin (i := 71) (by decide +kernel) rfl), (zin (i := 397) (by decide +kernel) rfl)⟩, rfl, by decide, by decide, by decide +kernel⟩
theorem zlv_X4_37 : zLV RX4 37 RX1 yX1_store cX1_store 3 none 2 := ⟨⟨(zin (i := 398) (by decide +kernel) rfl), (zin (i := 128) (by decide +kernel) rfl), (zin (i := 129) (by decide +kernel) rfl), (zin (i := 71) (by decide +kernel) rfl), (zin (i := 130) (by decide +kernel) rfl)⟩, rfl, by decide, by decide, by decide +kernel⟩
theorem zlv_X4_41 : zLV RX4 41 RX7 yX7_readFrom cX7_readFrom 4 none 2 := ⟨⟨(zin (i := 977) (by decide +kernel) rfl), (zin (i := 978) (by decide +kernel) rfl), (zin (i := 979) (by decide +kernel) rfl), (zin (i := 69) (by decide +kernel) rfl), (zin (i := 980) (by decide +kernel) rfl)⟩, rfl, by decide, by decide, by decide +kernel⟩
theorem zlv_X5_54 : zLV RX5 54 RX0 yX0_find cX0_find 8 none 2 := ⟨⟨(zin (i := 424) (by decide +kernel) rfl), (zin (i := 425) (by decide +kernel) rfl), (zin (i := 426) (by decide +kernel) rfl), (zin (i := 75) (by decide +kernel) rfl), (zin (i := 427) (by decide +kernel) rfl)⟩, rfl, by decide, by decide, by decide +kernel⟩
theorem zlv_X5_58 : zLV RX5 58 RX2 yX2_find cX2_find 2 none 1 := ⟨⟨(zin (i := 450) (by decide +kernel) rfl), (zin (i := 451) (by decide +kernel) rfl), (zin (i := 452) (by decide +kernel) rfl), (zin (i := 76) (by decide +kernel) rfl), (zin (i := 453) (by decide +kernel) rfl)⟩, rfl, by decide, by decide, by decide +kernel⟩
theorem zlv_X5_61 : zLV RX5 61 RX5 yX5_forget cX5_forget 2 none 0 := ⟨⟨(zin (i := 477) (by decide +kernel) rfl), (zin (i := 479) (by decide +kernel) rfl), (zin (i := 7) (by decide +kernel) rfl), (zin (i := 74) (by decide +kernel) rfl), (zin (i := 480) (by decide +kernel) rfl)⟩, rfl, by decide, by decide, by decide +kernel⟩
theorem zlv_X5_73 : zLV RX5 73 RX1 yX1_at cX1_at 2 (some .int) 1 := ⟨⟨(zin (i := 482) (by decide +kernel) rfl), (zin (i := 395) (by decide +kernel) rfl), (zin (i := 396) (by decide +kernel) rfl), (zin (i := 71) (by decide +kernel) rfl), (zin (i := 397) (by decide +kernel) rfl)⟩, rfl, by decide, by decide, by decide +kernel⟩
theorem zlv_X5_80 : zLV RX5 80 RX5 yX5_closeGap cX5_closeGap 11 none 5 := ⟨⟨(zin (i := 483) (by decide +kernel) rfl), (zin (i := 485) (by decide +kernel) rfl), (zin (i := 8) (by decide +kernel) rfl), (zin (i := 74) (by decide +kernel) rfl), (zin (i := 486) (by decide +kernel) rfl)⟩, rfl, by decide, by decide, by decide +kernel⟩
theorem zlv_X5_84 : zLV RX5 84 RX5 yX5_pairWord cX5_pairWord 4 none 2 := ⟨⟨(zin (i := 530) (by decide +kernel) rfl), (zin (i := 532) (by decide +kernel) rfl), (zin (i := 14) (by decide +kernel) rfl), (zin (i := 74) (by decide +kernel) rfl), (zin (i := 533) (by decide +kernel) rfl)⟩, rfl, by decide, by decide, by decide +kernel⟩
theorem zlv_X5_97 : zLV RX5 97 RX6 yX6_size cX6_size 1 (some .int) 0 := ⟨⟨(zin (i := 534) (by decide +kernel) rfl), (zin (i := 535) (by decide +kernel) rfl), (zin (i := 536) (by decide +kernel) rfl), (zin (i := 70) (by decide +kernel) rfl), (zin (i := 537) (by decide +kernel) rfl)⟩, rfl, by decide, by decide, by decide +kernel⟩
theorem zlv_X5_106 : zLV RX5 106 RX1 yX1_store cX1_store 3 none 2 := ⟨⟨(zin (i := 481) (by decide +kernel) rfl), (zin (i := 128) (by decide +kernel) rfl), (zin (i := 129) (by decide +kernel) rfl), (zin (i := 71) (by decide +kernel) rfl), (zin (i := 130) (by decide +kernel) rfl)⟩, rfl, by decide, by decide, by decide +kernel⟩
theorem zlv_X5_109 : zLV RX5 109 RX5 yX5_pairPlaces cX5_pairPlaces 3 none 2 := ⟨⟨(zin (i := 526) (by decide +kernel) rfl), (zin (i := 528) (by decide +kernel) rfl), (zin (i := 13) (by decide +kernel) rfl), (zin (i := 74) (by decide +kernel) rfl), (zin (i := 529) (by decide +kernel) rfl)⟩, rfl, by decide, by decide, by decide +kernel⟩
theorem zlv_X5_112 : zLV RX5 112 RX3 yX3_layParts cX3_layParts 5 none 4 := ⟨⟨(zin (i := 487) (by decide +kernel) rfl), (zin (i := 488) (by decide +kernel) rfl), (zin (i := 489) (by decide +kernel) rfl), (zin (i := 77) (by decide +kernel) rfl), (zin (i := 490) (by decide +kernel) rfl)⟩, rfl, by decide, by decide, by decide +kernel⟩
theorem zlv_X5_128 : zLV RX5 128 RX3 yX3_fill cX3_fill 5 (some .int) 2 := ⟨⟨(zin (i := 495) (by decide +kernel) rfl), (zin (i := 496) (by decide +kernel) rfl), (zin (i := 497) (by decide +kernel) rfl), (zin (i := 77) (by decide +kernel) rfl), (zin (i := 498) (by decide +kernel) rfl)⟩, rfl, by decide, by decide, by decide +kernel⟩
theorem zlv_X5_132 : zLV RX5 132 RX5 yX5_pairGap cX5_pairGap 5 none 0 := ⟨⟨(zin (i := 518) (by decide +kernel) rfl), (zin (i := 520) (by decide +kernel) rfl), (zin (i := 12) (by decide +kernel) rfl), (zin (i := 74) (by decide +kernel) rfl), (zin (i := 521) (by decide +kernel) rfl)⟩, rfl, by decide, by decide, by decide +kernel⟩
theorem zlv_X5_141 : zLV RX5 141 RX3 yX3_stepAt cX3_stepAt 3 (some .int) 2 := ⟨⟨(zin (i := 522) (by decide +kernel) rfl), (zin (i := 523) (by decide +kernel) rfl), (zin (i := 524) (by decide +kernel) rfl), (zin (i := 77) (by decide +kernel) rfl), (zin (i := 525) (by decide +kernel) rfl)⟩, rfl, by decide, by decide, by decide +kernel⟩
theorem zlv_X5_156 : zLV RX5 156 RX6 yX6_signAt cX6_signAt 2 (some .int) 1 := ⟨⟨(zin (i := 612) (by decide +kernel) rfl), (zin (i := 404) (by decide +kernel) rfl), (zin (i := 405) (by decide +kernel) rfl), (zin (i := 70) (by decide +kernel) rfl), (zin (i := 406) (by decide +kernel) rfl)⟩, rfl, by decide, by decide, by decide +kernel⟩
theorem zlv_X5_159 : zLV RX5 159 RX5 yX5_partnersOf cX5_partnersOf 2 (some (.object "AnchorChains$Cells")) 1 := ⟨⟨(zin (i := 632) (by decide +kernel) rfl), (zin (i := 633) (by decide +kernel) rfl), (zin (i := 634) (by decide +kernel) rfl), (zin (i := 74) (by decide +kernel) rfl), (zin (i := 635) (by decide +kernel) rfl)⟩, rfl, by decide, by decide, by decide +kernel⟩
theorem zlv_X6_19 : zLV RX6 19 RX6 yX6_write cX6_write 3 none 2 := ⟨⟨(zin (i := 593) (by decide +kernel) rfl), (zin (i := 413) (by decide +kernel) rfl), (zin (i := 414) (by decide +kernel) rfl), (zin (i := 70) (by decide +kernel) rfl), (zin (i := 415) (by decide +kernel) rfl)⟩, rfl, by decide, by decide, by decide +kernel⟩
theorem zlv_X6_23 : zLV RX6 23 RX6 yX6_signAt cX6_signAt 2 (some .int) 1 := ⟨⟨(zin (i := 440) (by decide +kernel) rfl), (zin (i := 404) (by decide +kernel) rfl), (zin (i := 405) (by decide +kernel) rfl), (zin (i := 70) (by decide +kernel) rfl), (zin (i := 406) (by decide +kernel) rfl)⟩, rfl, by decide, by decide, by decide +kernel⟩
theorem zlv_X6_27 : zLV RX6 27 RX6 yX6_has cX6_has 2 (some .boolean) 1 := ⟨⟨(zin (i := 853) (by decide +kernel) rfl), (zin (i := 696) (by decide +kernel) rfl), (zin (i := 697) (by decide +kernel) rfl), (zin (i := 70) (by decide +kernel) rfl), (zin (i := 698) (by decide +kernel) rfl)⟩, rfl, by decide, by decide, by decide +kernel⟩
theorem zlv_X6_37 : zLV RX6 37 RX6 yX6_wordAt cX6_wordAt 7 (some .int) 3 := ⟨⟨(zin (i := 436) (by decide +kernel) rfl), (zin (i := 437) (by decide +kernel) rfl), (zin (i := 438) (by decide +kernel) rfl), (zin (i := 70) (by decide +kernel) rfl), (zin (i := 439) (by decide +kernel) rfl)⟩, rfl, by decide, by decide, by decide +kernel⟩
theorem zlv_X6_41 : zLV RX6 41 RX1 yX1_store cX1_store 3 none 2 := ⟨⟨(zin (i := 441) (by decide +kernel) rfl), (zin (i := 128) (by decide +kernel) rfl), (zin (i := 129) (by decide +kernel) rfl), (zin (i := 71) (by decide +kernel) rfl), (zin (i := 130) (by decide +kernel) rfl)⟩, rfl, by decide, by decide, by decide +kernel⟩
theorem zlv_X6_46 : zLV RX6 46 RX6 yX6_alikeFrom cX6_alikeFrom 5 (some .int) 2 := ⟨⟨(zin (i := 663) (by decide +kernel) rfl), (zin (i := 665) (by decide +kernel) rfl), (zin (i := 20) (by decide +kernel) rfl), (zin (i := 70) (by decide +kernel) rfl), (zin (i := 666) (by decide +kernel) rfl)⟩, rfl, by decide, by decide, by decide +kernel⟩
theorem zlv_X6_49 : zLV RX6 49 RX6 yX6_againLength cX6_againLength 4 (some .int) 1 := ⟨⟨(zin (i := 659) (by decide +kernel) rfl), (zin (i := 661) (by decide +kernel) rfl), (zin (i := 19) (by decide +kernel) rfl), (zin (i := 70) (by decide +kernel) rfl), (zin (i := 662) (by decide +kernel) rfl)⟩, rfl, by decide, by decide, by decide +kernel⟩
theorem zlv_X6_52 : zLV RX6 52 RX6 yX6_placesOfStretch cX6_placesOfStretch 5 (some .int) 2 := ⟨⟨(zin (i := 667) (by decide +kernel) rfl), (zin (i := 669) (by decide +kernel) rfl), (zin (i := 21) (by decide +kernel) rfl), (zin (i := 70) (by decide +kernel) rfl), (zin (i := 670) (by decide +kernel) rfl)⟩, rfl, by decide, by decide, by decide +kernel⟩
theorem zlv_X7_30 : zLV RX7 30 RX1 yX1_store cX1_store 3 none 2 := ⟨⟨(zin (i := 127) (by decide +kernel) rfl), (zin (i := 128) (by decide +kernel) rfl), (zin (i := 129) (by decide +kernel) rfl), (zin (i := 71) (by decide +kernel) rfl), (zin (i := 130) (by decide +kernel) rfl)⟩, rfl, by decide, by decide, by decide +kernel⟩
theorem zlv_X7_34 : zLV RX7 34 RX6 yX6_size cX6_size 1 (some .int) 0 := ⟨⟨(zin (i := 607) (by decide +kernel) rfl), (zin (i := 535) (by decide +kernel) rfl), (zin (i := 536) (by decide +kernel) rfl), (zin (i := 70) (by decide +kernel) rfl), (zin (i := 537) (by decide +kernel) rfl)⟩, rfl, by decide, by decide, by decide +kernel⟩
theorem zlv_X7_42 : zLV RX7 42 RX6 yX6_signAt cX6_signAt 2 (some .int) 1 := ⟨⟨(zin (i := 403) (by decide +kernel) rfl), (zin (i := 404) (by decide +kernel) rfl), (zin (i := 405) (by decide +kernel) rfl), (zin (i := 70) (by decide +kernel) rfl), (zin (i := 406) (by decide +kernel) rfl)⟩, rfl, by decide, by decide, by decide +kernel⟩
theorem zlv_X7_46 : zLV RX7 46 RX6 yX6_write cX6_write 3 none 2 := ⟨⟨(zin (i := 412) (by decide +kernel) rfl), (zin (i := 413) (by decide +kernel) rfl), (zin (i := 414) (by decide +kernel) rfl), (zin (i := 70) (by decide +kernel) rfl), (zin (i := 415) (by decide +kernel) rfl)⟩, rfl, by decide, by decide, by decide +kernel⟩
theorem zlv_X7_49 : zLV RX7 49 RX6 yX6_takeRow cX6_takeRow 3 none 1 := ⟨⟨(zin (i := 589) (by decide +kernel) rfl), (zin (i := 590) (by decide +kernel) rfl), (zin (i := 591) (by decide +kernel) rfl), (zin (i := 70) (by decide +kernel) rfl), (zin (i := 592) (by decide +kernel) rfl)⟩, rfl, by decide, by decide, by decide +kernel⟩
theorem zlv_X7_53 : zLV RX7 53 RX7 yX7_takeRows cX7_takeRows 2 none 1 := ⟨⟨(zin (i := 585) (by decide +kernel) rfl), (zin (i := 586) (by decide +kernel) rfl), (zin (i := 587) (by decide +kernel) rfl), (zin (i := 69) (by decide +kernel) rfl), (zin (i := 588) (by decide +kernel) rfl)⟩, rfl, by decide, by decide, by decide +kernel⟩
theorem zlv_X7_57 : zLV RX7 57 RX1 yX1_at cX1_at 2 (some .int) 1 := ⟨⟨(zin (i := 407) (by decide +kernel) rfl), (zin (i := 395) (by decide +kernel) rfl), (zin (i := 396) (by decide +kernel) rfl), (zin (i := 71) (by decide +kernel) rfl), (zin (i := 397) (by decide +kernel) rfl)⟩, rfl, by decide, by decide, by decide +kernel⟩
theorem zlv_X8_24 : zLV RX8 24 RX1 yX1_at cX1_at 2 (some .int) 1 := ⟨⟨(zin (i := 566) (by decide +kernel) rfl), (zin (i := 395) (by decide +kernel) rfl), (zin (i := 396) (by decide +kernel) rfl), (zin (i := 71) (by decide +kernel) rfl), (zin (i := 397) (by decide +kernel) rfl)⟩, rfl, by decide, by decide, by decide +kernel⟩
theorem zlv_X8_28 : zLV RX8 28 RX1 yX1_store cX1_store 3 none 2 := ⟨⟨(zin (i := 913) (by decide +kernel) rfl), (zin (i := 128) (by decide +kernel) rfl), (zin (i := 129) (by decide +kernel) rfl), (zin (i := 71) (by decide +kernel) rfl), (zin (i := 130) (by decide +kernel) rfl)⟩, rfl, by decide, by decide, by decide +kernel⟩
theorem zls_X8_32 : zLS RX8 32 yX8_isLetter cX8_isLetter 1 (some .boolean) 1 := ⟨⟨(zin (i := 567) (by decide +kernel) rfl), (zin (i := 568) (by decide +kernel) rfl), (zin (i := 73) (by decide +kernel) rfl), (zin (i := 569) (by decide +kernel) rfl)⟩, rfl, by decide, by decide, by decide +kernel⟩
theorem zls_X8_36 : zLS RX8 36 yX8_isNumber cX8_isNumber 1 (some .boolean) 1 := ⟨⟨(zin (i := 570) (by decide +kernel) rfl), (zin (i := 571) (by decide +kernel) rfl), (zin (i := 73) (by decide +kernel) rfl), (zin (i := 572) (by decide +kernel) rfl)⟩, rfl, by decide, by decide, by decide +kernel⟩
theorem zlv_X8_39 : zLV RX8 39 RX8 yX8_faultPlace cX8_faultPlace 6 (some .int) 0 := ⟨⟨(zin (i := 925) (by decide +kernel) rfl), (zin (i := 563) (by decide +kernel) rfl), (zin (i := 564) (by decide +kernel) rfl), (zin (i := 73) (by decide +kernel) rfl), (zin (i := 565) (by decide +kernel) rfl)⟩, rfl, by decide, by decide, by decide +kernel⟩
theorem zlv_X8_49 : zLV RX8 49 RX6 yX6_clear cX6_clear 1 none 0 := ⟨⟨(zin (i := 931) (by decide +kernel) rfl), (zin (i := 932) (by decide +kernel) rfl), (zin (i := 933) (by decide +kernel) rfl), (zin (i := 70) (by decide +kernel) rfl), (zin (i := 934) (by decide +kernel) rfl)⟩, rfl, by decide, by decide, by decide +kernel⟩
theorem zlv_X8_57 : zLV RX8 57 RX6 yX6_extend cX6_extend 2 none 1 := ⟨⟨(zin (i := 935) (by decide +kernel) rfl), (zin (i := 882) (by decide +kernel) rfl), (zin (i := 883) (by decide +kernel) rfl), (zin (i := 70) (by decide +kernel) rfl), (zin (i := 884) (by decide +kernel) rfl)⟩, rfl, by decide, by decide, by decide +kernel⟩
theorem zls_X8_60 : zLS RX8 60 yX8_repeatLast cX8_repeatLast 4 none 2 := ⟨⟨(zin (i := 936) (by decide +kernel) rfl), (zin (i := 937) (by decide +kernel) rfl), (zin (i := 73) (by decide +kernel) rfl), (zin (i := 938) (by decide +kernel) rfl)⟩, rfl, by decide, by decide, by decide +kernel⟩
theorem zlv_X8_64 : zLV RX8 64 RX6 yX6_size cX6_size 1 (some .int) 0 := ⟨⟨(zin (i := 939) (by decide +kernel) rfl), (zin (i := 535) (by decide +kernel) rfl), (zin (i := 536) (by decide +kernel) rfl), (zin (i := 70) (by decide +kernel) rfl), (zin (i := 537) (by decide +kernel) rfl)⟩, rfl, by decide, by decide, by decide +kernel⟩
theorem zlv_X8_67 : zLV RX8 67 RX6 yX6_signAt cX6_signAt 2 (some .int) 1 := ⟨⟨(zin (i := 940) (by decide +kernel) rfl), (zin (i := 404) (by decide +kernel) rfl), (zin (i := 405) (by decide +kernel) rfl), (zin (i := 70) (by decide +kernel) rfl), (zin (i := 406) (by decide +kernel) rfl)⟩, rfl, by decide, by decide, by decide +kernel⟩
theorem zlv_X9_34 : zLV RX9 34 RX0 yX0_find cX0_find 8 none 2 := ⟨⟨(zin (i := 542) (by decide +kernel) rfl), (zin (i := 425) (by decide +kernel) rfl), (zin (i := 426) (by decide +kernel) rfl), (zin (i := 75) (by decide +kernel) rfl), (zin (i := 427) (by decide +kernel) rfl)⟩, rfl, by decide, by decide, by decide +kernel⟩
theorem zlv_X9_44 : zLV RX9 44 RX1 yX1_at cX1_at 2 (some .int) 1 := ⟨⟨(zin (i := 543) (by decide +kernel) rfl), (zin (i := 395) (by decide +kernel) rfl), (zin (i := 396) (by decide +kernel) rfl), (zin (i := 71) (by decide +kernel) rfl), (zin (i := 397) (by decide +kernel) rfl)⟩, rfl, by decide, by decide, by decide +kernel⟩
theorem zlv_X9_54 : zLV RX9 54 RX1 yX1_store cX1_store 3 none 2 := ⟨⟨(zin (i := 545) (by decide +kernel) rfl), (zin (i := 128) (by decide +kernel) rfl), (zin (i := 129) (by decide +kernel) rfl), (zin (i := 71) (by decide +kernel) rfl), (zin (i := 130) (by decide +kernel) rfl)⟩, rfl, by decide, by decide, by decide +kernel⟩
theorem zi_1 (x : Int32) : x + Int32.ofInt 1 = x + 1 := rfl
theorem zi_5 (x : Int32) : x + Int32.ofInt 5 = x + 5 := rfl
theorem zi_m1 (x : Int32) : x + Int32.ofInt (-1) = x - 1 := by rw [Int32.sub_eq_add_neg]; rfl
theorem zif_t {α : Type} {c : Prop} [Decidable c] {a b : Option α} {r : Option α} (h : (if c then a else b) = r) (hc : c) : a = r := by rw [if_pos hc] at h; exact h
theorem zif_f {α : Type} {c : Prop} [Decidable c] {a b : Option α} {r : Option α} (h : (if c then a else b) = r) (hc : ¬ c) : b = r := by rw [if_neg hc] at h; exact h
def zmax (x y : Int32) : Int32 := if x < y then y else x
def zmin (x y : Int32) : Int32 := if y < x then y else x
def zabs (x : Int32) : Int32 := if 0 ≤ x then x else 0 - x
theorem ztoInt {x : Int32} {k : Int32} {n : Int} (h : ¬ x = k) (hk : k.toInt = n) : ¬ x.toInt = n := fun q => h (Int32.toInt_inj.mp (q.trans hk.symm))
theorem ztab_3 {x : Int32} (h0 : ¬ x = (0 : Int32)) (h1 : ¬ x = (1 : Int32)) (h2 : ¬ x = (2 : Int32)) : x.toInt < 0 ∨ 2 < x.toInt := by
  have q0 := ztoInt h0 (show (0 : Int32).toInt = 0 by decide)
  have q1 := ztoInt h1 (show (1 : Int32).toInt = 1 by decide)
  have q2 := ztoInt h2 (show (2 : Int32).toInt = 2 by decide)
  omega
theorem ztab_4 {x : Int32} (h0 : ¬ x = (0 : Int32)) (h1 : ¬ x = (1 : Int32)) (h2 : ¬ x = (2 : Int32)) (h3 : ¬ x = (3 : Int32)) : x.toInt < 0 ∨ 3 < x.toInt := by
  have q0 := ztoInt h0 (show (0 : Int32).toInt = 0 by decide)
  have q1 := ztoInt h1 (show (1 : Int32).toInt = 1 by decide)
  have q2 := ztoInt h2 (show (2 : Int32).toInt = 2 by decide)
  have q3 := ztoInt h3 (show (3 : Int32).toInt = 3 by decide)
  omega
theorem ztab_15 {x : Int32} (h0 : ¬ x = (0 : Int32)) (h1 : ¬ x = (1 : Int32)) (h2 : ¬ x = (2 : Int32)) (h3 : ¬ x = (3 : Int32)) (h4 : ¬ x = (4 : Int32)) (h5 : ¬ x = (5 : Int32)) (h6 : ¬ x = (6 : Int32)) (h7 : ¬ x = (7 : Int32)) (h8 : ¬ x = (8 : Int32)) (h9 : ¬ x = (9 : Int32)) (h10 : ¬ x = (10 : Int32)) (h11 : ¬ x = (11 : Int32)) (h12 : ¬ x = (12 : Int32)) (h13 : ¬ x = (13 : Int32)) (h14 : ¬ x = (14 : Int32)) : x.toInt < 0 ∨ 14 < x.toInt := by
  have q0 := ztoInt h0 (show (0 : Int32).toInt = 0 by decide)
  have q1 := ztoInt h1 (show (1 : Int32).toInt = 1 by decide)
  have q2 := ztoInt h2 (show (2 : Int32).toInt = 2 by decide)
  have q3 := ztoInt h3 (show (3 : Int32).toInt = 3 by decide)
  have q4 := ztoInt h4 (show (4 : Int32).toInt = 4 by decide)
  have q5 := ztoInt h5 (show (5 : Int32).toInt = 5 by decide)
  have q6 := ztoInt h6 (show (6 : Int32).toInt = 6 by decide)
  have q7 := ztoInt h7 (show (7 : Int32).toInt = 7 by decide)
  have q8 := ztoInt h8 (show (8 : Int32).toInt = 8 by decide)
  have q9 := ztoInt h9 (show (9 : Int32).toInt = 9 by decide)
  have q10 := ztoInt h10 (show (10 : Int32).toInt = 10 by decide)
  have q11 := ztoInt h11 (show (11 : Int32).toInt = 11 by decide)
  have q12 := ztoInt h12 (show (12 : Int32).toInt = 12 by decide)
  have q13 := ztoInt h13 (show (13 : Int32).toInt = 13 by decide)
  have q14 := ztoInt h14 (show (14 : Int32).toInt = 14 by decide)
  omega
theorem zlook_2 {x : Int32} {a b d : Int} (h0 : ¬ x = (0 : Int32)) (h1 : ¬ x = (1 : Int32)) : Op.lookupswitch.offset [(0, a), (1, b)] d x.toInt = d := (lv_osw h0 (by decide)).trans ((lv_osw h1 (by decide)).trans rfl)
theorem zc_0 : zkd 0 = (10, 0) := by decide
theorem zc_1 : zkd 1 = (7, 0) := by decide
theorem zc_2 : zkd 2 = (6, 0) := by decide
theorem zc_3 : zkd 3 = (100, 24) := by decide
theorem zc_4 : zkd 4 = (6, 0) := by decide
theorem zc_5 : zkd 5 = (100, 24) := by decide
theorem zc_6 : zkd 6 = (1, 0) := by decide
theorem zc_7 : zkd 7 = (100, 4) := by decide
theorem zc_8 : zkd 8 = (7, 0) := by decide
theorem zc_9 : zkd 9 = (6, 0) := by decide
theorem zc_10 : zkd 10 = (100, 24) := by decide
theorem zc_11 : zkd 11 = (6, 0) := by decide
theorem zc_12 : zkd 12 = (100, 24) := by decide
theorem zc_13 : zkd 13 = (1, 0) := by decide
theorem zc_14 : zkd 14 = (100, 4) := by decide
theorem zc_15 : zkd 15 = (7, 0) := by decide
theorem zc_16 : zkd 16 = (6, 0) := by decide
theorem zc_17 : zkd 17 = (100, 24) := by decide
theorem zc_18 : zkd 18 = (6, 0) := by decide
theorem zc_19 : zkd 19 = (100, 24) := by decide
theorem zc_20 : zkd 20 = (1, 0) := by decide
theorem zc_21 : zkd 21 = (100, 4) := by decide
theorem zc_22 : zkd 22 = (7, 0) := by decide
theorem zc_23 : zkd 23 = (6, 0) := by decide
theorem zc_24 : zkd 24 = (100, 24) := by decide
theorem zc_25 : zkd 25 = (6, 0) := by decide
theorem zc_26 : zkd 26 = (100, 24) := by decide
theorem zc_27 : zkd 27 = (1, 0) := by decide
theorem zc_28 : zkd 28 = (100, 4) := by decide
theorem zc_29 : zkd 29 = (4, 0) := by decide
theorem zc_30 : zkd 30 = (1, 0) := by decide
theorem zc_31 : zkd 31 = (100, 324) := by decide
theorem zc_32 : zkd 32 = (8, 0) := by decide
theorem zc_33 : zkd 33 = (1, 0) := by decide
theorem zc_34 : zkd 34 = (100, 60) := by decide
theorem zc_35 : zkd 35 = (5, 0) := by decide
theorem zc_36 : zkd 36 = (0, 0) := by decide
theorem zc_37 : zkd 37 = (1, 0) := by decide
theorem zc_38 : zkd 38 = (100, 24) := by decide
theorem zc_39 : zkd 39 = (1, 0) := by decide
theorem zc_40 : zkd 40 = (100, 24) := by decide
theorem zc_41 : zkd 41 = (1, 0) := by decide
theorem zc_42 : zkd 42 = (100, 24) := by decide
theorem zc_43 : zkd 43 = (1, 0) := by decide
theorem zc_44 : zkd 44 = (100, 24) := by decide
theorem zc_45 : zkd 45 = (2, 0) := by decide
theorem zc_46 : zkd 46 = (1, 0) := by decide
theorem zc_47 : zkd 47 = (100, 24) := by decide
theorem zc_48 : zkd 48 = (1, 0) := by decide
theorem zc_49 : zkd 49 = (100, 24) := by decide
theorem zc_50 : zkd 50 = (1, 0) := by decide
theorem zc_51 : zkd 51 = (100, 24) := by decide
theorem zc_52 : zkd 52 = (1, 0) := by decide
theorem zc_53 : zkd 53 = (100, 24) := by decide
theorem zc_54 : zkd 54 = (3, 0) := by decide
theorem zc_55 : zkd 55 = (100, 625) := by decide
theorem zc_56 : zkd 56 = (100, 625) := by decide
theorem zc_57 : zkd 57 = (1, 0) := by decide
theorem zc_58 : zkd 58 = (100, 125) := by decide
theorem zc_59 : zkd 59 = (1, 0) := by decide
theorem zc_60 : zkd 60 = (100, 24) := by decide
theorem zc_61 : zkd 61 = (1, 0) := by decide
theorem zc_62 : zkd 62 = (100, 24) := by decide
theorem zc_63 : zkd 63 = (5, 0) := by decide
theorem zc_64 : zkd 64 = (0, 0) := by decide
theorem zc_65 : zkd 65 = (1, 0) := by decide
theorem zc_66 : zkd 66 = (100, 24) := by decide
theorem zc_67 : zkd 67 = (1, 0) := by decide
theorem zc_68 : zkd 68 = (100, 24) := by decide
theorem zc_69 : zkd 69 = (1, 0) := by decide
theorem zc_70 : zkd 70 = (100, 24) := by decide
theorem zc_71 : zkd 71 = (1, 0) := by decide
theorem zc_72 : zkd 72 = (100, 24) := by decide
theorem zc_73 : zkd 73 = (2, 0) := by decide
theorem zc_74 : zkd 74 = (1, 0) := by decide
theorem zc_75 : zkd 75 = (100, 24) := by decide
theorem zc_76 : zkd 76 = (1, 0) := by decide
theorem zc_77 : zkd 77 = (100, 24) := by decide
theorem zc_78 : zkd 78 = (1, 0) := by decide
theorem zc_79 : zkd 79 = (100, 24) := by decide
theorem zc_80 : zkd 80 = (1, 0) := by decide
theorem zc_81 : zkd 81 = (100, 24) := by decide
theorem zc_82 : zkd 82 = (3, 0) := by decide
theorem zc_83 : zkd 83 = (100, 625) := by decide
theorem zc_84 : zkd 84 = (100, 625) := by decide
theorem zc_85 : zkd 85 = (1, 0) := by decide
theorem zc_86 : zkd 86 = (100, 125) := by decide
theorem zc_87 : zkd 87 = (1, 0) := by decide
theorem zc_88 : zkd 88 = (100, 24) := by decide
theorem zc_89 : zkd 89 = (1, 0) := by decide
theorem zc_90 : zkd 90 = (100, 24) := by decide
theorem zc_91 : zkd 91 = (9, 0) := by decide
theorem zc_92 : zkd 92 = (0, 0) := by decide
theorem zc_93 : zkd 93 = (1, 0) := by decide
theorem zc_94 : zkd 94 = (100, 24) := by decide
theorem zc_95 : zkd 95 = (1, 0) := by decide
theorem zc_96 : zkd 96 = (100, 24) := by decide
theorem zc_97 : zkd 97 = (1, 0) := by decide
theorem zc_98 : zkd 98 = (100, 24) := by decide
theorem zc_99 : zkd 99 = (1, 0) := by decide
theorem zc_100 : zkd 100 = (100, 24) := by decide
theorem zc_101 : zkd 101 = (1, 0) := by decide
theorem zc_102 : zkd 102 = (100, 24) := by decide
theorem zc_103 : zkd 103 = (11, 0) := by decide
theorem zc_104 : zkd 104 = (100, 54) := by decide
theorem zc_105 : zkd 105 = (100, 324) := by decide
theorem zc_106 : zkd 106 = (100, 100) := by decide
theorem zc_107 : zkd 107 = (100, 2) := by decide
theorem zc_108 : zkd 108 = (100, 60) := by decide
theorem zc_109 : zkd 109 = (100, 24) := by decide
theorem zc_110 : zkd 110 = (100, 24) := by decide
theorem zc_111 : zkd 111 = (100, 24) := by decide
theorem zc_112 : zkd 112 = (100, 24) := by decide
theorem zc_113 : zkd 113 = (100, 24) := by decide
theorem zc_114 : zkd 114 = (100, 24) := by decide
theorem zc_115 : zkd 115 = (100, 24) := by decide
theorem zc_116 : zkd 116 = (100, 24) := by decide
theorem zc_117 : zkd 117 = (100, 50) := by decide
theorem zc_118 : zkd 118 = (100, 50) := by decide
theorem zc_119 : zkd 119 = (100, 25) := by decide
theorem zc_120 : zkd 120 = (100, 48) := by decide
theorem zc_121 : zkd 121 = (100, 625) := by decide
theorem zc_122 : zkd 122 = (100, 48) := by decide
theorem zc_123 : zkd 123 = (100, 2) := by decide
theorem zc_124 : zkd 124 = (101, 1) := by decide
theorem zs_0_0 {i : Nat} (h : zkd i = (0, 0)) : zkd (i + 1) = (1, 0) := (show ∀ i, i < 125 → zkd i = (0, 0) → zkd (i + 1) = (1, 0) by decide +kernel) i (zkd_lt h (by decide)) h
theorem zs_0_1 {i : Nat} (h : zkd i = (0, 0)) : zkd (i + 3) = (1, 0) := (show ∀ i, i < 125 → zkd i = (0, 0) → zkd (i + 3) = (1, 0) by decide +kernel) i (zkd_lt h (by decide)) h
theorem zs_0_4 {i : Nat} (h : zkd i = (0, 0)) : zkd (i + 5) = (1, 0) := (show ∀ i, i < 125 → zkd i = (0, 0) → zkd (i + 5) = (1, 0) by decide +kernel) i (zkd_lt h (by decide)) h
theorem zs_0_5 {i : Nat} (h : zkd i = (0, 0)) : zkd (i + 7) = (1, 0) := (show ∀ i, i < 125 → zkd i = (0, 0) → zkd (i + 7) = (1, 0) by decide +kernel) i (zkd_lt h (by decide)) h
theorem zs_1_0 {i : Nat} (h : zkd i = (1, 0)) : zkd (i + 1) = (100, (zkd (i + 1)).2) := (show ∀ i, i < 125 → zkd i = (1, 0) → zkd (i + 1) = (100, (zkd (i + 1)).2) by decide +kernel) i (zkd_lt h (by decide)) h
theorem zs_2_0 {i : Nat} (h : zkd i = (2, 0)) : zkd (i + 1) = (1, 0) := (show ∀ i, i < 125 → zkd i = (2, 0) → zkd (i + 1) = (1, 0) by decide +kernel) i (zkd_lt h (by decide)) h
theorem zs_2_1 {i : Nat} (h : zkd i = (2, 0)) : zkd (i + 3) = (1, 0) := (show ∀ i, i < 125 → zkd i = (2, 0) → zkd (i + 3) = (1, 0) by decide +kernel) i (zkd_lt h (by decide)) h
theorem zs_2_2 {i : Nat} (h : zkd i = (2, 0)) : zkd (i + 5) = (1, 0) := (show ∀ i, i < 125 → zkd i = (2, 0) → zkd (i + 5) = (1, 0) by decide +kernel) i (zkd_lt h (by decide)) h
theorem zs_2_3 {i : Nat} (h : zkd i = (2, 0)) : zkd (i + 7) = (1, 0) := (show ∀ i, i < 125 → zkd i = (2, 0) → zkd (i + 7) = (1, 0) by decide +kernel) i (zkd_lt h (by decide)) h
theorem zs_3_0 {i : Nat} (h : zkd i = (3, 0)) : zkd (i + 1) = (100, 625) := (show ∀ i, i < 125 → zkd i = (3, 0) → zkd (i + 1) = (100, 625) by decide +kernel) i (zkd_lt h (by decide)) h
theorem zs_3_1 {i : Nat} (h : zkd i = (3, 0)) : zkd (i + 2) = (100, 625) := (show ∀ i, i < 125 → zkd i = (3, 0) → zkd (i + 2) = (100, 625) by decide +kernel) i (zkd_lt h (by decide)) h
theorem zs_4_0 {i : Nat} (h : zkd i = (4, 0)) : zkd (i + 1) = (1, 0) := (show ∀ i, i < 125 → zkd i = (4, 0) → zkd (i + 1) = (1, 0) by decide +kernel) i (zkd_lt h (by decide)) h
theorem zs_5_0 {i : Nat} (h : zkd i = (5, 0)) : zkd (i + 1) = (0, 0) := (show ∀ i, i < 125 → zkd i = (5, 0) → zkd (i + 1) = (0, 0) by decide +kernel) i (zkd_lt h (by decide)) h
theorem zs_5_1 {i : Nat} (h : zkd i = (5, 0)) : zkd (i + 10) = (2, 0) := (show ∀ i, i < 125 → zkd i = (5, 0) → zkd (i + 10) = (2, 0) by decide +kernel) i (zkd_lt h (by decide)) h
theorem zs_5_4 {i : Nat} (h : zkd i = (5, 0)) : zkd (i + 19) = (3, 0) := (show ∀ i, i < 125 → zkd i = (5, 0) → zkd (i + 19) = (3, 0) by decide +kernel) i (zkd_lt h (by decide)) h
theorem zs_5_5 {i : Nat} (h : zkd i = (5, 0)) : zkd (i + 22) = (1, 0) := (show ∀ i, i < 125 → zkd i = (5, 0) → zkd (i + 22) = (1, 0) by decide +kernel) i (zkd_lt h (by decide)) h
theorem zs_5_6 {i : Nat} (h : zkd i = (5, 0)) : zkd (i + 24) = (1, 0) := (show ∀ i, i < 125 → zkd i = (5, 0) → zkd (i + 24) = (1, 0) by decide +kernel) i (zkd_lt h (by decide)) h
theorem zs_5_7 {i : Nat} (h : zkd i = (5, 0)) : zkd (i + 26) = (1, 0) := (show ∀ i, i < 125 → zkd i = (5, 0) → zkd (i + 26) = (1, 0) by decide +kernel) i (zkd_lt h (by decide)) h
theorem zs_6_0 {i : Nat} (h : zkd i = (6, 0)) : zkd (i + 1) = (100, 24) := (show ∀ i, i < 125 → zkd i = (6, 0) → zkd (i + 1) = (100, 24) by decide +kernel) i (zkd_lt h (by decide)) h
theorem zs_7_0 {i : Nat} (h : zkd i = (7, 0)) : zkd (i + 1) = (6, 0) := (show ∀ i, i < 125 → zkd i = (7, 0) → zkd (i + 1) = (6, 0) by decide +kernel) i (zkd_lt h (by decide)) h
theorem zs_7_1 {i : Nat} (h : zkd i = (7, 0)) : zkd (i + 3) = (6, 0) := (show ∀ i, i < 125 → zkd i = (7, 0) → zkd (i + 3) = (6, 0) by decide +kernel) i (zkd_lt h (by decide)) h
theorem zs_7_2 {i : Nat} (h : zkd i = (7, 0)) : zkd (i + 5) = (1, 0) := (show ∀ i, i < 125 → zkd i = (7, 0) → zkd (i + 5) = (1, 0) by decide +kernel) i (zkd_lt h (by decide)) h
theorem zs_8_0 {i : Nat} (h : zkd i = (8, 0)) : zkd (i + 1) = (1, 0) := (show ∀ i, i < 125 → zkd i = (8, 0) → zkd (i + 1) = (1, 0) by decide +kernel) i (zkd_lt h (by decide)) h
theorem zs_9_0 {i : Nat} (h : zkd i = (9, 0)) : zkd (i + 1) = (0, 0) := (show ∀ i, i < 125 → zkd i = (9, 0) → zkd (i + 1) = (0, 0) by decide +kernel) i (zkd_lt h (by decide)) h
theorem zs_9_3 {i : Nat} (h : zkd i = (9, 0)) : zkd (i + 10) = (1, 0) := (show ∀ i, i < 125 → zkd i = (9, 0) → zkd (i + 10) = (1, 0) by decide +kernel) i (zkd_lt h (by decide)) h
