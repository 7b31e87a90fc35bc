def zsx (xs : Nat → Int32) (L : Nat) (j : Int32) : Option Int32 := if j < 0 ∨ L ≤ j.toNatClampNeg then none else some (xs j.toNatClampNeg)
theorem zsx_some {xs : Nat → Int32} {L : Nat} {j v : Int32} (h : zsx xs L j = some v) : vp_in j L ∧ v = xs j.toNatClampNeg := by
  unfold zsx at h
  split at h
  · cases h
  · next hn => exact ⟨hn, (Option.some.inj h).symm⟩
theorem zlaw5 {t : Nat} {v : Int32} (h : v = nI (5 * t)) : v + 5 = nI (5 * (t + 1)) := by
  rw [h, show (5 : Int32) = nI 5 from rfl, nI_add]
  rfl
theorem zlawt {L t : Nat} {v : Int32} (hL : L ≤ 2560) (h : v = nI (5 * t)) (hc : ¬ nI L - (5 : Int32) < v) : t ≤ 512 → t < 512 := by
  intro ht
  subst h
  rw [Int32.lt_iff_toInt_lt, show (5 : Int32) = nI 5 from rfl, pk_sub_toInt (by omega) (by decide), nI_toInt (by omega)] at hc
  omega
def zLW (idx : Nat) (y : MethodName) (cy : ByteArray) (nY : Nat) (hh : List (Nat × Nat × Nat × Nat)) (k : Nat) : Prop :=
  (Cond.methodLink RL idx y ∈ wsL_law ∧ Cond.static y ∈ wsL_law ∧ Cond.initialized y.cls ∈ wsL_law ∧ Cond.codeWith y cy nY (some .int) hh ∈ wsL_law) ∧ (y.cls ≠ "java/lang/invoke/MethodHandle" ∧ y.cls ≠ "java/lang/invoke/VarHandle" ∧ (parseMethodDescriptor y.desc).map (fun d => d.parameters.length) = some k)
section ZL
variable {p : Program} {l : Launch} {e : Env} {R : Room} {s : State} {m : MethodId} {args : Array Value} {below : List Frame} {meth : Method} {c : Code} {H : Heap} {locs : List Loc} {cells slots : Nat} {Q : State → Prop}
variable {cc : ByteArray} {nL : Nat} {ret9 : Option FieldType} {g : zgeo} {σ : zmem} {A : Nat → Prop} {pc : Nat} {ls : Array Slot} {rest : List Value}
variable {y : MethodName} {cy : ByteArray} {nY idx k f n : Nat} {hh : List (Nat × Nat × Nat × Nat)} {as st : List Value} {r : Int32 × zmem}
theorem zrunW (M : zMC RL cc nL ret9 g p m c s args meth) (hpx : zPx g s) (hnc : zNc s) (hAn : ∀ q, q < s.heap.size → ¬ A q) (I : zIV g σ A s.heap H locs) (hM : zCw l g y cy nY hh f n as σ r) (hL : zLW idx y cy nY hh k)
    (hR : f + 1 ≤ R.frames ∧ 8 + (nY + 11) + n ≤ R.locals) (hcs : cells + 1 ≤ R.cells ∧ slots + 6 ≤ R.slots) (hlen : as.length = k) (hst : st = as.reverse ++ rest) (hcat : (rest.map fun v => v.category).sum ≤ 8) (hls : ls.size = nL) (hdg : decode cc pc = .ok (.invokestatic idx, 3)) :
    va_Run p l e R s m args below meth c H locs cells slots 1 6 (F0 m pc ls st) rest (zQI g r.1 r.2 as.toArray) (zAA g) := by
  obtain ⟨⟨hx, hb, hml, hown, hts⟩, -, -, hK, hNw⟩ := M
  have hT : GoodIn wsL_law (va_wsS RL idx y (zwmW y cy nY (some .int) hh)) := by
    intro w hw
    refine zbig w ?_
    rcases List.mem_append.mp hw with hw | hw
    · simp only [List.mem_cons, List.not_mem_nil, or_false] at hw
      rcases hw with rfl | rfl | rfl
      · exact hL.1.1
      · exact hL.1.2.1
      · exact hL.1.2.2.1
    · rcases List.mem_cons.mp hw with rfl | hw
      · exact hL.1.2.2.2
      · exact hw
  refine vx_runSW ⟨hx, hb, hml, hown, hts⟩ hM (vx_cwSW k hts hT rfl rfl rfl hL.2 hR) ⟨?_, fun U hU hW => ⟨rfl, ⟨zPW_of hK hNw I hU hW, hpx.moved hW (fun q h1 h2 => by rw [hU]; exact I.2.2.2.1 q h1 (hAn q h1))⟩, hnc.moved hW.alike⟩⟩ rfl hlen hls hst (lv_room hcat) hdg hcs
  intro a U k mk q
  obtain ⟨q0, qX, qN⟩ := q
  exact ⟨q0, (zblindX a U k mk ⟨q0, qX⟩).2, qN.moved (U := U.calling k mk a) (Vm.Alike.refl U.vm)⟩
theorem zcallI1 (M : zMC RL cc nL ret9 g p m c s args meth) (I : zIV g σ A s.heap H locs) {a : Array Value} (hr : va_Run p l e R s m args below meth c H locs cells slots 1 6 (F0 m pc ls st) rest (zQI g r.1 r.2 a) (zAA g))
    (kk : ∀ H locs, zIV g r.2 A s.heap H locs → W p l e R s m args below meth c H locs (cells + 1) (slots + 6) Q (F0 m (pc + 3) ls (.int r.1 :: rest))) : W p l e R s m args below meth c H locs cells slots Q (F0 m pc ls st) :=
  va_calli hr I.2.2 (fun q _ h => I.app q h) (fun q h => I.app q h) (fun r' u t H1 locs1 ht hvm hw hB hz hk hS => by subst hw; exact kk H1 locs1 (zIV_call M.2.2.2.1 I ht hB hS))
end ZL
theorem ztab_27 {x : Int32} (h0 : ¬ x = (0 : Int32)) (h1 : ¬ x = (1 : Int32)) (h2 : ¬ x = (2 : Int32)) (h3 : ¬ x = (3 : Int32)) (h4 : ¬ x = (4 : Int32)) (h5 : ¬ x = (5 : Int32)) (h6 : ¬ x = (6 : Int32)) (h7 : ¬ x = (7 : Int32)) (h8 : ¬ x = (8 : Int32)) (h9 : ¬ x = (9 : Int32)) (h10 : ¬ x = (10 : Int32)) (h11 : ¬ x = (11 : Int32)) (h12 : ¬ x = (12 : Int32)) (h13 : ¬ x = (13 : Int32)) (h14 : ¬ x = (14 : Int32)) (h15 : ¬ x = (15 : Int32)) (h16 : ¬ x = (16 : Int32)) (h17 : ¬ x = (17 : Int32)) (h18 : ¬ x = (18 : Int32)) (h19 : ¬ x = (19 : Int32)) (h20 : ¬ x = (20 : Int32)) (h21 : ¬ x = (21 : Int32)) (h22 : ¬ x = (22 : Int32)) (h23 : ¬ x = (23 : Int32)) (h24 : ¬ x = (24 : Int32)) (h25 : ¬ x = (25 : Int32)) (h26 : ¬ x = (26 : Int32)) : x.toInt < 0 ∨ 26 < x.toInt := by
  have q0 := ztoInt h0 (show (0 : Int32).toInt = 0 by decide)
  have q1 := ztoInt h1 (show (1 : Int32).toInt = 1 by decide)
  have q2 := ztoInt h2 (show (2 : Int32).toInt = 2 by decide)
  have q3 := ztoInt h3 (show (3 : Int32).toInt = 3 by decide)
  have q4 := ztoInt h4 (show (4 : Int32).toInt = 4 by decide)
  have q5 := ztoInt h5 (show (5 : Int32).toInt = 5 by decide)
  have q6 := ztoInt h6 (show (6 : Int32).toInt = 6 by decide)
  have q7 := ztoInt h7 (show (7 : Int32).toInt = 7 by decide)
  have q8 := ztoInt h8 (show (8 : Int32).toInt = 8 by decide)
  have q9 := ztoInt h9 (show (9 : Int32).toInt = 9 by decide)
  have q10 := ztoInt h10 (show (10 : Int32).toInt = 10 by decide)
  have q11 := ztoInt h11 (show (11 : Int32).toInt = 11 by decide)
  have q12 := ztoInt h12 (show (12 : Int32).toInt = 12 by decide)
  have q13 := ztoInt h13 (show (13 : Int32).toInt = 13 by decide)
  have q14 := ztoInt h14 (show (14 : Int32).toInt = 14 by decide)
  have q15 := ztoInt h15 (show (15 : Int32).toInt = 15 by decide)
  have q16 := ztoInt h16 (show (16 : Int32).toInt = 16 by decide)
  have q17 := ztoInt h17 (show (17 : Int32).toInt = 17 by decide)
  have q18 := ztoInt h18 (show (18 : Int32).toInt = 18 by decide)
  have q19 := ztoInt h19 (show (19 : Int32).toInt = 19 by decide)
  have q20 := ztoInt h20 (show (20 : Int32).toInt = 20 by decide)
  have q21 := ztoInt h21 (show (21 : Int32).toInt = 21 by decide)
  have q22 := ztoInt h22 (show (22 : Int32).toInt = 22 by decide)
  have q23 := ztoInt h23 (show (23 : Int32).toInt = 23 by decide)
  have q24 := ztoInt h24 (show (24 : Int32).toInt = 24 by decide)
  have q25 := ztoInt h25 (show (25 : Int32).toInt = 25 by decide)
  have q26 := ztoInt h26 (show (26 : Int32).toInt = 26 by decide)
  omega
theorem zlw_87 : zLW 87 yL_put cL_put 6 [(0, 12, 15, 13), (0, 12, 19, 15), (0, 12, 23, 17)] 5 := ⟨⟨(zin (i := 717) (by decide +kernel) rfl), (zin (i := 718) (by decide +kernel) rfl), (zin (i := 67) (by decide +kernel) rfl), (zin (i := 719) (by decide +kernel) rfl)⟩, by decide, by decide, by decide +kernel⟩
theorem zlw_96 : zLW 96 yL_take cL_take 6 [(0, 12, 15, 13), (0, 12, 19, 15)] 5 := ⟨⟨(zin (i := 837) (by decide +kernel) rfl), (zin (i := 838) (by decide +kernel) rfl), (zin (i := 67) (by decide +kernel) rfl), (zin (i := 839) (by decide +kernel) rfl)⟩, by decide, by decide, by decide +kernel⟩
theorem zlw_99 : zLW 99 yL_change cL_change 6 [(0, 12, 15, 13), (0, 12, 19, 15)] 5 := ⟨⟨(zin (i := 854) (by decide +kernel) rfl), (zin (i := 855) (by decide +kernel) rfl), (zin (i := 67) (by decide +kernel) rfl), (zin (i := 856) (by decide +kernel) rfl)⟩, by decide, by decide, by decide +kernel⟩
theorem zlw_102 : zLW 102 yL_turn cL_turn 6 [(0, 12, 15, 13), (0, 12, 19, 15)] 5 := ⟨⟨(zin (i := 861) (by decide +kernel) rfl), (zin (i := 862) (by decide +kernel) rfl), (zin (i := 67) (by decide +kernel) rfl), (zin (i := 863) (by decide +kernel) rfl)⟩, by decide, by decide, by decide +kernel⟩
theorem zlw_105 : zLW 105 yL_copy cL_copy 7 [(0, 14, 17, 13), (0, 14, 21, 15), (0, 14, 25, 17)] 6 := ⟨⟨(zin (i := 873) (by decide +kernel) rfl), (zin (i := 874) (by decide +kernel) rfl), (zin (i := 67) (by decide +kernel) rfl), (zin (i := 875) (by decide +kernel) rfl)⟩, by decide, by decide, by decide +kernel⟩
theorem zlw_113 : zLW 113 yL_set cL_set 5 [(0, 10, 13, 13), (0, 10, 17, 15)] 4 := ⟨⟨(zin (i := 885) (by decide +kernel) rfl), (zin (i := 886) (by decide +kernel) rfl), (zin (i := 67) (by decide +kernel) rfl), (zin (i := 887) (by decide +kernel) rfl)⟩, by decide, by decide, by decide +kernel⟩
theorem zlw_117 : zLW 117 yL_append cL_append 4 [(0, 9, 12, 15), (0, 9, 15, 17)] 3 := ⟨⟨(zin (i := 900) (by decide +kernel) rfl), (zin (i := 901) (by decide +kernel) rfl), (zin (i := 67) (by decide +kernel) rfl), (zin (i := 902) (by decide +kernel) rfl)⟩, by decide, by decide, by decide +kernel⟩
theorem zlw_129 : zLW 129 yL_read cL_read 3 [(0, 8, 11, 15)] 2 := ⟨⟨(zin (i := 914) (by decide +kernel) rfl), (zin (i := 915) (by decide +kernel) rfl), (zin (i := 67) (by decide +kernel) rfl), (zin (i := 916) (by decide +kernel) rfl)⟩, by decide, by decide, by decide +kernel⟩
theorem zlw_133 : zLW 133 yL_keep cL_keep 4 [(0, 9, 12, 13)] 3 := ⟨⟨(zin (i := 941) (by decide +kernel) rfl), (zin (i := 942) (by decide +kernel) rfl), (zin (i := 67) (by decide +kernel) rfl), (zin (i := 943) (by decide +kernel) rfl)⟩, by decide, by decide, by decide +kernel⟩
theorem zlw_136 : zLW 136 yL_restore cL_restore 4 [(0, 9, 12, 13), (0, 9, 15, 17)] 3 := ⟨⟨(zin (i := 957) (by decide +kernel) rfl), (zin (i := 958) (by decide +kernel) rfl), (zin (i := 67) (by decide +kernel) rfl), (zin (i := 959) (by decide +kernel) rfl)⟩, by decide, by decide, by decide +kernel⟩
theorem zlw_139 : zLW 139 yL_undo cL_undo 3 [(0, 8, 11, 17)] 2 := ⟨⟨(zin (i := 965) (by decide +kernel) rfl), (zin (i := 966) (by decide +kernel) rfl), (zin (i := 67) (by decide +kernel) rfl), (zin (i := 967) (by decide +kernel) rfl)⟩, by decide, by decide, by decide +kernel⟩
theorem zlw_142 : zLW 142 yL_sign cL_sign 5 [(0, 10, 13, 13)] 4 := ⟨⟨(zin (i := 981) (by decide +kernel) rfl), (zin (i := 982) (by decide +kernel) rfl), (zin (i := 67) (by decide +kernel) rfl), (zin (i := 983) (by decide +kernel) rfl)⟩, by decide, by decide, by decide +kernel⟩
theorem zlw_145 : zLW 145 yL_anchor cL_anchor 5 [(0, 10, 13, 13), (0, 10, 17, 15)] 4 := ⟨⟨(zin (i := 988) (by decide +kernel) rfl), (zin (i := 989) (by decide +kernel) rfl), (zin (i := 67) (by decide +kernel) rfl), (zin (i := 990) (by decide +kernel) rfl)⟩, by decide, by decide, by decide +kernel⟩
theorem zlw_148 : zLW 148 yL_turned cL_turned 5 [(0, 10, 13, 13), (0, 10, 17, 15)] 4 := ⟨⟨(zin (i := 997) (by decide +kernel) rfl), (zin (i := 998) (by decide +kernel) rfl), (zin (i := 67) (by decide +kernel) rfl), (zin (i := 999) (by decide +kernel) rfl)⟩, by decide, by decide, by decide +kernel⟩
theorem zlw_151 : zLW 151 yL_gap cL_gap 5 [(0, 10, 13, 15)] 4 := ⟨⟨(zin (i := 1005) (by decide +kernel) rfl), (zin (i := 1006) (by decide +kernel) rfl), (zin (i := 67) (by decide +kernel) rfl), (zin (i := 1007) (by decide +kernel) rfl)⟩, by decide, by decide, by decide +kernel⟩
theorem zlw_154 : zLW 154 yL_partner cL_partner 5 [(0, 10, 13, 13)] 4 := ⟨⟨(zin (i := 1013) (by decide +kernel) rfl), (zin (i := 1014) (by decide +kernel) rfl), (zin (i := 67) (by decide +kernel) rfl), (zin (i := 1015) (by decide +kernel) rfl)⟩, by decide, by decide, by decide +kernel⟩
theorem zlw_157 : zLW 157 yL_doubled cL_doubled 5 [(0, 10, 13, 13), (0, 10, 17, 15)] 4 := ⟨⟨(zin (i := 1020) (by decide +kernel) rfl), (zin (i := 1021) (by decide +kernel) rfl), (zin (i := 67) (by decide +kernel) rfl), (zin (i := 1022) (by decide +kernel) rfl)⟩, by decide, by decide, by decide +kernel⟩
theorem zlw_160 : zLW 160 yL_count cL_count 4 [(0, 9, 12, 15)] 3 := ⟨⟨(zin (i := 1028) (by decide +kernel) rfl), (zin (i := 1029) (by decide +kernel) rfl), (zin (i := 67) (by decide +kernel) rfl), (zin (i := 1030) (by decide +kernel) rfl)⟩, by decide, by decide, by decide +kernel⟩
theorem zlw_163 : zLW 163 yL_setting cL_setting 4 [(0, 9, 12, 13)] 3 := ⟨⟨(zin (i := 1036) (by decide +kernel) rfl), (zin (i := 1037) (by decide +kernel) rfl), (zin (i := 67) (by decide +kernel) rfl), (zin (i := 1038) (by decide +kernel) rfl)⟩, by decide, by decide, by decide +kernel⟩
theorem zlw_166 : zLW 166 yL_ifSet cL_ifSet 5 [(0, 10, 13, 13), (0, 10, 17, 15)] 4 := ⟨⟨(zin (i := 1043) (by decide +kernel) rfl), (zin (i := 1044) (by decide +kernel) rfl), (zin (i := 67) (by decide +kernel) rfl), (zin (i := 1045) (by decide +kernel) rfl)⟩, by decide, by decide, by decide +kernel⟩
theorem zlw_169 : zLW 169 yL_ifChanged cL_ifChanged 6 [(0, 12, 15, 13), (0, 12, 19, 15)] 5 := ⟨⟨(zin (i := 1050) (by decide +kernel) rfl), (zin (i := 1051) (by decide +kernel) rfl), (zin (i := 67) (by decide +kernel) rfl), (zin (i := 1052) (by decide +kernel) rfl)⟩, by decide, by decide, by decide +kernel⟩
def l_L_law (fu : Nat) (xs : Nat → Int32) (L : Nat) : Nat → Int32 → zmem → Option Int32
  | 0, _, _ => none
  | n + 1, v4, σ => (if ((nI L) - (5 : Int32)) < v4 then some (1 : Int32) else (zsx xs L v4).bind fun x1 => (if (x1 &&& (31 : Int32)) = (0 : Int32) then (zsx xs L (v4 + (1 : Int32))).bind fun x3 => (zsx xs L (v4 + (2 : Int32))).bind fun x4 => (zsx xs L (v4 + (3 : Int32))).bind fun x5 => (m_L_put fu σ x3 x4 x5).bind fun x6 => (zsx xs L (v4 + (1 : Int32))).bind fun x7 => (zsx xs L (v4 + (2 : Int32))).bind fun x8 => (zsx xs L (v4 + (3 : Int32))).bind fun x9 => (m_X11_put fu x6.2 x7 x8 x9).bind fun x10 => (m_X11_thrown fu x10.2).bind fun x11 => (if x11 = x6.1 then (if ¬ x6.1 = 0 then l_L_law fu xs L n (v4 + 5) x10.2 else (zrl x10.2 124 (0 : Int32)).bind fun x12 => (if (lg_cmp x12 (x10.1.toInt64)) = 0 then l_L_law fu xs L n (v4 + 5) x10.2 else some (0 : Int32))) else some (0 : Int32)) else (if (x1 &&& (31 : Int32)) = (1 : Int32) then (zsx xs L (v4 + (1 : Int32))).bind fun x17 => (zsx xs L (v4 + (2 : Int32))).bind fun x18 => (zsx xs L (v4 + (3 : Int32))).bind fun x19 => (m_L_take fu σ x17 x18 x19).bind fun x20 => (zsx xs L (v4 + (1 : Int32))).bind fun x21 => (zsx xs L (v4 + (2 : Int32))).bind fun x22 => (zsx xs L (v4 + (3 : Int32))).bind fun x23 => (m_X11_take fu x20.2 x21 x22 x23).bind fun x24 => (m_X11_thrown fu x24.2).bind fun x25 => (if x25 = x20.1 then (if ¬ x20.1 = 0 then l_L_law fu xs L n (v4 + 5) x24.2 else (zrl x24.2 124 (0 : Int32)).bind fun x26 => (if (lg_cmp x26 (x24.1.toInt64)) = 0 then l_L_law fu xs L n (v4 + 5) x24.2 else some (0 : Int32))) else some (0 : Int32)) else (if (x1 &&& (31 : Int32)) = (2 : Int32) then (zsx xs L (v4 + (1 : Int32))).bind fun x31 => (zsx xs L (v4 + (2 : Int32))).bind fun x32 => (zsx xs L (v4 + (3 : Int32))).bind fun x33 => (m_L_change fu σ x31 x32 x33).bind fun x34 => (zsx xs L (v4 + (1 : Int32))).bind fun x35 => (zsx xs L (v4 + (2 : Int32))).bind fun x36 => (zsx xs L (v4 + (3 : Int32))).bind fun x37 => (m_X11_change fu x34.2 x35 x36 x37).bind fun x38 => (m_X11_thrown fu x38.2).bind fun x39 => (if x39 = x34.1 then (if ¬ x34.1 = 0 then l_L_law fu xs L n (v4 + 5) x38.2 else (zrl x38.2 124 (0 : Int32)).bind fun x40 => (if (lg_cmp x40 (x38.1.toInt64)) = 0 then l_L_law fu xs L n (v4 + 5) x38.2 else some (0 : Int32))) else some (0 : Int32)) else (if (x1 &&& (31 : Int32)) = (3 : Int32) then (zsx xs L (v4 + (1 : Int32))).bind fun x45 => (zsx xs L (v4 + (2 : Int32))).bind fun x46 => (zsx xs L (v4 + (3 : Int32))).bind fun x47 => (m_L_turn fu σ x45 x46 x47).bind fun x48 => (zsx xs L (v4 + (1 : Int32))).bind fun x49 => (zsx xs L (v4 + (2 : Int32))).bind fun x50 => (zsx xs L (v4 + (3 : Int32))).bind fun x51 => (m_X11_turn fu x48.2 x49 x50 x51).bind fun x52 => (m_X11_thrown fu x52.2).bind fun x53 => (if x53 = x48.1 then (if ¬ x48.1 = 0 then l_L_law fu xs L n (v4 + 5) x52.2 else (zrl x52.2 124 (0 : Int32)).bind fun x54 => (if (lg_cmp x54 (x52.1.toInt64)) = 0 then l_L_law fu xs L n (v4 + 5) x52.2 else some (0 : Int32))) else some (0 : Int32)) else (if (x1 &&& (31 : Int32)) = (4 : Int32) then (zsx xs L (v4 + (1 : Int32))).bind fun x59 => (zsx xs L (v4 + (2 : Int32))).bind fun x60 => (zsx xs L (v4 + (3 : Int32))).bind fun x61 => (zsx xs L (v4 + (4 : Int32))).bind fun x62 => (m_L_copy fu σ x59 x60 x61 x62).bind fun x63 => (zsx xs L (v4 + (1 : Int32))).bind fun x64 => (zsx xs L (v4 + (2 : Int32))).bind fun x65 => (zsx xs L (v4 + (3 : Int32))).bind fun x66 => (zsx xs L (v4 + (4 : Int32))).bind fun x67 => (m_X11_copy fu x63.2 x64 x65 x66 x67).bind fun x68 => (m_X11_thrown fu x68.2).bind fun x69 => (if x69 = x63.1 then (if ¬ x63.1 = 0 then l_L_law fu xs L n (v4 + 5) x68.2 else (zrl x68.2 124 (0 : Int32)).bind fun x70 => (if (lg_cmp x70 (x68.1.toInt64)) = 0 then l_L_law fu xs L n (v4 + 5) x68.2 else some (0 : Int32))) else some (0 : Int32)) else (if (x1 &&& (31 : Int32)) = (5 : Int32) then (m_X10_exchange fu σ).bind fun x75 => (m_X11_exchange fu x75.2).bind fun x76 => (if x75.1 = x76.1 then l_L_law fu xs L n (v4 + 5) x76.2 else some (0 : Int32)) else (if (x1 &&& (31 : Int32)) = (6 : Int32) then (zsx xs L (v4 + (1 : Int32))).bind fun x79 => (zsx xs L (v4 + (2 : Int32))).bind fun x80 => (m_L_set fu σ x79 x80).bind fun x81 => (zsx xs L (v4 + (1 : Int32))).bind fun x82 => (zsx xs L (v4 + (2 : Int32))).bind fun x83 => (m_X11_set fu x81.2 x82 x83).bind fun x84 => (m_X11_thrown fu x84.2).bind fun x85 => (if x85 = x81.1 then (if ¬ x81.1 = 0 then l_L_law fu xs L n (v4 + 5) x84.2 else (zrl x84.2 124 (0 : Int32)).bind fun x86 => (if (lg_cmp x86 (x84.1.toInt64)) = 0 then l_L_law fu xs L n (v4 + 5) x84.2 else some (0 : Int32))) else some (0 : Int32)) else (if (x1 &&& (31 : Int32)) = (7 : Int32) then (zsx xs L (v4 + (1 : Int32))).bind fun x91 => (m_L_append fu σ x91).bind fun x92 => (zsx xs L (v4 + (1 : Int32))).bind fun x93 => (m_X11_append fu x92.2 x93).bind fun x94 => (m_X11_thrown fu x94.2).bind fun x95 => (if x95 = x92.1 then (if ¬ x92.1 = 0 then l_L_law fu xs L n (v4 + 5) x94.2 else (zrl x94.2 124 (0 : Int32)).bind fun x96 => (if (lg_cmp x96 (x94.1.toInt64)) = 0 then l_L_law fu xs L n (v4 + 5) x94.2 else some (0 : Int32))) else some (0 : Int32)) else (if (x1 &&& (31 : Int32)) = (8 : Int32) then (m_X10_clearBuffer fu σ).bind fun x101 => (m_X11_clearBuffer fu x101.2).bind fun x102 => (if x101.1 = x102.1 then l_L_law fu xs L n (v4 + 5) x102.2 else some (0 : Int32)) else (if (x1 &&& (31 : Int32)) = (9 : Int32) then (m_X10_firstError fu σ).bind fun x105 => (m_X11_firstError fu σ).bind fun x106 => (if x105 = x106.1 then l_L_law fu xs L n (v4 + 5) x106.2 else some (0 : Int32)) else (if (x1 &&& (31 : Int32)) = (10 : Int32) then (m_L_read fu σ).bind fun x109 => (m_X11_read fu x109.2).bind fun x110 => (m_X11_thrown fu x110.2).bind fun x111 => (if x111 = x109.1 then (if ¬ x109.1 = 0 then l_L_law fu xs L n (v4 + 5) x110.2 else (zrl x110.2 124 (0 : Int32)).bind fun x112 => (if (lg_cmp x112 (x110.1.toInt64)) = 0 then l_L_law fu xs L n (v4 + 5) x110.2 else some (0 : Int32))) else some (0 : Int32)) else (if (x1 &&& (31 : Int32)) = (11 : Int32) then (zsx xs L (v4 + (1 : Int32))).bind fun x117 => (m_L_keep fu σ x117).bind fun x118 => (zsx xs L (v4 + (1 : Int32))).bind fun x119 => (m_X11_keep fu x118.2 x119).bind fun x120 => (m_X11_thrown fu x120.2).bind fun x121 => (if x121 = x118.1 then (if ¬ x118.1 = 0 then l_L_law fu xs L n (v4 + 5) x120.2 else (zrl x120.2 124 (0 : Int32)).bind fun x122 => (if (lg_cmp x122 (x120.1.toInt64)) = 0 then l_L_law fu xs L n (v4 + 5) x120.2 else some (0 : Int32))) else some (0 : Int32)) else (if (x1 &&& (31 : Int32)) = (12 : Int32) then (zsx xs L (v4 + (1 : Int32))).bind fun x127 => (m_L_restore fu σ x127).bind fun x128 => (zsx xs L (v4 + (1 : Int32))).bind fun x129 => (m_X11_restore fu x128.2 x129).bind fun x130 => (m_X11_thrown fu x130.2).bind fun x131 => (if x131 = x128.1 then (if ¬ x128.1 = 0 then l_L_law fu xs L n (v4 + 5) x130.2 else (zrl x130.2 124 (0 : Int32)).bind fun x132 => (if (lg_cmp x132 (x130.1.toInt64)) = 0 then l_L_law fu xs L n (v4 + 5) x130.2 else some (0 : Int32))) else some (0 : Int32)) else (if (x1 &&& (31 : Int32)) = (13 : Int32) then (m_L_undo fu σ).bind fun x137 => (m_X11_undo fu x137.2).bind fun x138 => (m_X11_thrown fu x138.2).bind fun x139 => (if x139 = x137.1 then (if ¬ x137.1 = 0 then l_L_law fu xs L n (v4 + 5) x138.2 else (zrl x138.2 124 (0 : Int32)).bind fun x140 => (if (lg_cmp x140 (x138.1.toInt64)) = 0 then l_L_law fu xs L n (v4 + 5) x138.2 else some (0 : Int32))) else some (0 : Int32)) else (if (x1 &&& (31 : Int32)) = (14 : Int32) then (zsx xs L (v4 + (1 : Int32))).bind fun x145 => (zsx xs L (v4 + (2 : Int32))).bind fun x146 => (m_L_sign fu σ x145 x146).bind fun x147 => (zsx xs L (v4 + (1 : Int32))).bind fun x148 => (zsx xs L (v4 + (2 : Int32))).bind fun x149 => (m_X11_sign fu x147.2 x148 x149).bind fun x150 => (m_X11_thrown fu x150.2).bind fun x151 => (if x151 = x147.1 then (if ¬ x147.1 = 0 then l_L_law fu xs L n (v4 + 5) x150.2 else (zrl x150.2 124 (0 : Int32)).bind fun x152 => (if (lg_cmp x152 (x150.1.toInt64)) = 0 then l_L_law fu xs L n (v4 + 5) x150.2 else some (0 : Int32))) else some (0 : Int32)) else (if (x1 &&& (31 : Int32)) = (15 : Int32) then (zsx xs L (v4 + (1 : Int32))).bind fun x157 => (zsx xs L (v4 + (2 : Int32))).bind fun x158 => (m_L_anchor fu σ x157 x158).bind fun x159 => (zsx xs L (v4 + (1 : Int32))).bind fun x160 => (zsx xs L (v4 + (2 : Int32))).bind fun x161 => (m_X11_anchor fu x159.2 x160 x161).bind fun x162 => (m_X11_thrown fu x162.2).bind fun x163 => (if x163 = x159.1 then (if ¬ x159.1 = 0 then l_L_law fu xs L n (v4 + 5) x162.2 else (zrl x162.2 124 (0 : Int32)).bind fun x164 => (if (lg_cmp x164 (x162.1.toInt64)) = 0 then l_L_law fu xs L n (v4 + 5) x162.2 else some (0 : Int32))) else some (0 : Int32)) else (if (x1 &&& (31 : Int32)) = (16 : Int32) then (zsx xs L (v4 + (1 : Int32))).bind fun x169 => (zsx xs L (v4 + (2 : Int32))).bind fun x170 => (m_L_turned fu σ x169 x170).bind fun x171 => (zsx xs L (v4 + (1 : Int32))).bind fun x172 => (zsx xs L (v4 + (2 : Int32))).bind fun x173 => (m_X11_turned fu x171.2 x172 x173).bind fun x174 => (m_X11_thrown fu x174.2).bind fun x175 => (if x175 = x171.1 then (if ¬ x171.1 = 0 then l_L_law fu xs L n (v4 + 5) x174.2 else (zrl x174.2 124 (0 : Int32)).bind fun x176 => (if (lg_cmp x176 (x174.1.toInt64)) = 0 then l_L_law fu xs L n (v4 + 5) x174.2 else some (0 : Int32))) else some (0 : Int32)) else (if (x1 &&& (31 : Int32)) = (17 : Int32) then (zsx xs L (v4 + (1 : Int32))).bind fun x181 => (zsx xs L (v4 + (2 : Int32))).bind fun x182 => (m_L_gap fu σ x181 x182).bind fun x183 => (zsx xs L (v4 + (1 : Int32))).bind fun x184 => (zsx xs L (v4 + (2 : Int32))).bind fun x185 => (m_X11_gap fu x183.2 x184 x185).bind fun x186 => (m_X11_thrown fu x186.2).bind fun x187 => (if x187 = x183.1 then (if ¬ x183.1 = 0 then l_L_law fu xs L n (v4 + 5) x186.2 else (zrl x186.2 124 (0 : Int32)).bind fun x188 => (if (lg_cmp x188 (x186.1.toInt64)) = 0 then l_L_law fu xs L n (v4 + 5) x186.2 else some (0 : Int32))) else some (0 : Int32)) else (if (x1 &&& (31 : Int32)) = (18 : Int32) then (zsx xs L (v4 + (1 : Int32))).bind fun x193 => (zsx xs L (v4 + (2 : Int32))).bind fun x194 => (m_L_partner fu σ x193 x194).bind fun x195 => (zsx xs L (v4 + (1 : Int32))).bind fun x196 => (zsx xs L (v4 + (2 : Int32))).bind fun x197 => (m_X11_partner fu x195.2 x196 x197).bind fun x198 => (m_X11_thrown fu x198.2).bind fun x199 => (if x199 = x195.1 then (if ¬ x195.1 = 0 then l_L_law fu xs L n (v4 + 5) x198.2 else (zrl x198.2 124 (0 : Int32)).bind fun x200 => (if (lg_cmp x200 (x198.1.toInt64)) = 0 then l_L_law fu xs L n (v4 + 5) x198.2 else some (0 : Int32))) else some (0 : Int32)) else (if (x1 &&& (31 : Int32)) = (19 : Int32) then (zsx xs L (v4 + (1 : Int32))).bind fun x205 => (zsx xs L (v4 + (2 : Int32))).bind fun x206 => (m_L_doubled fu σ x205 x206).bind fun x207 => (zsx xs L (v4 + (1 : Int32))).bind fun x208 => (zsx xs L (v4 + (2 : Int32))).bind fun x209 => (m_X11_doubled fu x207.2 x208 x209).bind fun x210 => (m_X11_thrown fu x210.2).bind fun x211 => (if x211 = x207.1 then (if ¬ x207.1 = 0 then l_L_law fu xs L n (v4 + 5) x210.2 else (zrl x210.2 124 (0 : Int32)).bind fun x212 => (if (lg_cmp x212 (x210.1.toInt64)) = 0 then l_L_law fu xs L n (v4 + 5) x210.2 else some (0 : Int32))) else some (0 : Int32)) else (if (x1 &&& (31 : Int32)) = (20 : Int32) then (zsx xs L (v4 + (1 : Int32))).bind fun x217 => (m_L_count fu σ x217).bind fun x218 => (zsx xs L (v4 + (1 : Int32))).bind fun x219 => (m_X11_count fu x218.2 x219).bind fun x220 => (m_X11_thrown fu x220.2).bind fun x221 => (if x221 = x218.1 then (if ¬ x218.1 = 0 then l_L_law fu xs L n (v4 + 5) x220.2 else (zrl x220.2 124 (0 : Int32)).bind fun x222 => (if (lg_cmp x222 (x220.1.toInt64)) = 0 then l_L_law fu xs L n (v4 + 5) x220.2 else some (0 : Int32))) else some (0 : Int32)) else (if (x1 &&& (31 : Int32)) = (21 : Int32) then (zsx xs L (v4 + (1 : Int32))).bind fun x227 => (m_L_setting fu σ x227).bind fun x228 => (zsx xs L (v4 + (1 : Int32))).bind fun x229 => (m_X11_setting fu x228.2 x229).bind fun x230 => (m_X11_thrown fu x230.2).bind fun x231 => (if x231 = x228.1 then (if ¬ x228.1 = 0 then l_L_law fu xs L n (v4 + 5) x230.2 else (zrl x230.2 124 (0 : Int32)).bind fun x232 => (if (lg_cmp x232 (x230.1.toInt64)) = 0 then l_L_law fu xs L n (v4 + 5) x230.2 else some (0 : Int32))) else some (0 : Int32)) else (if (x1 &&& (31 : Int32)) = (22 : Int32) then (zsx xs L (v4 + (1 : Int32))).bind fun x237 => (zsx xs L (v4 + (2 : Int32))).bind fun x238 => (m_L_ifSet fu σ x237 x238).bind fun x239 => (zsx xs L (v4 + (1 : Int32))).bind fun x240 => (zsx xs L (v4 + (2 : Int32))).bind fun x241 => (m_X11_ifSet fu x239.2 x240 x241).bind fun x242 => (m_X11_thrown fu x242.2).bind fun x243 => (if x243 = x239.1 then (if ¬ x239.1 = 0 then l_L_law fu xs L n (v4 + 5) x242.2 else (zrl x242.2 124 (0 : Int32)).bind fun x244 => (if (lg_cmp x244 (x242.1.toInt64)) = 0 then l_L_law fu xs L n (v4 + 5) x242.2 else some (0 : Int32))) else some (0 : Int32)) else (if (x1 &&& (31 : Int32)) = (23 : Int32) then (zsx xs L (v4 + (1 : Int32))).bind fun x249 => (zsx xs L (v4 + (2 : Int32))).bind fun x250 => (zsx xs L (v4 + (3 : Int32))).bind fun x251 => (m_L_ifChanged fu σ x249 x250 x251).bind fun x252 => (zsx xs L (v4 + (1 : Int32))).bind fun x253 => (zsx xs L (v4 + (2 : Int32))).bind fun x254 => (zsx xs L (v4 + (3 : Int32))).bind fun x255 => (m_X11_ifChanged fu x252.2 x253 x254 x255).bind fun x256 => (m_X11_thrown fu x256.2).bind fun x257 => (if x257 = x252.1 then (if ¬ x252.1 = 0 then l_L_law fu xs L n (v4 + 5) x256.2 else (zrl x256.2 124 (0 : Int32)).bind fun x258 => (if (lg_cmp x258 (x256.1.toInt64)) = 0 then l_L_law fu xs L n (v4 + 5) x256.2 else some (0 : Int32))) else some (0 : Int32)) else (if (x1 &&& (31 : Int32)) = (24 : Int32) then (m_X10_bestLength fu σ).bind fun x263 => (m_X11_bestLength fu x263.2).bind fun x264 => (if x263.1 = x264.1 then l_L_law fu xs L n (v4 + 5) x264.2 else some (0 : Int32)) else (if (x1 &&& (31 : Int32)) = (25 : Int32) then (m_X10_likeShare fu σ).bind fun x267 => (m_X11_likeShare fu x267.2).bind fun x268 => (if (Op.cmpValue (FP.dcmp x267.1 x268.1) CmpOp.l) = 0 then l_L_law fu xs L n (v4 + 5) x268.2 else (if (Op.cmpValue (FP.dcmp x267.1 x267.1) CmpOp.l) = 0 then some (0 : Int32) else (if ¬ (Op.cmpValue (FP.dcmp x268.1 x268.1) CmpOp.l) = 0 then l_L_law fu xs L n (v4 + 5) x268.2 else some (0 : Int32)))) else (if (x1 &&& (31 : Int32)) = (26 : Int32) then (m_X10_digest fu σ).bind fun x273 => (m_X11_digest fu x273.2).bind fun x274 => (if (lg_cmp x273.1 x274.1) = 0 then l_L_law fu xs L n (v4 + 5) x274.2 else some (0 : Int32)) else l_L_law fu xs L n (v4 + 5) σ))))))))))))))))))))))))))))
set_option maxHeartbeats 40000000 in
set_option maxRecDepth 100000 in
theorem k_L_law {l : Launch} (hl0 : l.stackTraces = false) {g : zgeo} {fu : Nat} {p : Program} {e : Env} {s : State} {m : MethodId} {below : List Frame} {meth : Method} {c : Code} {b L k0 n0 : Nat} {xs : Nat → Int32} (hL : L ≤ 2560) (M : zMC RL code 9 ret g p m c s #[.ref b] meth) (hpx : zPx g s) (hnc : zNc s)
    (hX : va_X b L xs s s.heap) (hbl : b < s.heap.size) (hk0 : k0 ≤ 1000) (hn0 : n0 ≤ 100000) : ∀ (n t : Nat) (v4 : Int32) (σ : zmem), v4 = nI (5 * t) → t ≤ 512 → l_L_law fu xs L n v4 σ = some 1 → ∀ (ls : Array Slot) (H : Heap) (locs : List Loc), lv_has ls 9 [(0, .ref b), (1, .ref (zA g 0)), (2, .ref (zA g 103)), (3, .ref (zA g 124)), (4, .int v4)] → zIV g σ (fun q => s.heap.size ≤ q) s.heap H locs →
      W p l e room_1 s m #[.ref b] below meth c H locs (k0 + t) (n0 + 6 * t) (lw_Z below #[.ref b] s) (F0 m 23 ls []) := by
  have hx := M.1.1
  have hb := M.1.2.1
  have hbA : ¬ (fun q : Nat => s.heap.size ≤ q) b := Nat.not_le.mpr hbl
  have hAn : ∀ q, q < s.heap.size → ¬ (fun q : Nat => s.heap.size ≤ q) q := fun q h => Nat.not_le.mpr h
  intro n
  induction n with
  | zero =>
    intro t v4 σ hv ht0 hr
    have hr : (none : Option Int32) = some 1 := hr
    cases hr
  | succ n ih =>
    intro t v4 σ hv ht0 hr ls H locs hl I
    rw [l_L_law] at hr
    refine lv_iload hx hb dL_law_23 (lv_at hl 4 rfl) ?_
    refine lv_aload_n hx hb dL_law_25 rfl (lv_at hl 0 rfl) ?_
    refine va_slen hx hb hX hbl hbA I.2.2 dL_law_26 ?_
    refine lv_iconst (v := (5 : Int32)) hx hb dL_law_27 (by decide) ?_
    refine lv_isub hx hb dL_law_28 ?_
    refine lv_icmp_gt (tgt := 1677) hx hb dL_law_29 (by decide) (fun c276 => ?_) (fun c276 => ?_)
    · replace hr := zif_t hr c276
      refine lv_iconst (v := (1 : Int32)) hx hb dL_law_1677 (by decide) ?_
      refine W.widen (k := 601024) (n := 7293033) (by omega) (by omega) ?_
      refine va_forget (fun q hq => I.2.2.2.2 q hq) ?_
      refine W.base ?_
      exact lw_ret (Drawn.sameBut.refl s.drawn lw_cs) hx hb M.2.1 M.2.2.1 dL_law_1678
    · replace hr := zif_f hr c276
      have ht := zlawt hL hv c276 ht0
      have hcs0 : k0 + t ≤ room_1.cells ∧ n0 + 6 * t ≤ room_1.slots := ⟨by show k0 + t ≤ 601024; omega, by show n0 + 6 * t ≤ 7293033; omega⟩
      have hcs1 : k0 + t + 1 ≤ room_1.cells ∧ n0 + 6 * t + 6 ≤ room_1.slots := ⟨by show k0 + t + 1 ≤ 601024; omega, by show n0 + 6 * t + 6 ≤ 7293033; omega⟩
      refine lv_aload_n hx hb dL_law_32 rfl (lv_at hl 0 rfl) ?_
      refine lv_iload hx hb dL_law_33 (lv_at hl 4 rfl) ?_
      obtain ⟨x1, e_x1, hr⟩ := zb_some hr
      refine va_sld hx hb hX hbl hbA I.2.2 (zsx_some e_x1).1 dL_law_35 ?_
      rw [← (zsx_some e_x1).2]
      refine lv_bipush (v := (31 : Int32)) hx hb dL_law_36 (by decide) ?_
      refine lv_iand hx hb dL_law_38 ?_
      by_cases c2 : (x1 &&& (31 : Int32)) = (0 : Int32)
      · replace hr := zif_t hr c2
        refine lv_tableIn (tgt := 160) hx hb dL_law_39 (by rw [c2]; decide) (by rw [c2]; decide) (by rw [c2]; try rfl) (by decide) ?_
        refine lv_aload_n hx hb dL_law_160 rfl (lv_at hl 1 rfl) ?_
        refine lv_aload_n hx hb dL_law_161 rfl (lv_at hl 0 rfl) ?_
        refine lv_iload hx hb dL_law_162 (lv_at hl 4 rfl) ?_
        refine lv_iconst (v := (1 : Int32)) hx hb dL_law_164 (by decide) ?_
        refine lv_iadd hx hb dL_law_165 ?_
        obtain ⟨x3, e_x3, hr⟩ := zb_some hr
        refine va_sld hx hb hX hbl hbA I.2.2 (zsx_some e_x3).1 dL_law_166 ?_
        rw [← (zsx_some e_x3).2]
        refine lv_aload_n hx hb dL_law_167 rfl (lv_at hl 0 rfl) ?_
        refine lv_iload hx hb dL_law_168 (lv_at hl 4 rfl) ?_
        refine lv_iconst (v := (2 : Int32)) hx hb dL_law_170 (by decide) ?_
        refine lv_iadd hx hb dL_law_171 ?_
        obtain ⟨x4, e_x4, hr⟩ := zb_some hr
        refine va_sld hx hb hX hbl hbA I.2.2 (zsx_some e_x4).1 dL_law_172 ?_
        rw [← (zsx_some e_x4).2]
        refine lv_aload_n hx hb dL_law_173 rfl (lv_at hl 0 rfl) ?_
        refine lv_iload hx hb dL_law_174 (lv_at hl 4 rfl) ?_
        refine lv_iconst (v := (3 : Int32)) hx hb dL_law_176 (by decide) ?_
        refine lv_iadd hx hb dL_law_177 ?_
        obtain ⟨x5, e_x5, hr⟩ := zb_some hr
        refine va_sld hx hb hX hbl hbA I.2.2 (zsx_some e_x5).1 dL_law_178 ?_
        rw [← (zsx_some e_x5).2]
        refine lv_aload_n hx hb dL_law_179 rfl (lv_at hl 3 rfl) ?_
        obtain ⟨x6, e_x6, hr⟩ := zb_some hr
        refine zcallI1 M I (zrunW (as := [.ref (zA g 0), .int x3, .int x4, .int x5, .ref (zA g 124)]) M hpx hnc hAn I (c_L_put l hl0 g fu e_x6) zlw_87 ⟨Nat.le_of_ble_eq_true rfl, Nat.le_of_ble_eq_true rfl⟩ hcs1 rfl rfl (Nat.le_of_ble_eq_true rfl) hl.1 dL_law_180) (fun H locs I => ?_)
        refine lv_istore (lv' := [(5, .int x6.1), (0, .ref b), (1, .ref (zA g 0)), (2, .ref (zA g 103)), (3, .ref (zA g 124)), (4, .int v4)]) hx hb dL_law_183 hl (by decide) rfl (fun ls hl => ?_)
        refine lv_aload_n hx hb dL_law_185 rfl (lv_at hl 3 rfl) ?_
        refine lv_aload_n hx hb dL_law_186 rfl (lv_at hl 1 rfl) ?_
        refine lv_iload hx hb dL_law_187 (lv_at hl 5 rfl) ?_
        refine lv_iconst (v := (1 : Int32)) hx hb dL_law_189 (by decide) ?_
        refine lv_iadd hx hb dL_law_190 ?_
        obtain ⟨x7, e_x7, hr⟩ := zb_some hr
        refine va_sld hx hb hX hbl hbA I.2.2 (zsx_some e_x7).1 dL_law_191 ?_
        rw [← (zsx_some e_x7).2]
        refine lv_aload_n hx hb dL_law_192 rfl (lv_at hl 1 rfl) ?_
        refine lv_iload hx hb dL_law_193 (lv_at hl 5 rfl) ?_
        refine lv_iconst (v := (2 : Int32)) hx hb dL_law_195 (by decide) ?_
        refine lv_iadd hx hb dL_law_196 ?_
        obtain ⟨x8, e_x8, hr⟩ := zb_some hr
        refine va_sld hx hb hX hbl hbA I.2.2 (zsx_some e_x8).1 dL_law_197 ?_
        rw [← (zsx_some e_x8).2]
        refine lv_aload_n hx hb dL_law_198 rfl (lv_at hl 1 rfl) ?_
        refine lv_iload hx hb dL_law_199 (lv_at hl 5 rfl) ?_
        refine lv_iconst (v := (3 : Int32)) hx hb dL_law_201 (by decide) ?_
        refine lv_iadd hx hb dL_law_202 ?_
        obtain ⟨x9, e_x9, hr⟩ := zb_some hr
        refine va_sld hx hb hX hbl hbA I.2.2 (zsx_some e_x9).1 dL_law_203 ?_
        rw [← (zsx_some e_x9).2]
        obtain ⟨x10, e_x10, hr⟩ := zb_some hr
        refine zcallI M I (zrunV (as := [.int x7, .int x8, .int x9]) M I (c_X11_put l g fu e_x10) zc_103 zK11.1 (by decide) zlv_L_92 ⟨Nat.le_of_ble_eq_true rfl, Nat.le_of_ble_eq_true rfl⟩ hcs1 rfl rfl (Nat.le_of_ble_eq_true rfl) hl.1 dL_law_204) (fun H locs I => ?_)
        refine lv_istore (lv' := [(6, .int x10.1), (5, .int x6.1), (0, .ref b), (1, .ref (zA g 0)), (2, .ref (zA g 103)), (3, .ref (zA g 124)), (4, .int v4)]) hx hb dL_law_207 hl (by decide) rfl (fun ls hl => ?_)
        refine lv_aload_n hx hb dL_law_209 rfl (lv_at hl 4 rfl) ?_
        obtain ⟨x11, e_x11, hr⟩ := zb_some hr
        refine zcallI M I (zrunV (as := []) M I (c_X11_thrown l g fu e_x11) zc_103 zK11.1 (by decide) zlv_L_93 ⟨Nat.le_of_ble_eq_true rfl, Nat.le_of_ble_eq_true rfl⟩ hcs1 rfl rfl (Nat.le_of_ble_eq_true rfl) hl.1 dL_law_210) (fun H locs I => ?_)
        refine lv_iload hx hb dL_law_213 (lv_at hl 1 rfl) ?_
        refine lv_icmp_eq (tgt := 220) hx hb dL_law_215 (by decide) (fun c15 => ?_) (fun c15 => ?_)
        · replace hr := zif_t hr c15
          refine lv_iload hx hb dL_law_220 (lv_at hl 1 rfl) ?_
          refine lv_if_ne (tgt := 237) hx hb dL_law_222 (by decide) (fun c14 => ?_) (fun c14 => ?_)
          · replace hr := zif_t hr c14
            refine lv_goto (tgt := 1671) hx hb dL_law_237 (by decide) ?_
            refine lv_iinc (lv' := [(4, .int (v4 + 5)), (6, .int x10.1), (5, .int x6.1), (0, .ref b), (1, .ref (zA g 0)), (2, .ref (zA g 103)), (3, .ref (zA g 124))]) (k := 6) (v := (v4 + 5)) hx hb dL_law_1671 hl rfl (zi_5 _) (by decide) rfl (fun ls hl => ?_)
            refine lv_goto (tgt := 23) hx hb dL_law_1674 (by decide) ?_
            refine W.widen (k := k0 + (t + 1)) (n := n0 + 6 * (t + 1)) (by omega) (by omega) ?_
            exact ih (t + 1) _ _ (zlaw5 hv) (by omega) hr ls _ _ (lv_sub hl [3, 4, 5, 6, 0] rfl) I
          · replace hr := zif_f hr (fun hq => hq c14)
            refine lv_aload_n hx hb dL_law_225 rfl (lv_at hl 5 rfl) ?_
            refine lv_iconst (v := (0 : Int32)) hx hb dL_law_226 (by decide) ?_
            obtain ⟨x12, e_x12, hr⟩ := zb_some hr
            refine zlald M I zc_124 e_x12 dL_law_227 ?_
            refine lv_iload hx hb dL_law_228 (lv_at hl 0 rfl) ?_
            refine lv_i2l (v := (x10.1.toInt64)) hx hb dL_law_230 rfl ?_
            refine W.lcmp hx hb dL_law_231 ?_
            refine lv_if_eq (tgt := 237) hx hb dL_law_232 (by decide) (fun c13 => ?_) (fun c13 => ?_)
            · replace hr := zif_t hr c13
              refine lv_goto (tgt := 1671) hx hb dL_law_237 (by decide) ?_
              refine lv_iinc (lv' := [(4, .int (v4 + 5)), (6, .int x10.1), (5, .int x6.1), (0, .ref b), (1, .ref (zA g 0)), (2, .ref (zA g 103)), (3, .ref (zA g 124))]) (k := 6) (v := (v4 + 5)) hx hb dL_law_1671 hl rfl (zi_5 _) (by decide) rfl (fun ls hl => ?_)
              refine lv_goto (tgt := 23) hx hb dL_law_1674 (by decide) ?_
              refine W.widen (k := k0 + (t + 1)) (n := n0 + 6 * (t + 1)) (by omega) (by omega) ?_
              exact ih (t + 1) _ _ (zlaw5 hv) (by omega) hr ls _ _ (lv_sub hl [3, 4, 5, 6, 0] rfl) I
            · replace hr := zif_f hr c13
              refine lv_iconst (v := (0 : Int32)) hx hb dL_law_235 (by decide) ?_
              exact absurd (Option.some.inj hr) (by decide)
        · replace hr := zif_f hr c15
          refine lv_iconst (v := (0 : Int32)) hx hb dL_law_218 (by decide) ?_
          exact absurd (Option.some.inj hr) (by decide)
      · replace hr := zif_f hr c2
        by_cases c16 : (x1 &&& (31 : Int32)) = (1 : Int32)
        · replace hr := zif_t hr c16
          refine lv_tableIn (tgt := 240) hx hb dL_law_39 (by rw [c16]; decide) (by rw [c16]; decide) (by rw [c16]; try rfl) (by decide) ?_
          refine lv_aload_n hx hb dL_law_240 rfl (lv_at hl 1 rfl) ?_
          refine lv_aload_n hx hb dL_law_241 rfl (lv_at hl 0 rfl) ?_
          refine lv_iload hx hb dL_law_242 (lv_at hl 4 rfl) ?_
          refine lv_iconst (v := (1 : Int32)) hx hb dL_law_244 (by decide) ?_
          refine lv_iadd hx hb dL_law_245 ?_
          obtain ⟨x17, e_x17, hr⟩ := zb_some hr
          refine va_sld hx hb hX hbl hbA I.2.2 (zsx_some e_x17).1 dL_law_246 ?_
          rw [← (zsx_some e_x17).2]
          refine lv_aload_n hx hb dL_law_247 rfl (lv_at hl 0 rfl) ?_
          refine lv_iload hx hb dL_law_248 (lv_at hl 4 rfl) ?_
          refine lv_iconst (v := (2 : Int32)) hx hb dL_law_250 (by decide) ?_
          refine lv_iadd hx hb dL_law_251 ?_
          obtain ⟨x18, e_x18, hr⟩ := zb_some hr
          refine va_sld hx hb hX hbl hbA I.2.2 (zsx_some e_x18).1 dL_law_252 ?_
          rw [← (zsx_some e_x18).2]
          refine lv_aload_n hx hb dL_law_253 rfl (lv_at hl 0 rfl) ?_
          refine lv_iload hx hb dL_law_254 (lv_at hl 4 rfl) ?_
          refine lv_iconst (v := (3 : Int32)) hx hb dL_law_256 (by decide) ?_
          refine lv_iadd hx hb dL_law_257 ?_
          obtain ⟨x19, e_x19, hr⟩ := zb_some hr
          refine va_sld hx hb hX hbl hbA I.2.2 (zsx_some e_x19).1 dL_law_258 ?_
          rw [← (zsx_some e_x19).2]
          refine lv_aload_n hx hb dL_law_259 rfl (lv_at hl 3 rfl) ?_
          obtain ⟨x20, e_x20, hr⟩ := zb_some hr
          refine zcallI1 M I (zrunW (as := [.ref (zA g 0), .int x17, .int x18, .int x19, .ref (zA g 124)]) M hpx hnc hAn I (c_L_take l hl0 g fu e_x20) zlw_96 ⟨Nat.le_of_ble_eq_true rfl, Nat.le_of_ble_eq_true rfl⟩ hcs1 rfl rfl (Nat.le_of_ble_eq_true rfl) hl.1 dL_law_260) (fun H locs I => ?_)
          refine lv_istore (lv' := [(5, .int x20.1), (0, .ref b), (1, .ref (zA g 0)), (2, .ref (zA g 103)), (3, .ref (zA g 124)), (4, .int v4)]) hx hb dL_law_263 hl (by decide) rfl (fun ls hl => ?_)
          refine lv_aload_n hx hb dL_law_265 rfl (lv_at hl 3 rfl) ?_
          refine lv_aload_n hx hb dL_law_266 rfl (lv_at hl 1 rfl) ?_
          refine lv_iload hx hb dL_law_267 (lv_at hl 5 rfl) ?_
          refine lv_iconst (v := (1 : Int32)) hx hb dL_law_269 (by decide) ?_
          refine lv_iadd hx hb dL_law_270 ?_
          obtain ⟨x21, e_x21, hr⟩ := zb_some hr
          refine va_sld hx hb hX hbl hbA I.2.2 (zsx_some e_x21).1 dL_law_271 ?_
          rw [← (zsx_some e_x21).2]
          refine lv_aload_n hx hb dL_law_272 rfl (lv_at hl 1 rfl) ?_
          refine lv_iload hx hb dL_law_273 (lv_at hl 5 rfl) ?_
          refine lv_iconst (v := (2 : Int32)) hx hb dL_law_275 (by decide) ?_
          refine lv_iadd hx hb dL_law_276 ?_
          obtain ⟨x22, e_x22, hr⟩ := zb_some hr
          refine va_sld hx hb hX hbl hbA I.2.2 (zsx_some e_x22).1 dL_law_277 ?_
          rw [← (zsx_some e_x22).2]
          refine lv_aload_n hx hb dL_law_278 rfl (lv_at hl 1 rfl) ?_
          refine lv_iload hx hb dL_law_279 (lv_at hl 5 rfl) ?_
          refine lv_iconst (v := (3 : Int32)) hx hb dL_law_281 (by decide) ?_
          refine lv_iadd hx hb dL_law_282 ?_
          obtain ⟨x23, e_x23, hr⟩ := zb_some hr
          refine va_sld hx hb hX hbl hbA I.2.2 (zsx_some e_x23).1 dL_law_283 ?_
          rw [← (zsx_some e_x23).2]
          obtain ⟨x24, e_x24, hr⟩ := zb_some hr
          refine zcallI M I (zrunV (as := [.int x21, .int x22, .int x23]) M I (c_X11_take l g fu e_x24) zc_103 zK11.1 (by decide) zlv_L_98 ⟨Nat.le_of_ble_eq_true rfl, Nat.le_of_ble_eq_true rfl⟩ hcs1 rfl rfl (Nat.le_of_ble_eq_true rfl) hl.1 dL_law_284) (fun H locs I => ?_)
          refine lv_istore (lv' := [(6, .int x24.1), (5, .int x20.1), (0, .ref b), (1, .ref (zA g 0)), (2, .ref (zA g 103)), (3, .ref (zA g 124)), (4, .int v4)]) hx hb dL_law_287 hl (by decide) rfl (fun ls hl => ?_)
          refine lv_aload_n hx hb dL_law_289 rfl (lv_at hl 4 rfl) ?_
          obtain ⟨x25, e_x25, hr⟩ := zb_some hr
          refine zcallI M I (zrunV (as := []) M I (c_X11_thrown l g fu e_x25) zc_103 zK11.1 (by decide) zlv_L_93 ⟨Nat.le_of_ble_eq_true rfl, Nat.le_of_ble_eq_true rfl⟩ hcs1 rfl rfl (Nat.le_of_ble_eq_true rfl) hl.1 dL_law_290) (fun H locs I => ?_)
          refine lv_iload hx hb dL_law_293 (lv_at hl 1 rfl) ?_
          refine lv_icmp_eq (tgt := 300) hx hb dL_law_295 (by decide) (fun c29 => ?_) (fun c29 => ?_)
          · replace hr := zif_t hr c29
            refine lv_iload hx hb dL_law_300 (lv_at hl 1 rfl) ?_
            refine lv_if_ne (tgt := 317) hx hb dL_law_302 (by decide) (fun c28 => ?_) (fun c28 => ?_)
            · replace hr := zif_t hr c28
              refine lv_goto (tgt := 1671) hx hb dL_law_317 (by decide) ?_
              refine lv_iinc (lv' := [(4, .int (v4 + 5)), (6, .int x24.1), (5, .int x20.1), (0, .ref b), (1, .ref (zA g 0)), (2, .ref (zA g 103)), (3, .ref (zA g 124))]) (k := 6) (v := (v4 + 5)) hx hb dL_law_1671 hl rfl (zi_5 _) (by decide) rfl (fun ls hl => ?_)
              refine lv_goto (tgt := 23) hx hb dL_law_1674 (by decide) ?_
              refine W.widen (k := k0 + (t + 1)) (n := n0 + 6 * (t + 1)) (by omega) (by omega) ?_
              exact ih (t + 1) _ _ (zlaw5 hv) (by omega) hr ls _ _ (lv_sub hl [3, 4, 5, 6, 0] rfl) I
            · replace hr := zif_f hr (fun hq => hq c28)
              refine lv_aload_n hx hb dL_law_305 rfl (lv_at hl 5 rfl) ?_
              refine lv_iconst (v := (0 : Int32)) hx hb dL_law_306 (by decide) ?_
              obtain ⟨x26, e_x26, hr⟩ := zb_some hr
              refine zlald M I zc_124 e_x26 dL_law_307 ?_
              refine lv_iload hx hb dL_law_308 (lv_at hl 0 rfl) ?_
              refine lv_i2l (v := (x24.1.toInt64)) hx hb dL_law_310 rfl ?_
              refine W.lcmp hx hb dL_law_311 ?_
              refine lv_if_eq (tgt := 317) hx hb dL_law_312 (by decide) (fun c27 => ?_) (fun c27 => ?_)
              · replace hr := zif_t hr c27
                refine lv_goto (tgt := 1671) hx hb dL_law_317 (by decide) ?_
                refine lv_iinc (lv' := [(4, .int (v4 + 5)), (6, .int x24.1), (5, .int x20.1), (0, .ref b), (1, .ref (zA g 0)), (2, .ref (zA g 103)), (3, .ref (zA g 124))]) (k := 6) (v := (v4 + 5)) hx hb dL_law_1671 hl rfl (zi_5 _) (by decide) rfl (fun ls hl => ?_)
                refine lv_goto (tgt := 23) hx hb dL_law_1674 (by decide) ?_
                refine W.widen (k := k0 + (t + 1)) (n := n0 + 6 * (t + 1)) (by omega) (by omega) ?_
                exact ih (t + 1) _ _ (zlaw5 hv) (by omega) hr ls _ _ (lv_sub hl [3, 4, 5, 6, 0] rfl) I
              · replace hr := zif_f hr c27
                refine lv_iconst (v := (0 : Int32)) hx hb dL_law_315 (by decide) ?_
                exact absurd (Option.some.inj hr) (by decide)
          · replace hr := zif_f hr c29
            refine lv_iconst (v := (0 : Int32)) hx hb dL_law_298 (by decide) ?_
            exact absurd (Option.some.inj hr) (by decide)
        · replace hr := zif_f hr c16
          by_cases c30 : (x1 &&& (31 : Int32)) = (2 : Int32)
          · replace hr := zif_t hr c30
            refine lv_tableIn (tgt := 320) hx hb dL_law_39 (by rw [c30]; decide) (by rw [c30]; decide) (by rw [c30]; try rfl) (by decide) ?_
            refine lv_aload_n hx hb dL_law_320 rfl (lv_at hl 1 rfl) ?_
            refine lv_aload_n hx hb dL_law_321 rfl (lv_at hl 0 rfl) ?_
            refine lv_iload hx hb dL_law_322 (lv_at hl 4 rfl) ?_
            refine lv_iconst (v := (1 : Int32)) hx hb dL_law_324 (by decide) ?_
            refine lv_iadd hx hb dL_law_325 ?_
            obtain ⟨x31, e_x31, hr⟩ := zb_some hr
            refine va_sld hx hb hX hbl hbA I.2.2 (zsx_some e_x31).1 dL_law_326 ?_
            rw [← (zsx_some e_x31).2]
            refine lv_aload_n hx hb dL_law_327 rfl (lv_at hl 0 rfl) ?_
            refine lv_iload hx hb dL_law_328 (lv_at hl 4 rfl) ?_
            refine lv_iconst (v := (2 : Int32)) hx hb dL_law_330 (by decide) ?_
            refine lv_iadd hx hb dL_law_331 ?_
            obtain ⟨x32, e_x32, hr⟩ := zb_some hr
            refine va_sld hx hb hX hbl hbA I.2.2 (zsx_some e_x32).1 dL_law_332 ?_
            rw [← (zsx_some e_x32).2]
            refine lv_aload_n hx hb dL_law_333 rfl (lv_at hl 0 rfl) ?_
            refine lv_iload hx hb dL_law_334 (lv_at hl 4 rfl) ?_
            refine lv_iconst (v := (3 : Int32)) hx hb dL_law_336 (by decide) ?_
            refine lv_iadd hx hb dL_law_337 ?_
            obtain ⟨x33, e_x33, hr⟩ := zb_some hr
            refine va_sld hx hb hX hbl hbA I.2.2 (zsx_some e_x33).1 dL_law_338 ?_
            rw [← (zsx_some e_x33).2]
            refine lv_aload_n hx hb dL_law_339 rfl (lv_at hl 3 rfl) ?_
            obtain ⟨x34, e_x34, hr⟩ := zb_some hr
            refine zcallI1 M I (zrunW (as := [.ref (zA g 0), .int x31, .int x32, .int x33, .ref (zA g 124)]) M hpx hnc hAn I (c_L_change l hl0 g fu e_x34) zlw_99 ⟨Nat.le_of_ble_eq_true rfl, Nat.le_of_ble_eq_true rfl⟩ hcs1 rfl rfl (Nat.le_of_ble_eq_true rfl) hl.1 dL_law_340) (fun H locs I => ?_)
            refine lv_istore (lv' := [(5, .int x34.1), (0, .ref b), (1, .ref (zA g 0)), (2, .ref (zA g 103)), (3, .ref (zA g 124)), (4, .int v4)]) hx hb dL_law_343 hl (by decide) rfl (fun ls hl => ?_)
            refine lv_aload_n hx hb dL_law_345 rfl (lv_at hl 3 rfl) ?_
            refine lv_aload_n hx hb dL_law_346 rfl (lv_at hl 1 rfl) ?_
            refine lv_iload hx hb dL_law_347 (lv_at hl 5 rfl) ?_
            refine lv_iconst (v := (1 : Int32)) hx hb dL_law_349 (by decide) ?_
            refine lv_iadd hx hb dL_law_350 ?_
            obtain ⟨x35, e_x35, hr⟩ := zb_some hr
            refine va_sld hx hb hX hbl hbA I.2.2 (zsx_some e_x35).1 dL_law_351 ?_
            rw [← (zsx_some e_x35).2]
            refine lv_aload_n hx hb dL_law_352 rfl (lv_at hl 1 rfl) ?_
            refine lv_iload hx hb dL_law_353 (lv_at hl 5 rfl) ?_
            refine lv_iconst (v := (2 : Int32)) hx hb dL_law_355 (by decide) ?_
            refine lv_iadd hx hb dL_law_356 ?_
            obtain ⟨x36, e_x36, hr⟩ := zb_some hr
            refine va_sld hx hb hX hbl hbA I.2.2 (zsx_some e_x36).1 dL_law_357 ?_
            rw [← (zsx_some e_x36).2]
            refine lv_aload_n hx hb dL_law_358 rfl (lv_at hl 1 rfl) ?_
            refine lv_iload hx hb dL_law_359 (lv_at hl 5 rfl) ?_
            refine lv_iconst (v := (3 : Int32)) hx hb dL_law_361 (by decide) ?_
            refine lv_iadd hx hb dL_law_362 ?_
            obtain ⟨x37, e_x37, hr⟩ := zb_some hr
            refine va_sld hx hb hX hbl hbA I.2.2 (zsx_some e_x37).1 dL_law_363 ?_
            rw [← (zsx_some e_x37).2]
            obtain ⟨x38, e_x38, hr⟩ := zb_some hr
            refine zcallI M I (zrunV (as := [.int x35, .int x36, .int x37]) M I (c_X11_change l g fu e_x38) zc_103 zK11.1 (by decide) zlv_L_101 ⟨Nat.le_of_ble_eq_true rfl, Nat.le_of_ble_eq_true rfl⟩ hcs1 rfl rfl (Nat.le_of_ble_eq_true rfl) hl.1 dL_law_364) (fun H locs I => ?_)
            refine lv_istore (lv' := [(6, .int x38.1), (5, .int x34.1), (0, .ref b), (1, .ref (zA g 0)), (2, .ref (zA g 103)), (3, .ref (zA g 124)), (4, .int v4)]) hx hb dL_law_367 hl (by decide) rfl (fun ls hl => ?_)
            refine lv_aload_n hx hb dL_law_369 rfl (lv_at hl 4 rfl) ?_
            obtain ⟨x39, e_x39, hr⟩ := zb_some hr
            refine zcallI M I (zrunV (as := []) M I (c_X11_thrown l g fu e_x39) zc_103 zK11.1 (by decide) zlv_L_93 ⟨Nat.le_of_ble_eq_true rfl, Nat.le_of_ble_eq_true rfl⟩ hcs1 rfl rfl (Nat.le_of_ble_eq_true rfl) hl.1 dL_law_370) (fun H locs I => ?_)
            refine lv_iload hx hb dL_law_373 (lv_at hl 1 rfl) ?_
            refine lv_icmp_eq (tgt := 380) hx hb dL_law_375 (by decide) (fun c43 => ?_) (fun c43 => ?_)
            · replace hr := zif_t hr c43
              refine lv_iload hx hb dL_law_380 (lv_at hl 1 rfl) ?_
              refine lv_if_ne (tgt := 397) hx hb dL_law_382 (by decide) (fun c42 => ?_) (fun c42 => ?_)
              · replace hr := zif_t hr c42
                refine lv_goto (tgt := 1671) hx hb dL_law_397 (by decide) ?_
                refine lv_iinc (lv' := [(4, .int (v4 + 5)), (6, .int x38.1), (5, .int x34.1), (0, .ref b), (1, .ref (zA g 0)), (2, .ref (zA g 103)), (3, .ref (zA g 124))]) (k := 6) (v := (v4 + 5)) hx hb dL_law_1671 hl rfl (zi_5 _) (by decide) rfl (fun ls hl => ?_)
                refine lv_goto (tgt := 23) hx hb dL_law_1674 (by decide) ?_
                refine W.widen (k := k0 + (t + 1)) (n := n0 + 6 * (t + 1)) (by omega) (by omega) ?_
                exact ih (t + 1) _ _ (zlaw5 hv) (by omega) hr ls _ _ (lv_sub hl [3, 4, 5, 6, 0] rfl) I
              · replace hr := zif_f hr (fun hq => hq c42)
                refine lv_aload_n hx hb dL_law_385 rfl (lv_at hl 5 rfl) ?_
                refine lv_iconst (v := (0 : Int32)) hx hb dL_law_386 (by decide) ?_
                obtain ⟨x40, e_x40, hr⟩ := zb_some hr
                refine zlald M I zc_124 e_x40 dL_law_387 ?_
                refine lv_iload hx hb dL_law_388 (lv_at hl 0 rfl) ?_
                refine lv_i2l (v := (x38.1.toInt64)) hx hb dL_law_390 rfl ?_
                refine W.lcmp hx hb dL_law_391 ?_
                refine lv_if_eq (tgt := 397) hx hb dL_law_392 (by decide) (fun c41 => ?_) (fun c41 => ?_)
                · replace hr := zif_t hr c41
                  refine lv_goto (tgt := 1671) hx hb dL_law_397 (by decide) ?_
                  refine lv_iinc (lv' := [(4, .int (v4 + 5)), (6, .int x38.1), (5, .int x34.1), (0, .ref b), (1, .ref (zA g 0)), (2, .ref (zA g 103)), (3, .ref (zA g 124))]) (k := 6) (v := (v4 + 5)) hx hb dL_law_1671 hl rfl (zi_5 _) (by decide) rfl (fun ls hl => ?_)
                  refine lv_goto (tgt := 23) hx hb dL_law_1674 (by decide) ?_
                  refine W.widen (k := k0 + (t + 1)) (n := n0 + 6 * (t + 1)) (by omega) (by omega) ?_
                  exact ih (t + 1) _ _ (zlaw5 hv) (by omega) hr ls _ _ (lv_sub hl [3, 4, 5, 6, 0] rfl) I
                · replace hr := zif_f hr c41
                  refine lv_iconst (v := (0 : Int32)) hx hb dL_law_395 (by decide) ?_
                  exact absurd (Option.some.inj hr) (by decide)
            · replace hr := zif_f hr c43
              refine lv_iconst (v := (0 : Int32)) hx hb dL_law_378 (by decide) ?_
              exact absurd (Option.some.inj hr) (by decide)
          · replace hr := zif_f hr c30
            by_cases c44 : (x1 &&& (31 : Int32)) = (3 : Int32)
            · replace hr := zif_t hr c44
              refine lv_tableIn (tgt := 400) hx hb dL_law_39 (by rw [c44]; decide) (by rw [c44]; decide) (by rw [c44]; try rfl) (by decide) ?_
              refine lv_aload_n hx hb dL_law_400 rfl (lv_at hl 1 rfl) ?_
              refine lv_aload_n hx hb dL_law_401 rfl (lv_at hl 0 rfl) ?_
              refine lv_iload hx hb dL_law_402 (lv_at hl 4 rfl) ?_
              refine lv_iconst (v := (1 : Int32)) hx hb dL_law_404 (by decide) ?_
              refine lv_iadd hx hb dL_law_405 ?_
              obtain ⟨x45, e_x45, hr⟩ := zb_some hr
              refine va_sld hx hb hX hbl hbA I.2.2 (zsx_some e_x45).1 dL_law_406 ?_
              rw [← (zsx_some e_x45).2]
              refine lv_aload_n hx hb dL_law_407 rfl (lv_at hl 0 rfl) ?_
              refine lv_iload hx hb dL_law_408 (lv_at hl 4 rfl) ?_
              refine lv_iconst (v := (2 : Int32)) hx hb dL_law_410 (by decide) ?_
              refine lv_iadd hx hb dL_law_411 ?_
              obtain ⟨x46, e_x46, hr⟩ := zb_some hr
              refine va_sld hx hb hX hbl hbA I.2.2 (zsx_some e_x46).1 dL_law_412 ?_
              rw [← (zsx_some e_x46).2]
              refine lv_aload_n hx hb dL_law_413 rfl (lv_at hl 0 rfl) ?_
              refine lv_iload hx hb dL_law_414 (lv_at hl 4 rfl) ?_
              refine lv_iconst (v := (3 : Int32)) hx hb dL_law_416 (by decide) ?_
              refine lv_iadd hx hb dL_law_417 ?_
              obtain ⟨x47, e_x47, hr⟩ := zb_some hr
              refine va_sld hx hb hX hbl hbA I.2.2 (zsx_some e_x47).1 dL_law_418 ?_
              rw [← (zsx_some e_x47).2]
              refine lv_aload_n hx hb dL_law_419 rfl (lv_at hl 3 rfl) ?_
              obtain ⟨x48, e_x48, hr⟩ := zb_some hr
              refine zcallI1 M I (zrunW (as := [.ref (zA g 0), .int x45, .int x46, .int x47, .ref (zA g 124)]) M hpx hnc hAn I (c_L_turn l hl0 g fu e_x48) zlw_102 ⟨Nat.le_of_ble_eq_true rfl, Nat.le_of_ble_eq_true rfl⟩ hcs1 rfl rfl (Nat.le_of_ble_eq_true rfl) hl.1 dL_law_420) (fun H locs I => ?_)
              refine lv_istore (lv' := [(5, .int x48.1), (0, .ref b), (1, .ref (zA g 0)), (2, .ref (zA g 103)), (3, .ref (zA g 124)), (4, .int v4)]) hx hb dL_law_423 hl (by decide) rfl (fun ls hl => ?_)
              refine lv_aload_n hx hb dL_law_425 rfl (lv_at hl 3 rfl) ?_
              refine lv_aload_n hx hb dL_law_426 rfl (lv_at hl 1 rfl) ?_
              refine lv_iload hx hb dL_law_427 (lv_at hl 5 rfl) ?_
              refine lv_iconst (v := (1 : Int32)) hx hb dL_law_429 (by decide) ?_
              refine lv_iadd hx hb dL_law_430 ?_
              obtain ⟨x49, e_x49, hr⟩ := zb_some hr
              refine va_sld hx hb hX hbl hbA I.2.2 (zsx_some e_x49).1 dL_law_431 ?_
              rw [← (zsx_some e_x49).2]
              refine lv_aload_n hx hb dL_law_432 rfl (lv_at hl 1 rfl) ?_
              refine lv_iload hx hb dL_law_433 (lv_at hl 5 rfl) ?_
              refine lv_iconst (v := (2 : Int32)) hx hb dL_law_435 (by decide) ?_
              refine lv_iadd hx hb dL_law_436 ?_
              obtain ⟨x50, e_x50, hr⟩ := zb_some hr
              refine va_sld hx hb hX hbl hbA I.2.2 (zsx_some e_x50).1 dL_law_437 ?_
              rw [← (zsx_some e_x50).2]
              refine lv_aload_n hx hb dL_law_438 rfl (lv_at hl 1 rfl) ?_
              refine lv_iload hx hb dL_law_439 (lv_at hl 5 rfl) ?_
              refine lv_iconst (v := (3 : Int32)) hx hb dL_law_441 (by decide) ?_
              refine lv_iadd hx hb dL_law_442 ?_
              obtain ⟨x51, e_x51, hr⟩ := zb_some hr
              refine va_sld hx hb hX hbl hbA I.2.2 (zsx_some e_x51).1 dL_law_443 ?_
              rw [← (zsx_some e_x51).2]
              obtain ⟨x52, e_x52, hr⟩ := zb_some hr
              refine zcallI M I (zrunV (as := [.int x49, .int x50, .int x51]) M I (c_X11_turn l g fu e_x52) zc_103 zK11.1 (by decide) zlv_L_104 ⟨Nat.le_of_ble_eq_true rfl, Nat.le_of_ble_eq_true rfl⟩ hcs1 rfl rfl (Nat.le_of_ble_eq_true rfl) hl.1 dL_law_444) (fun H locs I => ?_)
              refine lv_istore (lv' := [(6, .int x52.1), (5, .int x48.1), (0, .ref b), (1, .ref (zA g 0)), (2, .ref (zA g 103)), (3, .ref (zA g 124)), (4, .int v4)]) hx hb dL_law_447 hl (by decide) rfl (fun ls hl => ?_)
              refine lv_aload_n hx hb dL_law_449 rfl (lv_at hl 4 rfl) ?_
              obtain ⟨x53, e_x53, hr⟩ := zb_some hr
              refine zcallI M I (zrunV (as := []) M I (c_X11_thrown l g fu e_x53) zc_103 zK11.1 (by decide) zlv_L_93 ⟨Nat.le_of_ble_eq_true rfl, Nat.le_of_ble_eq_true rfl⟩ hcs1 rfl rfl (Nat.le_of_ble_eq_true rfl) hl.1 dL_law_450) (fun H locs I => ?_)
              refine lv_iload hx hb dL_law_453 (lv_at hl 1 rfl) ?_
              refine lv_icmp_eq (tgt := 460) hx hb dL_law_455 (by decide) (fun c57 => ?_) (fun c57 => ?_)
              · replace hr := zif_t hr c57
                refine lv_iload hx hb dL_law_460 (lv_at hl 1 rfl) ?_
                refine lv_if_ne (tgt := 477) hx hb dL_law_462 (by decide) (fun c56 => ?_) (fun c56 => ?_)
                · replace hr := zif_t hr c56
                  refine lv_goto (tgt := 1671) hx hb dL_law_477 (by decide) ?_
                  refine lv_iinc (lv' := [(4, .int (v4 + 5)), (6, .int x52.1), (5, .int x48.1), (0, .ref b), (1, .ref (zA g 0)), (2, .ref (zA g 103)), (3, .ref (zA g 124))]) (k := 6) (v := (v4 + 5)) hx hb dL_law_1671 hl rfl (zi_5 _) (by decide) rfl (fun ls hl => ?_)
                  refine lv_goto (tgt := 23) hx hb dL_law_1674 (by decide) ?_
                  refine W.widen (k := k0 + (t + 1)) (n := n0 + 6 * (t + 1)) (by omega) (by omega) ?_
                  exact ih (t + 1) _ _ (zlaw5 hv) (by omega) hr ls _ _ (lv_sub hl [3, 4, 5, 6, 0] rfl) I
                · replace hr := zif_f hr (fun hq => hq c56)
                  refine lv_aload_n hx hb dL_law_465 rfl (lv_at hl 5 rfl) ?_
                  refine lv_iconst (v := (0 : Int32)) hx hb dL_law_466 (by decide) ?_
                  obtain ⟨x54, e_x54, hr⟩ := zb_some hr
                  refine zlald M I zc_124 e_x54 dL_law_467 ?_
                  refine lv_iload hx hb dL_law_468 (lv_at hl 0 rfl) ?_
                  refine lv_i2l (v := (x52.1.toInt64)) hx hb dL_law_470 rfl ?_
                  refine W.lcmp hx hb dL_law_471 ?_
                  refine lv_if_eq (tgt := 477) hx hb dL_law_472 (by decide) (fun c55 => ?_) (fun c55 => ?_)
                  · replace hr := zif_t hr c55
                    refine lv_goto (tgt := 1671) hx hb dL_law_477 (by decide) ?_
                    refine lv_iinc (lv' := [(4, .int (v4 + 5)), (6, .int x52.1), (5, .int x48.1), (0, .ref b), (1, .ref (zA g 0)), (2, .ref (zA g 103)), (3, .ref (zA g 124))]) (k := 6) (v := (v4 + 5)) hx hb dL_law_1671 hl rfl (zi_5 _) (by decide) rfl (fun ls hl => ?_)
                    refine lv_goto (tgt := 23) hx hb dL_law_1674 (by decide) ?_
                    refine W.widen (k := k0 + (t + 1)) (n := n0 + 6 * (t + 1)) (by omega) (by omega) ?_
                    exact ih (t + 1) _ _ (zlaw5 hv) (by omega) hr ls _ _ (lv_sub hl [3, 4, 5, 6, 0] rfl) I
                  · replace hr := zif_f hr c55
                    refine lv_iconst (v := (0 : Int32)) hx hb dL_law_475 (by decide) ?_
                    exact absurd (Option.some.inj hr) (by decide)
              · replace hr := zif_f hr c57
                refine lv_iconst (v := (0 : Int32)) hx hb dL_law_458 (by decide) ?_
                exact absurd (Option.some.inj hr) (by decide)
            · replace hr := zif_f hr c44
              by_cases c58 : (x1 &&& (31 : Int32)) = (4 : Int32)
              · replace hr := zif_t hr c58
                refine lv_tableIn (tgt := 480) hx hb dL_law_39 (by rw [c58]; decide) (by rw [c58]; decide) (by rw [c58]; try rfl) (by decide) ?_
                refine lv_aload_n hx hb dL_law_480 rfl (lv_at hl 1 rfl) ?_
                refine lv_aload_n hx hb dL_law_481 rfl (lv_at hl 0 rfl) ?_
                refine lv_iload hx hb dL_law_482 (lv_at hl 4 rfl) ?_
                refine lv_iconst (v := (1 : Int32)) hx hb dL_law_484 (by decide) ?_
                refine lv_iadd hx hb dL_law_485 ?_
                obtain ⟨x59, e_x59, hr⟩ := zb_some hr
                refine va_sld hx hb hX hbl hbA I.2.2 (zsx_some e_x59).1 dL_law_486 ?_
                rw [← (zsx_some e_x59).2]
                refine lv_aload_n hx hb dL_law_487 rfl (lv_at hl 0 rfl) ?_
                refine lv_iload hx hb dL_law_488 (lv_at hl 4 rfl) ?_
                refine lv_iconst (v := (2 : Int32)) hx hb dL_law_490 (by decide) ?_
                refine lv_iadd hx hb dL_law_491 ?_
                obtain ⟨x60, e_x60, hr⟩ := zb_some hr
                refine va_sld hx hb hX hbl hbA I.2.2 (zsx_some e_x60).1 dL_law_492 ?_
                rw [← (zsx_some e_x60).2]
                refine lv_aload_n hx hb dL_law_493 rfl (lv_at hl 0 rfl) ?_
                refine lv_iload hx hb dL_law_494 (lv_at hl 4 rfl) ?_
                refine lv_iconst (v := (3 : Int32)) hx hb dL_law_496 (by decide) ?_
                refine lv_iadd hx hb dL_law_497 ?_
                obtain ⟨x61, e_x61, hr⟩ := zb_some hr
                refine va_sld hx hb hX hbl hbA I.2.2 (zsx_some e_x61).1 dL_law_498 ?_
                rw [← (zsx_some e_x61).2]
                refine lv_aload_n hx hb dL_law_499 rfl (lv_at hl 0 rfl) ?_
                refine lv_iload hx hb dL_law_500 (lv_at hl 4 rfl) ?_
                refine lv_iconst (v := (4 : Int32)) hx hb dL_law_502 (by decide) ?_
                refine lv_iadd hx hb dL_law_503 ?_
                obtain ⟨x62, e_x62, hr⟩ := zb_some hr
                refine va_sld hx hb hX hbl hbA I.2.2 (zsx_some e_x62).1 dL_law_504 ?_
                rw [← (zsx_some e_x62).2]
                refine lv_aload_n hx hb dL_law_505 rfl (lv_at hl 3 rfl) ?_
                obtain ⟨x63, e_x63, hr⟩ := zb_some hr
                refine zcallI1 M I (zrunW (as := [.ref (zA g 0), .int x59, .int x60, .int x61, .int x62, .ref (zA g 124)]) M hpx hnc hAn I (c_L_copy l hl0 g fu e_x63) zlw_105 ⟨Nat.le_of_ble_eq_true rfl, Nat.le_of_ble_eq_true rfl⟩ hcs1 rfl rfl (Nat.le_of_ble_eq_true rfl) hl.1 dL_law_506) (fun H locs I => ?_)
                refine lv_istore (lv' := [(5, .int x63.1), (0, .ref b), (1, .ref (zA g 0)), (2, .ref (zA g 103)), (3, .ref (zA g 124)), (4, .int v4)]) hx hb dL_law_509 hl (by decide) rfl (fun ls hl => ?_)
                refine lv_aload_n hx hb dL_law_511 rfl (lv_at hl 3 rfl) ?_
                refine lv_aload_n hx hb dL_law_512 rfl (lv_at hl 1 rfl) ?_
                refine lv_iload hx hb dL_law_513 (lv_at hl 5 rfl) ?_
                refine lv_iconst (v := (1 : Int32)) hx hb dL_law_515 (by decide) ?_
                refine lv_iadd hx hb dL_law_516 ?_
                obtain ⟨x64, e_x64, hr⟩ := zb_some hr
                refine va_sld hx hb hX hbl hbA I.2.2 (zsx_some e_x64).1 dL_law_517 ?_
                rw [← (zsx_some e_x64).2]
                refine lv_aload_n hx hb dL_law_518 rfl (lv_at hl 1 rfl) ?_
                refine lv_iload hx hb dL_law_519 (lv_at hl 5 rfl) ?_
                refine lv_iconst (v := (2 : Int32)) hx hb dL_law_521 (by decide) ?_
                refine lv_iadd hx hb dL_law_522 ?_
                obtain ⟨x65, e_x65, hr⟩ := zb_some hr
                refine va_sld hx hb hX hbl hbA I.2.2 (zsx_some e_x65).1 dL_law_523 ?_
                rw [← (zsx_some e_x65).2]
                refine lv_aload_n hx hb dL_law_524 rfl (lv_at hl 1 rfl) ?_
                refine lv_iload hx hb dL_law_525 (lv_at hl 5 rfl) ?_
                refine lv_iconst (v := (3 : Int32)) hx hb dL_law_527 (by decide) ?_
                refine lv_iadd hx hb dL_law_528 ?_
                obtain ⟨x66, e_x66, hr⟩ := zb_some hr
                refine va_sld hx hb hX hbl hbA I.2.2 (zsx_some e_x66).1 dL_law_529 ?_
                rw [← (zsx_some e_x66).2]
                refine lv_aload_n hx hb dL_law_530 rfl (lv_at hl 1 rfl) ?_
                refine lv_iload hx hb dL_law_531 (lv_at hl 5 rfl) ?_
                refine lv_iconst (v := (4 : Int32)) hx hb dL_law_533 (by decide) ?_
                refine lv_iadd hx hb dL_law_534 ?_
                obtain ⟨x67, e_x67, hr⟩ := zb_some hr
                refine va_sld hx hb hX hbl hbA I.2.2 (zsx_some e_x67).1 dL_law_535 ?_
                rw [← (zsx_some e_x67).2]
                obtain ⟨x68, e_x68, hr⟩ := zb_some hr
                refine zcallI M I (zrunV (as := [.int x64, .int x65, .int x66, .int x67]) M I (c_X11_copy l g fu e_x68) zc_103 zK11.1 (by decide) zlv_L_108 ⟨Nat.le_of_ble_eq_true rfl, Nat.le_of_ble_eq_true rfl⟩ hcs1 rfl rfl (Nat.le_of_ble_eq_true rfl) hl.1 dL_law_536) (fun H locs I => ?_)
                refine lv_istore (lv' := [(6, .int x68.1), (5, .int x63.1), (0, .ref b), (1, .ref (zA g 0)), (2, .ref (zA g 103)), (3, .ref (zA g 124)), (4, .int v4)]) hx hb dL_law_539 hl (by decide) rfl (fun ls hl => ?_)
                refine lv_aload_n hx hb dL_law_541 rfl (lv_at hl 4 rfl) ?_
                obtain ⟨x69, e_x69, hr⟩ := zb_some hr
                refine zcallI M I (zrunV (as := []) M I (c_X11_thrown l g fu e_x69) zc_103 zK11.1 (by decide) zlv_L_93 ⟨Nat.le_of_ble_eq_true rfl, Nat.le_of_ble_eq_true rfl⟩ hcs1 rfl rfl (Nat.le_of_ble_eq_true rfl) hl.1 dL_law_542) (fun H locs I => ?_)
                refine lv_iload hx hb dL_law_545 (lv_at hl 1 rfl) ?_
                refine lv_icmp_eq (tgt := 552) hx hb dL_law_547 (by decide) (fun c73 => ?_) (fun c73 => ?_)
                · replace hr := zif_t hr c73
                  refine lv_iload hx hb dL_law_552 (lv_at hl 1 rfl) ?_
                  refine lv_if_ne (tgt := 569) hx hb dL_law_554 (by decide) (fun c72 => ?_) (fun c72 => ?_)
                  · replace hr := zif_t hr c72
                    refine lv_goto (tgt := 1671) hx hb dL_law_569 (by decide) ?_
                    refine lv_iinc (lv' := [(4, .int (v4 + 5)), (6, .int x68.1), (5, .int x63.1), (0, .ref b), (1, .ref (zA g 0)), (2, .ref (zA g 103)), (3, .ref (zA g 124))]) (k := 6) (v := (v4 + 5)) hx hb dL_law_1671 hl rfl (zi_5 _) (by decide) rfl (fun ls hl => ?_)
                    refine lv_goto (tgt := 23) hx hb dL_law_1674 (by decide) ?_
                    refine W.widen (k := k0 + (t + 1)) (n := n0 + 6 * (t + 1)) (by omega) (by omega) ?_
                    exact ih (t + 1) _ _ (zlaw5 hv) (by omega) hr ls _ _ (lv_sub hl [3, 4, 5, 6, 0] rfl) I
                  · replace hr := zif_f hr (fun hq => hq c72)
                    refine lv_aload_n hx hb dL_law_557 rfl (lv_at hl 5 rfl) ?_
                    refine lv_iconst (v := (0 : Int32)) hx hb dL_law_558 (by decide) ?_
                    obtain ⟨x70, e_x70, hr⟩ := zb_some hr
                    refine zlald M I zc_124 e_x70 dL_law_559 ?_
                    refine lv_iload hx hb dL_law_560 (lv_at hl 0 rfl) ?_
                    refine lv_i2l (v := (x68.1.toInt64)) hx hb dL_law_562 rfl ?_
                    refine W.lcmp hx hb dL_law_563 ?_
                    refine lv_if_eq (tgt := 569) hx hb dL_law_564 (by decide) (fun c71 => ?_) (fun c71 => ?_)
                    · replace hr := zif_t hr c71
                      refine lv_goto (tgt := 1671) hx hb dL_law_569 (by decide) ?_
                      refine lv_iinc (lv' := [(4, .int (v4 + 5)), (6, .int x68.1), (5, .int x63.1), (0, .ref b), (1, .ref (zA g 0)), (2, .ref (zA g 103)), (3, .ref (zA g 124))]) (k := 6) (v := (v4 + 5)) hx hb dL_law_1671 hl rfl (zi_5 _) (by decide) rfl (fun ls hl => ?_)
                      refine lv_goto (tgt := 23) hx hb dL_law_1674 (by decide) ?_
                      refine W.widen (k := k0 + (t + 1)) (n := n0 + 6 * (t + 1)) (by omega) (by omega) ?_
                      exact ih (t + 1) _ _ (zlaw5 hv) (by omega) hr ls _ _ (lv_sub hl [3, 4, 5, 6, 0] rfl) I
                    · replace hr := zif_f hr c71
                      refine lv_iconst (v := (0 : Int32)) hx hb dL_law_567 (by decide) ?_
                      exact absurd (Option.some.inj hr) (by decide)
                · replace hr := zif_f hr c73
                  refine lv_iconst (v := (0 : Int32)) hx hb dL_law_550 (by decide) ?_
                  exact absurd (Option.some.inj hr) (by decide)
              · replace hr := zif_f hr c58
                by_cases c74 : (x1 &&& (31 : Int32)) = (5 : Int32)
                · replace hr := zif_t hr c74
                  refine lv_tableIn (tgt := 572) hx hb dL_law_39 (by rw [c74]; decide) (by rw [c74]; decide) (by rw [c74]; try rfl) (by decide) ?_
                  refine lv_aload_n hx hb dL_law_572 rfl (lv_at hl 1 rfl) ?_
                  obtain ⟨x75, e_x75, hr⟩ := zb_some hr
                  refine zcallI M I (zrunV (as := []) M I (c_X10_exchange l g fu e_x75) zc_0 zK10.1 (by decide) zlv_L_109 ⟨Nat.le_of_ble_eq_true rfl, Nat.le_of_ble_eq_true rfl⟩ hcs0 rfl rfl (Nat.le_of_ble_eq_true rfl) hl.1 dL_law_573) (fun H locs I => ?_)
                  refine lv_aload_n hx hb dL_law_576 rfl (lv_at hl 2 rfl) ?_
                  obtain ⟨x76, e_x76, hr⟩ := zb_some hr
                  refine zcallI M I (zrunV (as := []) M I (c_X11_exchange l g fu e_x76) zc_103 zK11.1 (by decide) zlv_L_112 ⟨Nat.le_of_ble_eq_true rfl, Nat.le_of_ble_eq_true rfl⟩ hcs0 rfl rfl (Nat.le_of_ble_eq_true rfl) hl.1 dL_law_577) (fun H locs I => ?_)
                  refine lv_icmp_eq (tgt := 1671) hx hb dL_law_580 (by decide) (fun c77 => ?_) (fun c77 => ?_)
                  · replace hr := zif_t hr c77
                    refine lv_iinc (lv' := [(4, .int (v4 + 5)), (0, .ref b), (1, .ref (zA g 0)), (2, .ref (zA g 103)), (3, .ref (zA g 124))]) (k := 4) (v := (v4 + 5)) hx hb dL_law_1671 hl rfl (zi_5 _) (by decide) rfl (fun ls hl => ?_)
                    refine lv_goto (tgt := 23) hx hb dL_law_1674 (by decide) ?_
                    refine W.widen (k := k0 + (t + 1)) (n := n0 + 6 * (t + 1)) (by omega) (by omega) ?_
                    exact ih (t + 1) _ _ (zlaw5 hv) (by omega) hr ls _ _ (lv_sub hl [1, 2, 3, 4, 0] rfl) I
                  · replace hr := zif_f hr c77
                    refine lv_iconst (v := (0 : Int32)) hx hb dL_law_583 (by decide) ?_
                    exact absurd (Option.some.inj hr) (by decide)
                · replace hr := zif_f hr c74
                  by_cases c78 : (x1 &&& (31 : Int32)) = (6 : Int32)
                  · replace hr := zif_t hr c78
                    refine lv_tableIn (tgt := 585) hx hb dL_law_39 (by rw [c78]; decide) (by rw [c78]; decide) (by rw [c78]; try rfl) (by decide) ?_
                    refine lv_aload_n hx hb dL_law_585 rfl (lv_at hl 1 rfl) ?_
                    refine lv_aload_n hx hb dL_law_586 rfl (lv_at hl 0 rfl) ?_
                    refine lv_iload hx hb dL_law_587 (lv_at hl 4 rfl) ?_
                    refine lv_iconst (v := (1 : Int32)) hx hb dL_law_589 (by decide) ?_
                    refine lv_iadd hx hb dL_law_590 ?_
                    obtain ⟨x79, e_x79, hr⟩ := zb_some hr
                    refine va_sld hx hb hX hbl hbA I.2.2 (zsx_some e_x79).1 dL_law_591 ?_
                    rw [← (zsx_some e_x79).2]
                    refine lv_aload_n hx hb dL_law_592 rfl (lv_at hl 0 rfl) ?_
                    refine lv_iload hx hb dL_law_593 (lv_at hl 4 rfl) ?_
                    refine lv_iconst (v := (2 : Int32)) hx hb dL_law_595 (by decide) ?_
                    refine lv_iadd hx hb dL_law_596 ?_
                    obtain ⟨x80, e_x80, hr⟩ := zb_some hr
                    refine va_sld hx hb hX hbl hbA I.2.2 (zsx_some e_x80).1 dL_law_597 ?_
                    rw [← (zsx_some e_x80).2]
                    refine lv_aload_n hx hb dL_law_598 rfl (lv_at hl 3 rfl) ?_
                    obtain ⟨x81, e_x81, hr⟩ := zb_some hr
                    refine zcallI1 M I (zrunW (as := [.ref (zA g 0), .int x79, .int x80, .ref (zA g 124)]) M hpx hnc hAn I (c_L_set l hl0 g fu e_x81) zlw_113 ⟨Nat.le_of_ble_eq_true rfl, Nat.le_of_ble_eq_true rfl⟩ hcs1 rfl rfl (Nat.le_of_ble_eq_true rfl) hl.1 dL_law_599) (fun H locs I => ?_)
                    refine lv_istore (lv' := [(5, .int x81.1), (0, .ref b), (1, .ref (zA g 0)), (2, .ref (zA g 103)), (3, .ref (zA g 124)), (4, .int v4)]) hx hb dL_law_602 hl (by decide) rfl (fun ls hl => ?_)
                    refine lv_aload_n hx hb dL_law_604 rfl (lv_at hl 3 rfl) ?_
                    refine lv_aload_n hx hb dL_law_605 rfl (lv_at hl 1 rfl) ?_
                    refine lv_iload hx hb dL_law_606 (lv_at hl 5 rfl) ?_
                    refine lv_iconst (v := (1 : Int32)) hx hb dL_law_608 (by decide) ?_
                    refine lv_iadd hx hb dL_law_609 ?_
                    obtain ⟨x82, e_x82, hr⟩ := zb_some hr
                    refine va_sld hx hb hX hbl hbA I.2.2 (zsx_some e_x82).1 dL_law_610 ?_
                    rw [← (zsx_some e_x82).2]
                    refine lv_aload_n hx hb dL_law_611 rfl (lv_at hl 1 rfl) ?_
                    refine lv_iload hx hb dL_law_612 (lv_at hl 5 rfl) ?_
                    refine lv_iconst (v := (2 : Int32)) hx hb dL_law_614 (by decide) ?_
                    refine lv_iadd hx hb dL_law_615 ?_
                    obtain ⟨x83, e_x83, hr⟩ := zb_some hr
                    refine va_sld hx hb hX hbl hbA I.2.2 (zsx_some e_x83).1 dL_law_616 ?_
                    rw [← (zsx_some e_x83).2]
                    obtain ⟨x84, e_x84, hr⟩ := zb_some hr
                    refine zcallI M I (zrunV (as := [.int x82, .int x83]) M I (c_X11_set l g fu e_x84) zc_103 zK11.1 (by decide) zlv_L_116 ⟨Nat.le_of_ble_eq_true rfl, Nat.le_of_ble_eq_true rfl⟩ hcs1 rfl rfl (Nat.le_of_ble_eq_true rfl) hl.1 dL_law_617) (fun H locs I => ?_)
                    refine lv_istore (lv' := [(6, .int x84.1), (5, .int x81.1), (0, .ref b), (1, .ref (zA g 0)), (2, .ref (zA g 103)), (3, .ref (zA g 124)), (4, .int v4)]) hx hb dL_law_620 hl (by decide) rfl (fun ls hl => ?_)
                    refine lv_aload_n hx hb dL_law_622 rfl (lv_at hl 4 rfl) ?_
                    obtain ⟨x85, e_x85, hr⟩ := zb_some hr
                    refine zcallI M I (zrunV (as := []) M I (c_X11_thrown l g fu e_x85) zc_103 zK11.1 (by decide) zlv_L_93 ⟨Nat.le_of_ble_eq_true rfl, Nat.le_of_ble_eq_true rfl⟩ hcs1 rfl rfl (Nat.le_of_ble_eq_true rfl) hl.1 dL_law_623) (fun H locs I => ?_)
                    refine lv_iload hx hb dL_law_626 (lv_at hl 1 rfl) ?_
                    refine lv_icmp_eq (tgt := 633) hx hb dL_law_628 (by decide) (fun c89 => ?_) (fun c89 => ?_)
                    · replace hr := zif_t hr c89
                      refine lv_iload hx hb dL_law_633 (lv_at hl 1 rfl) ?_
                      refine lv_if_ne (tgt := 650) hx hb dL_law_635 (by decide) (fun c88 => ?_) (fun c88 => ?_)
                      · replace hr := zif_t hr c88
                        refine lv_goto (tgt := 1671) hx hb dL_law_650 (by decide) ?_
                        refine lv_iinc (lv' := [(4, .int (v4 + 5)), (6, .int x84.1), (5, .int x81.1), (0, .ref b), (1, .ref (zA g 0)), (2, .ref (zA g 103)), (3, .ref (zA g 124))]) (k := 6) (v := (v4 + 5)) hx hb dL_law_1671 hl rfl (zi_5 _) (by decide) rfl (fun ls hl => ?_)
                        refine lv_goto (tgt := 23) hx hb dL_law_1674 (by decide) ?_
                        refine W.widen (k := k0 + (t + 1)) (n := n0 + 6 * (t + 1)) (by omega) (by omega) ?_
                        exact ih (t + 1) _ _ (zlaw5 hv) (by omega) hr ls _ _ (lv_sub hl [3, 4, 5, 6, 0] rfl) I
                      · replace hr := zif_f hr (fun hq => hq c88)
                        refine lv_aload_n hx hb dL_law_638 rfl (lv_at hl 5 rfl) ?_
                        refine lv_iconst (v := (0 : Int32)) hx hb dL_law_639 (by decide) ?_
                        obtain ⟨x86, e_x86, hr⟩ := zb_some hr
                        refine zlald M I zc_124 e_x86 dL_law_640 ?_
                        refine lv_iload hx hb dL_law_641 (lv_at hl 0 rfl) ?_
                        refine lv_i2l (v := (x84.1.toInt64)) hx hb dL_law_643 rfl ?_
                        refine W.lcmp hx hb dL_law_644 ?_
                        refine lv_if_eq (tgt := 650) hx hb dL_law_645 (by decide) (fun c87 => ?_) (fun c87 => ?_)
                        · replace hr := zif_t hr c87
                          refine lv_goto (tgt := 1671) hx hb dL_law_650 (by decide) ?_
                          refine lv_iinc (lv' := [(4, .int (v4 + 5)), (6, .int x84.1), (5, .int x81.1), (0, .ref b), (1, .ref (zA g 0)), (2, .ref (zA g 103)), (3, .ref (zA g 124))]) (k := 6) (v := (v4 + 5)) hx hb dL_law_1671 hl rfl (zi_5 _) (by decide) rfl (fun ls hl => ?_)
                          refine lv_goto (tgt := 23) hx hb dL_law_1674 (by decide) ?_
                          refine W.widen (k := k0 + (t + 1)) (n := n0 + 6 * (t + 1)) (by omega) (by omega) ?_
                          exact ih (t + 1) _ _ (zlaw5 hv) (by omega) hr ls _ _ (lv_sub hl [3, 4, 5, 6, 0] rfl) I
                        · replace hr := zif_f hr c87
                          refine lv_iconst (v := (0 : Int32)) hx hb dL_law_648 (by decide) ?_
                          exact absurd (Option.some.inj hr) (by decide)
                    · replace hr := zif_f hr c89
                      refine lv_iconst (v := (0 : Int32)) hx hb dL_law_631 (by decide) ?_
                      exact absurd (Option.some.inj hr) (by decide)
                  · replace hr := zif_f hr c78
                    by_cases c90 : (x1 &&& (31 : Int32)) = (7 : Int32)
                    · replace hr := zif_t hr c90
                      refine lv_tableIn (tgt := 653) hx hb dL_law_39 (by rw [c90]; decide) (by rw [c90]; decide) (by rw [c90]; try rfl) (by decide) ?_
                      refine lv_aload_n hx hb dL_law_653 rfl (lv_at hl 1 rfl) ?_
                      refine lv_aload_n hx hb dL_law_654 rfl (lv_at hl 0 rfl) ?_
                      refine lv_iload hx hb dL_law_655 (lv_at hl 4 rfl) ?_
                      refine lv_iconst (v := (1 : Int32)) hx hb dL_law_657 (by decide) ?_
                      refine lv_iadd hx hb dL_law_658 ?_
                      obtain ⟨x91, e_x91, hr⟩ := zb_some hr
                      refine va_sld hx hb hX hbl hbA I.2.2 (zsx_some e_x91).1 dL_law_659 ?_
                      rw [← (zsx_some e_x91).2]
                      refine lv_aload_n hx hb dL_law_660 rfl (lv_at hl 3 rfl) ?_
                      obtain ⟨x92, e_x92, hr⟩ := zb_some hr
                      refine zcallI1 M I (zrunW (as := [.ref (zA g 0), .int x91, .ref (zA g 124)]) M hpx hnc hAn I (c_L_append l hl0 g fu e_x92) zlw_117 ⟨Nat.le_of_ble_eq_true rfl, Nat.le_of_ble_eq_true rfl⟩ hcs1 rfl rfl (Nat.le_of_ble_eq_true rfl) hl.1 dL_law_661) (fun H locs I => ?_)
                      refine lv_istore (lv' := [(5, .int x92.1), (0, .ref b), (1, .ref (zA g 0)), (2, .ref (zA g 103)), (3, .ref (zA g 124)), (4, .int v4)]) hx hb dL_law_664 hl (by decide) rfl (fun ls hl => ?_)
                      refine lv_aload_n hx hb dL_law_666 rfl (lv_at hl 3 rfl) ?_
                      refine lv_aload_n hx hb dL_law_667 rfl (lv_at hl 1 rfl) ?_
                      refine lv_iload hx hb dL_law_668 (lv_at hl 5 rfl) ?_
                      refine lv_iconst (v := (1 : Int32)) hx hb dL_law_670 (by decide) ?_
                      refine lv_iadd hx hb dL_law_671 ?_
                      obtain ⟨x93, e_x93, hr⟩ := zb_some hr
                      refine va_sld hx hb hX hbl hbA I.2.2 (zsx_some e_x93).1 dL_law_672 ?_
                      rw [← (zsx_some e_x93).2]
                      obtain ⟨x94, e_x94, hr⟩ := zb_some hr
                      refine zcallI M I (zrunV (as := [.int x93]) M I (c_X11_append l g fu e_x94) zc_103 zK11.1 (by decide) zlv_L_120 ⟨Nat.le_of_ble_eq_true rfl, Nat.le_of_ble_eq_true rfl⟩ hcs1 rfl rfl (Nat.le_of_ble_eq_true rfl) hl.1 dL_law_673) (fun H locs I => ?_)
                      refine lv_istore (lv' := [(6, .int x94.1), (5, .int x92.1), (0, .ref b), (1, .ref (zA g 0)), (2, .ref (zA g 103)), (3, .ref (zA g 124)), (4, .int v4)]) hx hb dL_law_676 hl (by decide) rfl (fun ls hl => ?_)
                      refine lv_aload_n hx hb dL_law_678 rfl (lv_at hl 4 rfl) ?_
                      obtain ⟨x95, e_x95, hr⟩ := zb_some hr
                      refine zcallI M I (zrunV (as := []) M I (c_X11_thrown l g fu e_x95) zc_103 zK11.1 (by decide) zlv_L_93 ⟨Nat.le_of_ble_eq_true rfl, Nat.le_of_ble_eq_true rfl⟩ hcs1 rfl rfl (Nat.le_of_ble_eq_true rfl) hl.1 dL_law_679) (fun H locs I => ?_)
                      refine lv_iload hx hb dL_law_682 (lv_at hl 1 rfl) ?_
                      refine lv_icmp_eq (tgt := 689) hx hb dL_law_684 (by decide) (fun c99 => ?_) (fun c99 => ?_)
                      · replace hr := zif_t hr c99
                        refine lv_iload hx hb dL_law_689 (lv_at hl 1 rfl) ?_
                        refine lv_if_ne (tgt := 706) hx hb dL_law_691 (by decide) (fun c98 => ?_) (fun c98 => ?_)
                        · replace hr := zif_t hr c98
                          refine lv_goto (tgt := 1671) hx hb dL_law_706 (by decide) ?_
                          refine lv_iinc (lv' := [(4, .int (v4 + 5)), (6, .int x94.1), (5, .int x92.1), (0, .ref b), (1, .ref (zA g 0)), (2, .ref (zA g 103)), (3, .ref (zA g 124))]) (k := 6) (v := (v4 + 5)) hx hb dL_law_1671 hl rfl (zi_5 _) (by decide) rfl (fun ls hl => ?_)
                          refine lv_goto (tgt := 23) hx hb dL_law_1674 (by decide) ?_
                          refine W.widen (k := k0 + (t + 1)) (n := n0 + 6 * (t + 1)) (by omega) (by omega) ?_
                          exact ih (t + 1) _ _ (zlaw5 hv) (by omega) hr ls _ _ (lv_sub hl [3, 4, 5, 6, 0] rfl) I
                        · replace hr := zif_f hr (fun hq => hq c98)
                          refine lv_aload_n hx hb dL_law_694 rfl (lv_at hl 5 rfl) ?_
                          refine lv_iconst (v := (0 : Int32)) hx hb dL_law_695 (by decide) ?_
                          obtain ⟨x96, e_x96, hr⟩ := zb_some hr
                          refine zlald M I zc_124 e_x96 dL_law_696 ?_
                          refine lv_iload hx hb dL_law_697 (lv_at hl 0 rfl) ?_
                          refine lv_i2l (v := (x94.1.toInt64)) hx hb dL_law_699 rfl ?_
                          refine W.lcmp hx hb dL_law_700 ?_
                          refine lv_if_eq (tgt := 706) hx hb dL_law_701 (by decide) (fun c97 => ?_) (fun c97 => ?_)
                          · replace hr := zif_t hr c97
                            refine lv_goto (tgt := 1671) hx hb dL_law_706 (by decide) ?_
                            refine lv_iinc (lv' := [(4, .int (v4 + 5)), (6, .int x94.1), (5, .int x92.1), (0, .ref b), (1, .ref (zA g 0)), (2, .ref (zA g 103)), (3, .ref (zA g 124))]) (k := 6) (v := (v4 + 5)) hx hb dL_law_1671 hl rfl (zi_5 _) (by decide) rfl (fun ls hl => ?_)
                            refine lv_goto (tgt := 23) hx hb dL_law_1674 (by decide) ?_
                            refine W.widen (k := k0 + (t + 1)) (n := n0 + 6 * (t + 1)) (by omega) (by omega) ?_
                            exact ih (t + 1) _ _ (zlaw5 hv) (by omega) hr ls _ _ (lv_sub hl [3, 4, 5, 6, 0] rfl) I
                          · replace hr := zif_f hr c97
                            refine lv_iconst (v := (0 : Int32)) hx hb dL_law_704 (by decide) ?_
                            exact absurd (Option.some.inj hr) (by decide)
                      · replace hr := zif_f hr c99
                        refine lv_iconst (v := (0 : Int32)) hx hb dL_law_687 (by decide) ?_
                        exact absurd (Option.some.inj hr) (by decide)
                    · replace hr := zif_f hr c90
                      by_cases c100 : (x1 &&& (31 : Int32)) = (8 : Int32)
                      · replace hr := zif_t hr c100
                        refine lv_tableIn (tgt := 709) hx hb dL_law_39 (by rw [c100]; decide) (by rw [c100]; decide) (by rw [c100]; try rfl) (by decide) ?_
                        refine lv_aload_n hx hb dL_law_709 rfl (lv_at hl 1 rfl) ?_
                        obtain ⟨x101, e_x101, hr⟩ := zb_some hr
                        refine zcallI M I (zrunV (as := []) M I (c_X10_clearBuffer l g fu e_x101) zc_0 zK10.1 (by decide) zlv_L_121 ⟨Nat.le_of_ble_eq_true rfl, Nat.le_of_ble_eq_true rfl⟩ hcs0 rfl rfl (Nat.le_of_ble_eq_true rfl) hl.1 dL_law_710) (fun H locs I => ?_)
                        refine lv_aload_n hx hb dL_law_713 rfl (lv_at hl 2 rfl) ?_
                        obtain ⟨x102, e_x102, hr⟩ := zb_some hr
                        refine zcallI M I (zrunV (as := []) M I (c_X11_clearBuffer l g fu e_x102) zc_103 zK11.1 (by decide) zlv_L_124 ⟨Nat.le_of_ble_eq_true rfl, Nat.le_of_ble_eq_true rfl⟩ hcs0 rfl rfl (Nat.le_of_ble_eq_true rfl) hl.1 dL_law_714) (fun H locs I => ?_)
                        refine lv_icmp_eq (tgt := 1671) hx hb dL_law_717 (by decide) (fun c103 => ?_) (fun c103 => ?_)
                        · replace hr := zif_t hr c103
                          refine lv_iinc (lv' := [(4, .int (v4 + 5)), (0, .ref b), (1, .ref (zA g 0)), (2, .ref (zA g 103)), (3, .ref (zA g 124))]) (k := 4) (v := (v4 + 5)) hx hb dL_law_1671 hl rfl (zi_5 _) (by decide) rfl (fun ls hl => ?_)
                          refine lv_goto (tgt := 23) hx hb dL_law_1674 (by decide) ?_
                          refine W.widen (k := k0 + (t + 1)) (n := n0 + 6 * (t + 1)) (by omega) (by omega) ?_
                          exact ih (t + 1) _ _ (zlaw5 hv) (by omega) hr ls _ _ (lv_sub hl [1, 2, 3, 4, 0] rfl) I
                        · replace hr := zif_f hr c103
                          refine lv_iconst (v := (0 : Int32)) hx hb dL_law_720 (by decide) ?_
                          exact absurd (Option.some.inj hr) (by decide)
                      · replace hr := zif_f hr c100
                        by_cases c104 : (x1 &&& (31 : Int32)) = (9 : Int32)
                        · replace hr := zif_t hr c104
                          refine lv_tableIn (tgt := 722) hx hb dL_law_39 (by rw [c104]; decide) (by rw [c104]; decide) (by rw [c104]; try rfl) (by decide) ?_
                          refine lv_aload_n hx hb dL_law_722 rfl (lv_at hl 1 rfl) ?_
                          obtain ⟨x105, e_x105, hr⟩ := zb_some hr
                          refine zcallI M I (zrunV (as := []) M I (c_X10_firstError l g fu e_x105) zc_0 zK10.1 (by decide) zlv_L_125 ⟨Nat.le_of_ble_eq_true rfl, Nat.le_of_ble_eq_true rfl⟩ hcs0 rfl rfl (Nat.le_of_ble_eq_true rfl) hl.1 dL_law_723) (fun H locs I => ?_)
                          refine lv_aload_n hx hb dL_law_726 rfl (lv_at hl 2 rfl) ?_
                          obtain ⟨x106, e_x106, hr⟩ := zb_some hr
                          refine zcallI M I (zrunV (as := []) M I (c_X11_firstError l g fu e_x106) zc_103 zK11.1 (by decide) zlv_L_128 ⟨Nat.le_of_ble_eq_true rfl, Nat.le_of_ble_eq_true rfl⟩ hcs0 rfl rfl (Nat.le_of_ble_eq_true rfl) hl.1 dL_law_727) (fun H locs I => ?_)
                          refine lv_icmp_eq (tgt := 1671) hx hb dL_law_730 (by decide) (fun c107 => ?_) (fun c107 => ?_)
                          · replace hr := zif_t hr c107
                            refine lv_iinc (lv' := [(4, .int (v4 + 5)), (0, .ref b), (1, .ref (zA g 0)), (2, .ref (zA g 103)), (3, .ref (zA g 124))]) (k := 4) (v := (v4 + 5)) hx hb dL_law_1671 hl rfl (zi_5 _) (by decide) rfl (fun ls hl => ?_)
                            refine lv_goto (tgt := 23) hx hb dL_law_1674 (by decide) ?_
                            refine W.widen (k := k0 + (t + 1)) (n := n0 + 6 * (t + 1)) (by omega) (by omega) ?_
                            exact ih (t + 1) _ _ (zlaw5 hv) (by omega) hr ls _ _ (lv_sub hl [1, 2, 3, 4, 0] rfl) I
                          · replace hr := zif_f hr c107
                            refine lv_iconst (v := (0 : Int32)) hx hb dL_law_733 (by decide) ?_
                            exact absurd (Option.some.inj hr) (by decide)
                        · replace hr := zif_f hr c104
                          by_cases c108 : (x1 &&& (31 : Int32)) = (10 : Int32)
                          · replace hr := zif_t hr c108
                            refine lv_tableIn (tgt := 735) hx hb dL_law_39 (by rw [c108]; decide) (by rw [c108]; decide) (by rw [c108]; try rfl) (by decide) ?_
                            refine lv_aload_n hx hb dL_law_735 rfl (lv_at hl 1 rfl) ?_
                            refine lv_aload_n hx hb dL_law_736 rfl (lv_at hl 3 rfl) ?_
                            obtain ⟨x109, e_x109, hr⟩ := zb_some hr
                            refine zcallI1 M I (zrunW (as := [.ref (zA g 0), .ref (zA g 124)]) M hpx hnc hAn I (c_L_read l hl0 g fu e_x109) zlw_129 ⟨Nat.le_of_ble_eq_true rfl, Nat.le_of_ble_eq_true rfl⟩ hcs1 rfl rfl (Nat.le_of_ble_eq_true rfl) hl.1 dL_law_737) (fun H locs I => ?_)
                            refine lv_istore (lv' := [(5, .int x109.1), (0, .ref b), (1, .ref (zA g 0)), (2, .ref (zA g 103)), (3, .ref (zA g 124)), (4, .int v4)]) hx hb dL_law_740 hl (by decide) rfl (fun ls hl => ?_)
                            refine lv_aload_n hx hb dL_law_742 rfl (lv_at hl 3 rfl) ?_
                            obtain ⟨x110, e_x110, hr⟩ := zb_some hr
                            refine zcallI M I (zrunV (as := []) M I (c_X11_read l g fu e_x110) zc_103 zK11.1 (by decide) zlv_L_132 ⟨Nat.le_of_ble_eq_true rfl, Nat.le_of_ble_eq_true rfl⟩ hcs1 rfl rfl (Nat.le_of_ble_eq_true rfl) hl.1 dL_law_743) (fun H locs I => ?_)
                            refine lv_istore (lv' := [(6, .int x110.1), (5, .int x109.1), (0, .ref b), (1, .ref (zA g 0)), (2, .ref (zA g 103)), (3, .ref (zA g 124)), (4, .int v4)]) hx hb dL_law_746 hl (by decide) rfl (fun ls hl => ?_)
                            refine lv_aload_n hx hb dL_law_748 rfl (lv_at hl 4 rfl) ?_
                            obtain ⟨x111, e_x111, hr⟩ := zb_some hr
                            refine zcallI M I (zrunV (as := []) M I (c_X11_thrown l g fu e_x111) zc_103 zK11.1 (by decide) zlv_L_93 ⟨Nat.le_of_ble_eq_true rfl, Nat.le_of_ble_eq_true rfl⟩ hcs1 rfl rfl (Nat.le_of_ble_eq_true rfl) hl.1 dL_law_749) (fun H locs I => ?_)
                            refine lv_iload hx hb dL_law_752 (lv_at hl 1 rfl) ?_
                            refine lv_icmp_eq (tgt := 759) hx hb dL_law_754 (by decide) (fun c115 => ?_) (fun c115 => ?_)
                            · replace hr := zif_t hr c115
                              refine lv_iload hx hb dL_law_759 (lv_at hl 1 rfl) ?_
                              refine lv_if_ne (tgt := 776) hx hb dL_law_761 (by decide) (fun c114 => ?_) (fun c114 => ?_)
                              · replace hr := zif_t hr c114
                                refine lv_goto (tgt := 1671) hx hb dL_law_776 (by decide) ?_
                                refine lv_iinc (lv' := [(4, .int (v4 + 5)), (6, .int x110.1), (5, .int x109.1), (0, .ref b), (1, .ref (zA g 0)), (2, .ref (zA g 103)), (3, .ref (zA g 124))]) (k := 6) (v := (v4 + 5)) hx hb dL_law_1671 hl rfl (zi_5 _) (by decide) rfl (fun ls hl => ?_)
                                refine lv_goto (tgt := 23) hx hb dL_law_1674 (by decide) ?_
                                refine W.widen (k := k0 + (t + 1)) (n := n0 + 6 * (t + 1)) (by omega) (by omega) ?_
                                exact ih (t + 1) _ _ (zlaw5 hv) (by omega) hr ls _ _ (lv_sub hl [3, 4, 5, 6, 0] rfl) I
                              · replace hr := zif_f hr (fun hq => hq c114)
                                refine lv_aload_n hx hb dL_law_764 rfl (lv_at hl 5 rfl) ?_
                                refine lv_iconst (v := (0 : Int32)) hx hb dL_law_765 (by decide) ?_
                                obtain ⟨x112, e_x112, hr⟩ := zb_some hr
                                refine zlald M I zc_124 e_x112 dL_law_766 ?_
                                refine lv_iload hx hb dL_law_767 (lv_at hl 0 rfl) ?_
                                refine lv_i2l (v := (x110.1.toInt64)) hx hb dL_law_769 rfl ?_
                                refine W.lcmp hx hb dL_law_770 ?_
                                refine lv_if_eq (tgt := 776) hx hb dL_law_771 (by decide) (fun c113 => ?_) (fun c113 => ?_)
                                · replace hr := zif_t hr c113
                                  refine lv_goto (tgt := 1671) hx hb dL_law_776 (by decide) ?_
                                  refine lv_iinc (lv' := [(4, .int (v4 + 5)), (6, .int x110.1), (5, .int x109.1), (0, .ref b), (1, .ref (zA g 0)), (2, .ref (zA g 103)), (3, .ref (zA g 124))]) (k := 6) (v := (v4 + 5)) hx hb dL_law_1671 hl rfl (zi_5 _) (by decide) rfl (fun ls hl => ?_)
                                  refine lv_goto (tgt := 23) hx hb dL_law_1674 (by decide) ?_
                                  refine W.widen (k := k0 + (t + 1)) (n := n0 + 6 * (t + 1)) (by omega) (by omega) ?_
                                  exact ih (t + 1) _ _ (zlaw5 hv) (by omega) hr ls _ _ (lv_sub hl [3, 4, 5, 6, 0] rfl) I
                                · replace hr := zif_f hr c113
                                  refine lv_iconst (v := (0 : Int32)) hx hb dL_law_774 (by decide) ?_
                                  exact absurd (Option.some.inj hr) (by decide)
                            · replace hr := zif_f hr c115
                              refine lv_iconst (v := (0 : Int32)) hx hb dL_law_757 (by decide) ?_
                              exact absurd (Option.some.inj hr) (by decide)
                          · replace hr := zif_f hr c108
                            by_cases c116 : (x1 &&& (31 : Int32)) = (11 : Int32)
                            · replace hr := zif_t hr c116
                              refine lv_tableIn (tgt := 779) hx hb dL_law_39 (by rw [c116]; decide) (by rw [c116]; decide) (by rw [c116]; try rfl) (by decide) ?_
                              refine lv_aload_n hx hb dL_law_779 rfl (lv_at hl 1 rfl) ?_
                              refine lv_aload_n hx hb dL_law_780 rfl (lv_at hl 0 rfl) ?_
                              refine lv_iload hx hb dL_law_781 (lv_at hl 4 rfl) ?_
                              refine lv_iconst (v := (1 : Int32)) hx hb dL_law_783 (by decide) ?_
                              refine lv_iadd hx hb dL_law_784 ?_
                              obtain ⟨x117, e_x117, hr⟩ := zb_some hr
                              refine va_sld hx hb hX hbl hbA I.2.2 (zsx_some e_x117).1 dL_law_785 ?_
                              rw [← (zsx_some e_x117).2]
                              refine lv_aload_n hx hb dL_law_786 rfl (lv_at hl 3 rfl) ?_
                              obtain ⟨x118, e_x118, hr⟩ := zb_some hr
                              refine zcallI1 M I (zrunW (as := [.ref (zA g 0), .int x117, .ref (zA g 124)]) M hpx hnc hAn I (c_L_keep l hl0 g fu e_x118) zlw_133 ⟨Nat.le_of_ble_eq_true rfl, Nat.le_of_ble_eq_true rfl⟩ hcs1 rfl rfl (Nat.le_of_ble_eq_true rfl) hl.1 dL_law_787) (fun H locs I => ?_)
                              refine lv_istore (lv' := [(5, .int x118.1), (0, .ref b), (1, .ref (zA g 0)), (2, .ref (zA g 103)), (3, .ref (zA g 124)), (4, .int v4)]) hx hb dL_law_790 hl (by decide) rfl (fun ls hl => ?_)
                              refine lv_aload_n hx hb dL_law_792 rfl (lv_at hl 3 rfl) ?_
                              refine lv_aload_n hx hb dL_law_793 rfl (lv_at hl 1 rfl) ?_
                              refine lv_iload hx hb dL_law_794 (lv_at hl 5 rfl) ?_
                              refine lv_iconst (v := (1 : Int32)) hx hb dL_law_796 (by decide) ?_
                              refine lv_iadd hx hb dL_law_797 ?_
                              obtain ⟨x119, e_x119, hr⟩ := zb_some hr
                              refine va_sld hx hb hX hbl hbA I.2.2 (zsx_some e_x119).1 dL_law_798 ?_
                              rw [← (zsx_some e_x119).2]
                              obtain ⟨x120, e_x120, hr⟩ := zb_some hr
                              refine zcallI M I (zrunV (as := [.int x119]) M I (c_X11_keep l g fu e_x120) zc_103 zK11.1 (by decide) zlv_L_135 ⟨Nat.le_of_ble_eq_true rfl, Nat.le_of_ble_eq_true rfl⟩ hcs1 rfl rfl (Nat.le_of_ble_eq_true rfl) hl.1 dL_law_799) (fun H locs I => ?_)
                              refine lv_istore (lv' := [(6, .int x120.1), (5, .int x118.1), (0, .ref b), (1, .ref (zA g 0)), (2, .ref (zA g 103)), (3, .ref (zA g 124)), (4, .int v4)]) hx hb dL_law_802 hl (by decide) rfl (fun ls hl => ?_)
                              refine lv_aload_n hx hb dL_law_804 rfl (lv_at hl 4 rfl) ?_
                              obtain ⟨x121, e_x121, hr⟩ := zb_some hr
                              refine zcallI M I (zrunV (as := []) M I (c_X11_thrown l g fu e_x121) zc_103 zK11.1 (by decide) zlv_L_93 ⟨Nat.le_of_ble_eq_true rfl, Nat.le_of_ble_eq_true rfl⟩ hcs1 rfl rfl (Nat.le_of_ble_eq_true rfl) hl.1 dL_law_805) (fun H locs I => ?_)
                              refine lv_iload hx hb dL_law_808 (lv_at hl 1 rfl) ?_
                              refine lv_icmp_eq (tgt := 815) hx hb dL_law_810 (by decide) (fun c125 => ?_) (fun c125 => ?_)
                              · replace hr := zif_t hr c125
                                refine lv_iload hx hb dL_law_815 (lv_at hl 1 rfl) ?_
                                refine lv_if_ne (tgt := 832) hx hb dL_law_817 (by decide) (fun c124 => ?_) (fun c124 => ?_)
                                · replace hr := zif_t hr c124
                                  refine lv_goto (tgt := 1671) hx hb dL_law_832 (by decide) ?_
                                  refine lv_iinc (lv' := [(4, .int (v4 + 5)), (6, .int x120.1), (5, .int x118.1), (0, .ref b), (1, .ref (zA g 0)), (2, .ref (zA g 103)), (3, .ref (zA g 124))]) (k := 6) (v := (v4 + 5)) hx hb dL_law_1671 hl rfl (zi_5 _) (by decide) rfl (fun ls hl => ?_)
                                  refine lv_goto (tgt := 23) hx hb dL_law_1674 (by decide) ?_
                                  refine W.widen (k := k0 + (t + 1)) (n := n0 + 6 * (t + 1)) (by omega) (by omega) ?_
                                  exact ih (t + 1) _ _ (zlaw5 hv) (by omega) hr ls _ _ (lv_sub hl [3, 4, 5, 6, 0] rfl) I
                                · replace hr := zif_f hr (fun hq => hq c124)
                                  refine lv_aload_n hx hb dL_law_820 rfl (lv_at hl 5 rfl) ?_
                                  refine lv_iconst (v := (0 : Int32)) hx hb dL_law_821 (by decide) ?_
                                  obtain ⟨x122, e_x122, hr⟩ := zb_some hr
                                  refine zlald M I zc_124 e_x122 dL_law_822 ?_
                                  refine lv_iload hx hb dL_law_823 (lv_at hl 0 rfl) ?_
                                  refine lv_i2l (v := (x120.1.toInt64)) hx hb dL_law_825 rfl ?_
                                  refine W.lcmp hx hb dL_law_826 ?_
                                  refine lv_if_eq (tgt := 832) hx hb dL_law_827 (by decide) (fun c123 => ?_) (fun c123 => ?_)
                                  · replace hr := zif_t hr c123
                                    refine lv_goto (tgt := 1671) hx hb dL_law_832 (by decide) ?_
                                    refine lv_iinc (lv' := [(4, .int (v4 + 5)), (6, .int x120.1), (5, .int x118.1), (0, .ref b), (1, .ref (zA g 0)), (2, .ref (zA g 103)), (3, .ref (zA g 124))]) (k := 6) (v := (v4 + 5)) hx hb dL_law_1671 hl rfl (zi_5 _) (by decide) rfl (fun ls hl => ?_)
                                    refine lv_goto (tgt := 23) hx hb dL_law_1674 (by decide) ?_
                                    refine W.widen (k := k0 + (t + 1)) (n := n0 + 6 * (t + 1)) (by omega) (by omega) ?_
                                    exact ih (t + 1) _ _ (zlaw5 hv) (by omega) hr ls _ _ (lv_sub hl [3, 4, 5, 6, 0] rfl) I
                                  · replace hr := zif_f hr c123
                                    refine lv_iconst (v := (0 : Int32)) hx hb dL_law_830 (by decide) ?_
                                    exact absurd (Option.some.inj hr) (by decide)
                              · replace hr := zif_f hr c125
                                refine lv_iconst (v := (0 : Int32)) hx hb dL_law_813 (by decide) ?_
                                exact absurd (Option.some.inj hr) (by decide)
                            · replace hr := zif_f hr c116
                              by_cases c126 : (x1 &&& (31 : Int32)) = (12 : Int32)
                              · replace hr := zif_t hr c126
                                refine lv_tableIn (tgt := 835) hx hb dL_law_39 (by rw [c126]; decide) (by rw [c126]; decide) (by rw [c126]; try rfl) (by decide) ?_
                                refine lv_aload_n hx hb dL_law_835 rfl (lv_at hl 1 rfl) ?_
                                refine lv_aload_n hx hb dL_law_836 rfl (lv_at hl 0 rfl) ?_
                                refine lv_iload hx hb dL_law_837 (lv_at hl 4 rfl) ?_
                                refine lv_iconst (v := (1 : Int32)) hx hb dL_law_839 (by decide) ?_
                                refine lv_iadd hx hb dL_law_840 ?_
                                obtain ⟨x127, e_x127, hr⟩ := zb_some hr
                                refine va_sld hx hb hX hbl hbA I.2.2 (zsx_some e_x127).1 dL_law_841 ?_
                                rw [← (zsx_some e_x127).2]
                                refine lv_aload_n hx hb dL_law_842 rfl (lv_at hl 3 rfl) ?_
                                obtain ⟨x128, e_x128, hr⟩ := zb_some hr
                                refine zcallI1 M I (zrunW (as := [.ref (zA g 0), .int x127, .ref (zA g 124)]) M hpx hnc hAn I (c_L_restore l hl0 g fu e_x128) zlw_136 ⟨Nat.le_of_ble_eq_true rfl, Nat.le_of_ble_eq_true rfl⟩ hcs1 rfl rfl (Nat.le_of_ble_eq_true rfl) hl.1 dL_law_843) (fun H locs I => ?_)
                                refine lv_istore (lv' := [(5, .int x128.1), (0, .ref b), (1, .ref (zA g 0)), (2, .ref (zA g 103)), (3, .ref (zA g 124)), (4, .int v4)]) hx hb dL_law_846 hl (by decide) rfl (fun ls hl => ?_)
                                refine lv_aload_n hx hb dL_law_848 rfl (lv_at hl 3 rfl) ?_
                                refine lv_aload_n hx hb dL_law_849 rfl (lv_at hl 1 rfl) ?_
                                refine lv_iload hx hb dL_law_850 (lv_at hl 5 rfl) ?_
                                refine lv_iconst (v := (1 : Int32)) hx hb dL_law_852 (by decide) ?_
                                refine lv_iadd hx hb dL_law_853 ?_
                                obtain ⟨x129, e_x129, hr⟩ := zb_some hr
                                refine va_sld hx hb hX hbl hbA I.2.2 (zsx_some e_x129).1 dL_law_854 ?_
                                rw [← (zsx_some e_x129).2]
                                obtain ⟨x130, e_x130, hr⟩ := zb_some hr
                                refine zcallI M I (zrunV (as := [.int x129]) M I (c_X11_restore l g fu e_x130) zc_103 zK11.1 (by decide) zlv_L_138 ⟨Nat.le_of_ble_eq_true rfl, Nat.le_of_ble_eq_true rfl⟩ hcs1 rfl rfl (Nat.le_of_ble_eq_true rfl) hl.1 dL_law_855) (fun H locs I => ?_)
                                refine lv_istore (lv' := [(6, .int x130.1), (5, .int x128.1), (0, .ref b), (1, .ref (zA g 0)), (2, .ref (zA g 103)), (3, .ref (zA g 124)), (4, .int v4)]) hx hb dL_law_858 hl (by decide) rfl (fun ls hl => ?_)
                                refine lv_aload_n hx hb dL_law_860 rfl (lv_at hl 4 rfl) ?_
                                obtain ⟨x131, e_x131, hr⟩ := zb_some hr
                                refine zcallI M I (zrunV (as := []) M I (c_X11_thrown l g fu e_x131) zc_103 zK11.1 (by decide) zlv_L_93 ⟨Nat.le_of_ble_eq_true rfl, Nat.le_of_ble_eq_true rfl⟩ hcs1 rfl rfl (Nat.le_of_ble_eq_true rfl) hl.1 dL_law_861) (fun H locs I => ?_)
                                refine lv_iload hx hb dL_law_864 (lv_at hl 1 rfl) ?_
                                refine lv_icmp_eq (tgt := 871) hx hb dL_law_866 (by decide) (fun c135 => ?_) (fun c135 => ?_)
                                · replace hr := zif_t hr c135
                                  refine lv_iload hx hb dL_law_871 (lv_at hl 1 rfl) ?_
                                  refine lv_if_ne (tgt := 888) hx hb dL_law_873 (by decide) (fun c134 => ?_) (fun c134 => ?_)
                                  · replace hr := zif_t hr c134
                                    refine lv_goto (tgt := 1671) hx hb dL_law_888 (by decide) ?_
                                    refine lv_iinc (lv' := [(4, .int (v4 + 5)), (6, .int x130.1), (5, .int x128.1), (0, .ref b), (1, .ref (zA g 0)), (2, .ref (zA g 103)), (3, .ref (zA g 124))]) (k := 6) (v := (v4 + 5)) hx hb dL_law_1671 hl rfl (zi_5 _) (by decide) rfl (fun ls hl => ?_)
                                    refine lv_goto (tgt := 23) hx hb dL_law_1674 (by decide) ?_
                                    refine W.widen (k := k0 + (t + 1)) (n := n0 + 6 * (t + 1)) (by omega) (by omega) ?_
                                    exact ih (t + 1) _ _ (zlaw5 hv) (by omega) hr ls _ _ (lv_sub hl [3, 4, 5, 6, 0] rfl) I
                                  · replace hr := zif_f hr (fun hq => hq c134)
                                    refine lv_aload_n hx hb dL_law_876 rfl (lv_at hl 5 rfl) ?_
                                    refine lv_iconst (v := (0 : Int32)) hx hb dL_law_877 (by decide) ?_
                                    obtain ⟨x132, e_x132, hr⟩ := zb_some hr
                                    refine zlald M I zc_124 e_x132 dL_law_878 ?_
                                    refine lv_iload hx hb dL_law_879 (lv_at hl 0 rfl) ?_
                                    refine lv_i2l (v := (x130.1.toInt64)) hx hb dL_law_881 rfl ?_
                                    refine W.lcmp hx hb dL_law_882 ?_
                                    refine lv_if_eq (tgt := 888) hx hb dL_law_883 (by decide) (fun c133 => ?_) (fun c133 => ?_)
                                    · replace hr := zif_t hr c133
                                      refine lv_goto (tgt := 1671) hx hb dL_law_888 (by decide) ?_
                                      refine lv_iinc (lv' := [(4, .int (v4 + 5)), (6, .int x130.1), (5, .int x128.1), (0, .ref b), (1, .ref (zA g 0)), (2, .ref (zA g 103)), (3, .ref (zA g 124))]) (k := 6) (v := (v4 + 5)) hx hb dL_law_1671 hl rfl (zi_5 _) (by decide) rfl (fun ls hl => ?_)
                                      refine lv_goto (tgt := 23) hx hb dL_law_1674 (by decide) ?_
                                      refine W.widen (k := k0 + (t + 1)) (n := n0 + 6 * (t + 1)) (by omega) (by omega) ?_
                                      exact ih (t + 1) _ _ (zlaw5 hv) (by omega) hr ls _ _ (lv_sub hl [3, 4, 5, 6, 0] rfl) I
                                    · replace hr := zif_f hr c133
                                      refine lv_iconst (v := (0 : Int32)) hx hb dL_law_886 (by decide) ?_
                                      exact absurd (Option.some.inj hr) (by decide)
                                · replace hr := zif_f hr c135
                                  refine lv_iconst (v := (0 : Int32)) hx hb dL_law_869 (by decide) ?_
                                  exact absurd (Option.some.inj hr) (by decide)
                              · replace hr := zif_f hr c126
                                by_cases c136 : (x1 &&& (31 : Int32)) = (13 : Int32)
                                · replace hr := zif_t hr c136
                                  refine lv_tableIn (tgt := 891) hx hb dL_law_39 (by rw [c136]; decide) (by rw [c136]; decide) (by rw [c136]; try rfl) (by decide) ?_
                                  refine lv_aload_n hx hb dL_law_891 rfl (lv_at hl 1 rfl) ?_
                                  refine lv_aload_n hx hb dL_law_892 rfl (lv_at hl 3 rfl) ?_
                                  obtain ⟨x137, e_x137, hr⟩ := zb_some hr
                                  refine zcallI1 M I (zrunW (as := [.ref (zA g 0), .ref (zA g 124)]) M hpx hnc hAn I (c_L_undo l hl0 g fu e_x137) zlw_139 ⟨Nat.le_of_ble_eq_true rfl, Nat.le_of_ble_eq_true rfl⟩ hcs1 rfl rfl (Nat.le_of_ble_eq_true rfl) hl.1 dL_law_893) (fun H locs I => ?_)
                                  refine lv_istore (lv' := [(5, .int x137.1), (0, .ref b), (1, .ref (zA g 0)), (2, .ref (zA g 103)), (3, .ref (zA g 124)), (4, .int v4)]) hx hb dL_law_896 hl (by decide) rfl (fun ls hl => ?_)
                                  refine lv_aload_n hx hb dL_law_898 rfl (lv_at hl 3 rfl) ?_
                                  obtain ⟨x138, e_x138, hr⟩ := zb_some hr
                                  refine zcallI M I (zrunV (as := []) M I (c_X11_undo l g fu e_x138) zc_103 zK11.1 (by decide) zlv_L_141 ⟨Nat.le_of_ble_eq_true rfl, Nat.le_of_ble_eq_true rfl⟩ hcs1 rfl rfl (Nat.le_of_ble_eq_true rfl) hl.1 dL_law_899) (fun H locs I => ?_)
                                  refine lv_istore (lv' := [(6, .int x138.1), (5, .int x137.1), (0, .ref b), (1, .ref (zA g 0)), (2, .ref (zA g 103)), (3, .ref (zA g 124)), (4, .int v4)]) hx hb dL_law_902 hl (by decide) rfl (fun ls hl => ?_)
                                  refine lv_aload_n hx hb dL_law_904 rfl (lv_at hl 4 rfl) ?_
                                  obtain ⟨x139, e_x139, hr⟩ := zb_some hr
                                  refine zcallI M I (zrunV (as := []) M I (c_X11_thrown l g fu e_x139) zc_103 zK11.1 (by decide) zlv_L_93 ⟨Nat.le_of_ble_eq_true rfl, Nat.le_of_ble_eq_true rfl⟩ hcs1 rfl rfl (Nat.le_of_ble_eq_true rfl) hl.1 dL_law_905) (fun H locs I => ?_)
                                  refine lv_iload hx hb dL_law_908 (lv_at hl 1 rfl) ?_
                                  refine lv_icmp_eq (tgt := 915) hx hb dL_law_910 (by decide) (fun c143 => ?_) (fun c143 => ?_)
                                  · replace hr := zif_t hr c143
                                    refine lv_iload hx hb dL_law_915 (lv_at hl 1 rfl) ?_
                                    refine lv_if_ne (tgt := 932) hx hb dL_law_917 (by decide) (fun c142 => ?_) (fun c142 => ?_)
                                    · replace hr := zif_t hr c142
                                      refine lv_goto (tgt := 1671) hx hb dL_law_932 (by decide) ?_
                                      refine lv_iinc (lv' := [(4, .int (v4 + 5)), (6, .int x138.1), (5, .int x137.1), (0, .ref b), (1, .ref (zA g 0)), (2, .ref (zA g 103)), (3, .ref (zA g 124))]) (k := 6) (v := (v4 + 5)) hx hb dL_law_1671 hl rfl (zi_5 _) (by decide) rfl (fun ls hl => ?_)
                                      refine lv_goto (tgt := 23) hx hb dL_law_1674 (by decide) ?_
                                      refine W.widen (k := k0 + (t + 1)) (n := n0 + 6 * (t + 1)) (by omega) (by omega) ?_
                                      exact ih (t + 1) _ _ (zlaw5 hv) (by omega) hr ls _ _ (lv_sub hl [3, 4, 5, 6, 0] rfl) I
                                    · replace hr := zif_f hr (fun hq => hq c142)
                                      refine lv_aload_n hx hb dL_law_920 rfl (lv_at hl 5 rfl) ?_
                                      refine lv_iconst (v := (0 : Int32)) hx hb dL_law_921 (by decide) ?_
                                      obtain ⟨x140, e_x140, hr⟩ := zb_some hr
                                      refine zlald M I zc_124 e_x140 dL_law_922 ?_
                                      refine lv_iload hx hb dL_law_923 (lv_at hl 0 rfl) ?_
                                      refine lv_i2l (v := (x138.1.toInt64)) hx hb dL_law_925 rfl ?_
                                      refine W.lcmp hx hb dL_law_926 ?_
                                      refine lv_if_eq (tgt := 932) hx hb dL_law_927 (by decide) (fun c141 => ?_) (fun c141 => ?_)
                                      · replace hr := zif_t hr c141
                                        refine lv_goto (tgt := 1671) hx hb dL_law_932 (by decide) ?_
                                        refine lv_iinc (lv' := [(4, .int (v4 + 5)), (6, .int x138.1), (5, .int x137.1), (0, .ref b), (1, .ref (zA g 0)), (2, .ref (zA g 103)), (3, .ref (zA g 124))]) (k := 6) (v := (v4 + 5)) hx hb dL_law_1671 hl rfl (zi_5 _) (by decide) rfl (fun ls hl => ?_)
                                        refine lv_goto (tgt := 23) hx hb dL_law_1674 (by decide) ?_
                                        refine W.widen (k := k0 + (t + 1)) (n := n0 + 6 * (t + 1)) (by omega) (by omega) ?_
                                        exact ih (t + 1) _ _ (zlaw5 hv) (by omega) hr ls _ _ (lv_sub hl [3, 4, 5, 6, 0] rfl) I
                                      · replace hr := zif_f hr c141
                                        refine lv_iconst (v := (0 : Int32)) hx hb dL_law_930 (by decide) ?_
                                        exact absurd (Option.some.inj hr) (by decide)
                                  · replace hr := zif_f hr c143
                                    refine lv_iconst (v := (0 : Int32)) hx hb dL_law_913 (by decide) ?_
                                    exact absurd (Option.some.inj hr) (by decide)
                                · replace hr := zif_f hr c136
                                  by_cases c144 : (x1 &&& (31 : Int32)) = (14 : Int32)
                                  · replace hr := zif_t hr c144
                                    refine lv_tableIn (tgt := 935) hx hb dL_law_39 (by rw [c144]; decide) (by rw [c144]; decide) (by rw [c144]; try rfl) (by decide) ?_
                                    refine lv_aload_n hx hb dL_law_935 rfl (lv_at hl 1 rfl) ?_
                                    refine lv_aload_n hx hb dL_law_936 rfl (lv_at hl 0 rfl) ?_
                                    refine lv_iload hx hb dL_law_937 (lv_at hl 4 rfl) ?_
                                    refine lv_iconst (v := (1 : Int32)) hx hb dL_law_939 (by decide) ?_
                                    refine lv_iadd hx hb dL_law_940 ?_
                                    obtain ⟨x145, e_x145, hr⟩ := zb_some hr
                                    refine va_sld hx hb hX hbl hbA I.2.2 (zsx_some e_x145).1 dL_law_941 ?_
                                    rw [← (zsx_some e_x145).2]
                                    refine lv_aload_n hx hb dL_law_942 rfl (lv_at hl 0 rfl) ?_
                                    refine lv_iload hx hb dL_law_943 (lv_at hl 4 rfl) ?_
                                    refine lv_iconst (v := (2 : Int32)) hx hb dL_law_945 (by decide) ?_
                                    refine lv_iadd hx hb dL_law_946 ?_
                                    obtain ⟨x146, e_x146, hr⟩ := zb_some hr
                                    refine va_sld hx hb hX hbl hbA I.2.2 (zsx_some e_x146).1 dL_law_947 ?_
                                    rw [← (zsx_some e_x146).2]
                                    refine lv_aload_n hx hb dL_law_948 rfl (lv_at hl 3 rfl) ?_
                                    obtain ⟨x147, e_x147, hr⟩ := zb_some hr
                                    refine zcallI1 M I (zrunW (as := [.ref (zA g 0), .int x145, .int x146, .ref (zA g 124)]) M hpx hnc hAn I (c_L_sign l hl0 g fu e_x147) zlw_142 ⟨Nat.le_of_ble_eq_true rfl, Nat.le_of_ble_eq_true rfl⟩ hcs1 rfl rfl (Nat.le_of_ble_eq_true rfl) hl.1 dL_law_949) (fun H locs I => ?_)
                                    refine lv_istore (lv' := [(5, .int x147.1), (0, .ref b), (1, .ref (zA g 0)), (2, .ref (zA g 103)), (3, .ref (zA g 124)), (4, .int v4)]) hx hb dL_law_952 hl (by decide) rfl (fun ls hl => ?_)
                                    refine lv_aload_n hx hb dL_law_954 rfl (lv_at hl 3 rfl) ?_
                                    refine lv_aload_n hx hb dL_law_955 rfl (lv_at hl 1 rfl) ?_
                                    refine lv_iload hx hb dL_law_956 (lv_at hl 5 rfl) ?_
                                    refine lv_iconst (v := (1 : Int32)) hx hb dL_law_958 (by decide) ?_
                                    refine lv_iadd hx hb dL_law_959 ?_
                                    obtain ⟨x148, e_x148, hr⟩ := zb_some hr
                                    refine va_sld hx hb hX hbl hbA I.2.2 (zsx_some e_x148).1 dL_law_960 ?_
                                    rw [← (zsx_some e_x148).2]
                                    refine lv_aload_n hx hb dL_law_961 rfl (lv_at hl 1 rfl) ?_
                                    refine lv_iload hx hb dL_law_962 (lv_at hl 5 rfl) ?_
                                    refine lv_iconst (v := (2 : Int32)) hx hb dL_law_964 (by decide) ?_
                                    refine lv_iadd hx hb dL_law_965 ?_
                                    obtain ⟨x149, e_x149, hr⟩ := zb_some hr
                                    refine va_sld hx hb hX hbl hbA I.2.2 (zsx_some e_x149).1 dL_law_966 ?_
                                    rw [← (zsx_some e_x149).2]
                                    obtain ⟨x150, e_x150, hr⟩ := zb_some hr
                                    refine zcallI M I (zrunV (as := [.int x148, .int x149]) M I (c_X11_sign l g fu e_x150) zc_103 zK11.1 (by decide) zlv_L_144 ⟨Nat.le_of_ble_eq_true rfl, Nat.le_of_ble_eq_true rfl⟩ hcs1 rfl rfl (Nat.le_of_ble_eq_true rfl) hl.1 dL_law_967) (fun H locs I => ?_)
                                    refine lv_istore (lv' := [(6, .int x150.1), (5, .int x147.1), (0, .ref b), (1, .ref (zA g 0)), (2, .ref (zA g 103)), (3, .ref (zA g 124)), (4, .int v4)]) hx hb dL_law_970 hl (by decide) rfl (fun ls hl => ?_)
                                    refine lv_aload_n hx hb dL_law_972 rfl (lv_at hl 4 rfl) ?_
                                    obtain ⟨x151, e_x151, hr⟩ := zb_some hr
                                    refine zcallI M I (zrunV (as := []) M I (c_X11_thrown l g fu e_x151) zc_103 zK11.1 (by decide) zlv_L_93 ⟨Nat.le_of_ble_eq_true rfl, Nat.le_of_ble_eq_true rfl⟩ hcs1 rfl rfl (Nat.le_of_ble_eq_true rfl) hl.1 dL_law_973) (fun H locs I => ?_)
                                    refine lv_iload hx hb dL_law_976 (lv_at hl 1 rfl) ?_
                                    refine lv_icmp_eq (tgt := 983) hx hb dL_law_978 (by decide) (fun c155 => ?_) (fun c155 => ?_)
                                    · replace hr := zif_t hr c155
                                      refine lv_iload hx hb dL_law_983 (lv_at hl 1 rfl) ?_
                                      refine lv_if_ne (tgt := 1000) hx hb dL_law_985 (by decide) (fun c154 => ?_) (fun c154 => ?_)
                                      · replace hr := zif_t hr c154
                                        refine lv_goto (tgt := 1671) hx hb dL_law_1000 (by decide) ?_
                                        refine lv_iinc (lv' := [(4, .int (v4 + 5)), (6, .int x150.1), (5, .int x147.1), (0, .ref b), (1, .ref (zA g 0)), (2, .ref (zA g 103)), (3, .ref (zA g 124))]) (k := 6) (v := (v4 + 5)) hx hb dL_law_1671 hl rfl (zi_5 _) (by decide) rfl (fun ls hl => ?_)
                                        refine lv_goto (tgt := 23) hx hb dL_law_1674 (by decide) ?_
                                        refine W.widen (k := k0 + (t + 1)) (n := n0 + 6 * (t + 1)) (by omega) (by omega) ?_
                                        exact ih (t + 1) _ _ (zlaw5 hv) (by omega) hr ls _ _ (lv_sub hl [3, 4, 5, 6, 0] rfl) I
                                      · replace hr := zif_f hr (fun hq => hq c154)
                                        refine lv_aload_n hx hb dL_law_988 rfl (lv_at hl 5 rfl) ?_
                                        refine lv_iconst (v := (0 : Int32)) hx hb dL_law_989 (by decide) ?_
                                        obtain ⟨x152, e_x152, hr⟩ := zb_some hr
                                        refine zlald M I zc_124 e_x152 dL_law_990 ?_
                                        refine lv_iload hx hb dL_law_991 (lv_at hl 0 rfl) ?_
                                        refine lv_i2l (v := (x150.1.toInt64)) hx hb dL_law_993 rfl ?_
                                        refine W.lcmp hx hb dL_law_994 ?_
                                        refine lv_if_eq (tgt := 1000) hx hb dL_law_995 (by decide) (fun c153 => ?_) (fun c153 => ?_)
                                        · replace hr := zif_t hr c153
                                          refine lv_goto (tgt := 1671) hx hb dL_law_1000 (by decide) ?_
                                          refine lv_iinc (lv' := [(4, .int (v4 + 5)), (6, .int x150.1), (5, .int x147.1), (0, .ref b), (1, .ref (zA g 0)), (2, .ref (zA g 103)), (3, .ref (zA g 124))]) (k := 6) (v := (v4 + 5)) hx hb dL_law_1671 hl rfl (zi_5 _) (by decide) rfl (fun ls hl => ?_)
                                          refine lv_goto (tgt := 23) hx hb dL_law_1674 (by decide) ?_
                                          refine W.widen (k := k0 + (t + 1)) (n := n0 + 6 * (t + 1)) (by omega) (by omega) ?_
                                          exact ih (t + 1) _ _ (zlaw5 hv) (by omega) hr ls _ _ (lv_sub hl [3, 4, 5, 6, 0] rfl) I
                                        · replace hr := zif_f hr c153
                                          refine lv_iconst (v := (0 : Int32)) hx hb dL_law_998 (by decide) ?_
                                          exact absurd (Option.some.inj hr) (by decide)
                                    · replace hr := zif_f hr c155
                                      refine lv_iconst (v := (0 : Int32)) hx hb dL_law_981 (by decide) ?_
                                      exact absurd (Option.some.inj hr) (by decide)
                                  · replace hr := zif_f hr c144
                                    by_cases c156 : (x1 &&& (31 : Int32)) = (15 : Int32)
                                    · replace hr := zif_t hr c156
                                      refine lv_tableIn (tgt := 1003) hx hb dL_law_39 (by rw [c156]; decide) (by rw [c156]; decide) (by rw [c156]; try rfl) (by decide) ?_
                                      refine lv_aload_n hx hb dL_law_1003 rfl (lv_at hl 1 rfl) ?_
                                      refine lv_aload_n hx hb dL_law_1004 rfl (lv_at hl 0 rfl) ?_
                                      refine lv_iload hx hb dL_law_1005 (lv_at hl 4 rfl) ?_
                                      refine lv_iconst (v := (1 : Int32)) hx hb dL_law_1007 (by decide) ?_
                                      refine lv_iadd hx hb dL_law_1008 ?_
                                      obtain ⟨x157, e_x157, hr⟩ := zb_some hr
                                      refine va_sld hx hb hX hbl hbA I.2.2 (zsx_some e_x157).1 dL_law_1009 ?_
                                      rw [← (zsx_some e_x157).2]
                                      refine lv_aload_n hx hb dL_law_1010 rfl (lv_at hl 0 rfl) ?_
                                      refine lv_iload hx hb dL_law_1011 (lv_at hl 4 rfl) ?_
                                      refine lv_iconst (v := (2 : Int32)) hx hb dL_law_1013 (by decide) ?_
                                      refine lv_iadd hx hb dL_law_1014 ?_
                                      obtain ⟨x158, e_x158, hr⟩ := zb_some hr
                                      refine va_sld hx hb hX hbl hbA I.2.2 (zsx_some e_x158).1 dL_law_1015 ?_
                                      rw [← (zsx_some e_x158).2]
                                      refine lv_aload_n hx hb dL_law_1016 rfl (lv_at hl 3 rfl) ?_
                                      obtain ⟨x159, e_x159, hr⟩ := zb_some hr
                                      refine zcallI1 M I (zrunW (as := [.ref (zA g 0), .int x157, .int x158, .ref (zA g 124)]) M hpx hnc hAn I (c_L_anchor l hl0 g fu e_x159) zlw_145 ⟨Nat.le_of_ble_eq_true rfl, Nat.le_of_ble_eq_true rfl⟩ hcs1 rfl rfl (Nat.le_of_ble_eq_true rfl) hl.1 dL_law_1017) (fun H locs I => ?_)
                                      refine lv_istore (lv' := [(5, .int x159.1), (0, .ref b), (1, .ref (zA g 0)), (2, .ref (zA g 103)), (3, .ref (zA g 124)), (4, .int v4)]) hx hb dL_law_1020 hl (by decide) rfl (fun ls hl => ?_)
                                      refine lv_aload_n hx hb dL_law_1022 rfl (lv_at hl 3 rfl) ?_
                                      refine lv_aload_n hx hb dL_law_1023 rfl (lv_at hl 1 rfl) ?_
                                      refine lv_iload hx hb dL_law_1024 (lv_at hl 5 rfl) ?_
                                      refine lv_iconst (v := (1 : Int32)) hx hb dL_law_1026 (by decide) ?_
                                      refine lv_iadd hx hb dL_law_1027 ?_
                                      obtain ⟨x160, e_x160, hr⟩ := zb_some hr
                                      refine va_sld hx hb hX hbl hbA I.2.2 (zsx_some e_x160).1 dL_law_1028 ?_
                                      rw [← (zsx_some e_x160).2]
                                      refine lv_aload_n hx hb dL_law_1029 rfl (lv_at hl 1 rfl) ?_
                                      refine lv_iload hx hb dL_law_1030 (lv_at hl 5 rfl) ?_
                                      refine lv_iconst (v := (2 : Int32)) hx hb dL_law_1032 (by decide) ?_
                                      refine lv_iadd hx hb dL_law_1033 ?_
                                      obtain ⟨x161, e_x161, hr⟩ := zb_some hr
                                      refine va_sld hx hb hX hbl hbA I.2.2 (zsx_some e_x161).1 dL_law_1034 ?_
                                      rw [← (zsx_some e_x161).2]
                                      obtain ⟨x162, e_x162, hr⟩ := zb_some hr
                                      refine zcallI M I (zrunV (as := [.int x160, .int x161]) M I (c_X11_anchor l g fu e_x162) zc_103 zK11.1 (by decide) zlv_L_147 ⟨Nat.le_of_ble_eq_true rfl, Nat.le_of_ble_eq_true rfl⟩ hcs1 rfl rfl (Nat.le_of_ble_eq_true rfl) hl.1 dL_law_1035) (fun H locs I => ?_)
                                      refine lv_istore (lv' := [(6, .int x162.1), (5, .int x159.1), (0, .ref b), (1, .ref (zA g 0)), (2, .ref (zA g 103)), (3, .ref (zA g 124)), (4, .int v4)]) hx hb dL_law_1038 hl (by decide) rfl (fun ls hl => ?_)
                                      refine lv_aload_n hx hb dL_law_1040 rfl (lv_at hl 4 rfl) ?_
                                      obtain ⟨x163, e_x163, hr⟩ := zb_some hr
                                      refine zcallI M I (zrunV (as := []) M I (c_X11_thrown l g fu e_x163) zc_103 zK11.1 (by decide) zlv_L_93 ⟨Nat.le_of_ble_eq_true rfl, Nat.le_of_ble_eq_true rfl⟩ hcs1 rfl rfl (Nat.le_of_ble_eq_true rfl) hl.1 dL_law_1041) (fun H locs I => ?_)
                                      refine lv_iload hx hb dL_law_1044 (lv_at hl 1 rfl) ?_
                                      refine lv_icmp_eq (tgt := 1051) hx hb dL_law_1046 (by decide) (fun c167 => ?_) (fun c167 => ?_)
                                      · replace hr := zif_t hr c167
                                        refine lv_iload hx hb dL_law_1051 (lv_at hl 1 rfl) ?_
                                        refine lv_if_ne (tgt := 1068) hx hb dL_law_1053 (by decide) (fun c166 => ?_) (fun c166 => ?_)
                                        · replace hr := zif_t hr c166
                                          refine lv_goto (tgt := 1671) hx hb dL_law_1068 (by decide) ?_
                                          refine lv_iinc (lv' := [(4, .int (v4 + 5)), (6, .int x162.1), (5, .int x159.1), (0, .ref b), (1, .ref (zA g 0)), (2, .ref (zA g 103)), (3, .ref (zA g 124))]) (k := 6) (v := (v4 + 5)) hx hb dL_law_1671 hl rfl (zi_5 _) (by decide) rfl (fun ls hl => ?_)
                                          refine lv_goto (tgt := 23) hx hb dL_law_1674 (by decide) ?_
                                          refine W.widen (k := k0 + (t + 1)) (n := n0 + 6 * (t + 1)) (by omega) (by omega) ?_
                                          exact ih (t + 1) _ _ (zlaw5 hv) (by omega) hr ls _ _ (lv_sub hl [3, 4, 5, 6, 0] rfl) I
                                        · replace hr := zif_f hr (fun hq => hq c166)
                                          refine lv_aload_n hx hb dL_law_1056 rfl (lv_at hl 5 rfl) ?_
                                          refine lv_iconst (v := (0 : Int32)) hx hb dL_law_1057 (by decide) ?_
                                          obtain ⟨x164, e_x164, hr⟩ := zb_some hr
                                          refine zlald M I zc_124 e_x164 dL_law_1058 ?_
                                          refine lv_iload hx hb dL_law_1059 (lv_at hl 0 rfl) ?_
                                          refine lv_i2l (v := (x162.1.toInt64)) hx hb dL_law_1061 rfl ?_
                                          refine W.lcmp hx hb dL_law_1062 ?_
                                          refine lv_if_eq (tgt := 1068) hx hb dL_law_1063 (by decide) (fun c165 => ?_) (fun c165 => ?_)
                                          · replace hr := zif_t hr c165
                                            refine lv_goto (tgt := 1671) hx hb dL_law_1068 (by decide) ?_
                                            refine lv_iinc (lv' := [(4, .int (v4 + 5)), (6, .int x162.1), (5, .int x159.1), (0, .ref b), (1, .ref (zA g 0)), (2, .ref (zA g 103)), (3, .ref (zA g 124))]) (k := 6) (v := (v4 + 5)) hx hb dL_law_1671 hl rfl (zi_5 _) (by decide) rfl (fun ls hl => ?_)
                                            refine lv_goto (tgt := 23) hx hb dL_law_1674 (by decide) ?_
                                            refine W.widen (k := k0 + (t + 1)) (n := n0 + 6 * (t + 1)) (by omega) (by omega) ?_
                                            exact ih (t + 1) _ _ (zlaw5 hv) (by omega) hr ls _ _ (lv_sub hl [3, 4, 5, 6, 0] rfl) I
                                          · replace hr := zif_f hr c165
                                            refine lv_iconst (v := (0 : Int32)) hx hb dL_law_1066 (by decide) ?_
                                            exact absurd (Option.some.inj hr) (by decide)
                                      · replace hr := zif_f hr c167
                                        refine lv_iconst (v := (0 : Int32)) hx hb dL_law_1049 (by decide) ?_
                                        exact absurd (Option.some.inj hr) (by decide)
                                    · replace hr := zif_f hr c156
                                      by_cases c168 : (x1 &&& (31 : Int32)) = (16 : Int32)
                                      · replace hr := zif_t hr c168
                                        refine lv_tableIn (tgt := 1071) hx hb dL_law_39 (by rw [c168]; decide) (by rw [c168]; decide) (by rw [c168]; try rfl) (by decide) ?_
                                        refine lv_aload_n hx hb dL_law_1071 rfl (lv_at hl 1 rfl) ?_
                                        refine lv_aload_n hx hb dL_law_1072 rfl (lv_at hl 0 rfl) ?_
                                        refine lv_iload hx hb dL_law_1073 (lv_at hl 4 rfl) ?_
                                        refine lv_iconst (v := (1 : Int32)) hx hb dL_law_1075 (by decide) ?_
                                        refine lv_iadd hx hb dL_law_1076 ?_
                                        obtain ⟨x169, e_x169, hr⟩ := zb_some hr
                                        refine va_sld hx hb hX hbl hbA I.2.2 (zsx_some e_x169).1 dL_law_1077 ?_
                                        rw [← (zsx_some e_x169).2]
                                        refine lv_aload_n hx hb dL_law_1078 rfl (lv_at hl 0 rfl) ?_
                                        refine lv_iload hx hb dL_law_1079 (lv_at hl 4 rfl) ?_
                                        refine lv_iconst (v := (2 : Int32)) hx hb dL_law_1081 (by decide) ?_
                                        refine lv_iadd hx hb dL_law_1082 ?_
                                        obtain ⟨x170, e_x170, hr⟩ := zb_some hr
                                        refine va_sld hx hb hX hbl hbA I.2.2 (zsx_some e_x170).1 dL_law_1083 ?_
                                        rw [← (zsx_some e_x170).2]
                                        refine lv_aload_n hx hb dL_law_1084 rfl (lv_at hl 3 rfl) ?_
                                        obtain ⟨x171, e_x171, hr⟩ := zb_some hr
                                        refine zcallI1 M I (zrunW (as := [.ref (zA g 0), .int x169, .int x170, .ref (zA g 124)]) M hpx hnc hAn I (c_L_turned l hl0 g fu e_x171) zlw_148 ⟨Nat.le_of_ble_eq_true rfl, Nat.le_of_ble_eq_true rfl⟩ hcs1 rfl rfl (Nat.le_of_ble_eq_true rfl) hl.1 dL_law_1085) (fun H locs I => ?_)
                                        refine lv_istore (lv' := [(5, .int x171.1), (0, .ref b), (1, .ref (zA g 0)), (2, .ref (zA g 103)), (3, .ref (zA g 124)), (4, .int v4)]) hx hb dL_law_1088 hl (by decide) rfl (fun ls hl => ?_)
                                        refine lv_aload_n hx hb dL_law_1090 rfl (lv_at hl 3 rfl) ?_
                                        refine lv_aload_n hx hb dL_law_1091 rfl (lv_at hl 1 rfl) ?_
                                        refine lv_iload hx hb dL_law_1092 (lv_at hl 5 rfl) ?_
                                        refine lv_iconst (v := (1 : Int32)) hx hb dL_law_1094 (by decide) ?_
                                        refine lv_iadd hx hb dL_law_1095 ?_
                                        obtain ⟨x172, e_x172, hr⟩ := zb_some hr
                                        refine va_sld hx hb hX hbl hbA I.2.2 (zsx_some e_x172).1 dL_law_1096 ?_
                                        rw [← (zsx_some e_x172).2]
                                        refine lv_aload_n hx hb dL_law_1097 rfl (lv_at hl 1 rfl) ?_
                                        refine lv_iload hx hb dL_law_1098 (lv_at hl 5 rfl) ?_
                                        refine lv_iconst (v := (2 : Int32)) hx hb dL_law_1100 (by decide) ?_
                                        refine lv_iadd hx hb dL_law_1101 ?_
                                        obtain ⟨x173, e_x173, hr⟩ := zb_some hr
                                        refine va_sld hx hb hX hbl hbA I.2.2 (zsx_some e_x173).1 dL_law_1102 ?_
                                        rw [← (zsx_some e_x173).2]
                                        obtain ⟨x174, e_x174, hr⟩ := zb_some hr
                                        refine zcallI M I (zrunV (as := [.int x172, .int x173]) M I (c_X11_turned l g fu e_x174) zc_103 zK11.1 (by decide) zlv_L_150 ⟨Nat.le_of_ble_eq_true rfl, Nat.le_of_ble_eq_true rfl⟩ hcs1 rfl rfl (Nat.le_of_ble_eq_true rfl) hl.1 dL_law_1103) (fun H locs I => ?_)
                                        refine lv_istore (lv' := [(6, .int x174.1), (5, .int x171.1), (0, .ref b), (1, .ref (zA g 0)), (2, .ref (zA g 103)), (3, .ref (zA g 124)), (4, .int v4)]) hx hb dL_law_1106 hl (by decide) rfl (fun ls hl => ?_)
                                        refine lv_aload_n hx hb dL_law_1108 rfl (lv_at hl 4 rfl) ?_
                                        obtain ⟨x175, e_x175, hr⟩ := zb_some hr
                                        refine zcallI M I (zrunV (as := []) M I (c_X11_thrown l g fu e_x175) zc_103 zK11.1 (by decide) zlv_L_93 ⟨Nat.le_of_ble_eq_true rfl, Nat.le_of_ble_eq_true rfl⟩ hcs1 rfl rfl (Nat.le_of_ble_eq_true rfl) hl.1 dL_law_1109) (fun H locs I => ?_)
                                        refine lv_iload hx hb dL_law_1112 (lv_at hl 1 rfl) ?_
                                        refine lv_icmp_eq (tgt := 1119) hx hb dL_law_1114 (by decide) (fun c179 => ?_) (fun c179 => ?_)
                                        · replace hr := zif_t hr c179
                                          refine lv_iload hx hb dL_law_1119 (lv_at hl 1 rfl) ?_
                                          refine lv_if_ne (tgt := 1136) hx hb dL_law_1121 (by decide) (fun c178 => ?_) (fun c178 => ?_)
                                          · replace hr := zif_t hr c178
                                            refine lv_goto (tgt := 1671) hx hb dL_law_1136 (by decide) ?_
                                            refine lv_iinc (lv' := [(4, .int (v4 + 5)), (6, .int x174.1), (5, .int x171.1), (0, .ref b), (1, .ref (zA g 0)), (2, .ref (zA g 103)), (3, .ref (zA g 124))]) (k := 6) (v := (v4 + 5)) hx hb dL_law_1671 hl rfl (zi_5 _) (by decide) rfl (fun ls hl => ?_)
                                            refine lv_goto (tgt := 23) hx hb dL_law_1674 (by decide) ?_
                                            refine W.widen (k := k0 + (t + 1)) (n := n0 + 6 * (t + 1)) (by omega) (by omega) ?_
                                            exact ih (t + 1) _ _ (zlaw5 hv) (by omega) hr ls _ _ (lv_sub hl [3, 4, 5, 6, 0] rfl) I
                                          · replace hr := zif_f hr (fun hq => hq c178)
                                            refine lv_aload_n hx hb dL_law_1124 rfl (lv_at hl 5 rfl) ?_
                                            refine lv_iconst (v := (0 : Int32)) hx hb dL_law_1125 (by decide) ?_
                                            obtain ⟨x176, e_x176, hr⟩ := zb_some hr
                                            refine zlald M I zc_124 e_x176 dL_law_1126 ?_
                                            refine lv_iload hx hb dL_law_1127 (lv_at hl 0 rfl) ?_
                                            refine lv_i2l (v := (x174.1.toInt64)) hx hb dL_law_1129 rfl ?_
                                            refine W.lcmp hx hb dL_law_1130 ?_
                                            refine lv_if_eq (tgt := 1136) hx hb dL_law_1131 (by decide) (fun c177 => ?_) (fun c177 => ?_)
                                            · replace hr := zif_t hr c177
                                              refine lv_goto (tgt := 1671) hx hb dL_law_1136 (by decide) ?_
                                              refine lv_iinc (lv' := [(4, .int (v4 + 5)), (6, .int x174.1), (5, .int x171.1), (0, .ref b), (1, .ref (zA g 0)), (2, .ref (zA g 103)), (3, .ref (zA g 124))]) (k := 6) (v := (v4 + 5)) hx hb dL_law_1671 hl rfl (zi_5 _) (by decide) rfl (fun ls hl => ?_)
                                              refine lv_goto (tgt := 23) hx hb dL_law_1674 (by decide) ?_
                                              refine W.widen (k := k0 + (t + 1)) (n := n0 + 6 * (t + 1)) (by omega) (by omega) ?_
                                              exact ih (t + 1) _ _ (zlaw5 hv) (by omega) hr ls _ _ (lv_sub hl [3, 4, 5, 6, 0] rfl) I
                                            · replace hr := zif_f hr c177
                                              refine lv_iconst (v := (0 : Int32)) hx hb dL_law_1134 (by decide) ?_
                                              exact absurd (Option.some.inj hr) (by decide)
                                        · replace hr := zif_f hr c179
                                          refine lv_iconst (v := (0 : Int32)) hx hb dL_law_1117 (by decide) ?_
                                          exact absurd (Option.some.inj hr) (by decide)
                                      · replace hr := zif_f hr c168
                                        by_cases c180 : (x1 &&& (31 : Int32)) = (17 : Int32)
                                        · replace hr := zif_t hr c180
                                          refine lv_tableIn (tgt := 1139) hx hb dL_law_39 (by rw [c180]; decide) (by rw [c180]; decide) (by rw [c180]; try rfl) (by decide) ?_
                                          refine lv_aload_n hx hb dL_law_1139 rfl (lv_at hl 1 rfl) ?_
                                          refine lv_aload_n hx hb dL_law_1140 rfl (lv_at hl 0 rfl) ?_
                                          refine lv_iload hx hb dL_law_1141 (lv_at hl 4 rfl) ?_
                                          refine lv_iconst (v := (1 : Int32)) hx hb dL_law_1143 (by decide) ?_
                                          refine lv_iadd hx hb dL_law_1144 ?_
                                          obtain ⟨x181, e_x181, hr⟩ := zb_some hr
                                          refine va_sld hx hb hX hbl hbA I.2.2 (zsx_some e_x181).1 dL_law_1145 ?_
                                          rw [← (zsx_some e_x181).2]
                                          refine lv_aload_n hx hb dL_law_1146 rfl (lv_at hl 0 rfl) ?_
                                          refine lv_iload hx hb dL_law_1147 (lv_at hl 4 rfl) ?_
                                          refine lv_iconst (v := (2 : Int32)) hx hb dL_law_1149 (by decide) ?_
                                          refine lv_iadd hx hb dL_law_1150 ?_
                                          obtain ⟨x182, e_x182, hr⟩ := zb_some hr
                                          refine va_sld hx hb hX hbl hbA I.2.2 (zsx_some e_x182).1 dL_law_1151 ?_
                                          rw [← (zsx_some e_x182).2]
                                          refine lv_aload_n hx hb dL_law_1152 rfl (lv_at hl 3 rfl) ?_
                                          obtain ⟨x183, e_x183, hr⟩ := zb_some hr
                                          refine zcallI1 M I (zrunW (as := [.ref (zA g 0), .int x181, .int x182, .ref (zA g 124)]) M hpx hnc hAn I (c_L_gap l hl0 g fu e_x183) zlw_151 ⟨Nat.le_of_ble_eq_true rfl, Nat.le_of_ble_eq_true rfl⟩ hcs1 rfl rfl (Nat.le_of_ble_eq_true rfl) hl.1 dL_law_1153) (fun H locs I => ?_)
                                          refine lv_istore (lv' := [(5, .int x183.1), (0, .ref b), (1, .ref (zA g 0)), (2, .ref (zA g 103)), (3, .ref (zA g 124)), (4, .int v4)]) hx hb dL_law_1156 hl (by decide) rfl (fun ls hl => ?_)
                                          refine lv_aload_n hx hb dL_law_1158 rfl (lv_at hl 3 rfl) ?_
                                          refine lv_aload_n hx hb dL_law_1159 rfl (lv_at hl 1 rfl) ?_
                                          refine lv_iload hx hb dL_law_1160 (lv_at hl 5 rfl) ?_
                                          refine lv_iconst (v := (1 : Int32)) hx hb dL_law_1162 (by decide) ?_
                                          refine lv_iadd hx hb dL_law_1163 ?_
                                          obtain ⟨x184, e_x184, hr⟩ := zb_some hr
                                          refine va_sld hx hb hX hbl hbA I.2.2 (zsx_some e_x184).1 dL_law_1164 ?_
                                          rw [← (zsx_some e_x184).2]
                                          refine lv_aload_n hx hb dL_law_1165 rfl (lv_at hl 1 rfl) ?_
                                          refine lv_iload hx hb dL_law_1166 (lv_at hl 5 rfl) ?_
                                          refine lv_iconst (v := (2 : Int32)) hx hb dL_law_1168 (by decide) ?_
                                          refine lv_iadd hx hb dL_law_1169 ?_
                                          obtain ⟨x185, e_x185, hr⟩ := zb_some hr
                                          refine va_sld hx hb hX hbl hbA I.2.2 (zsx_some e_x185).1 dL_law_1170 ?_
                                          rw [← (zsx_some e_x185).2]
                                          obtain ⟨x186, e_x186, hr⟩ := zb_some hr
                                          refine zcallI M I (zrunV (as := [.int x184, .int x185]) M I (c_X11_gap l g fu e_x186) zc_103 zK11.1 (by decide) zlv_L_153 ⟨Nat.le_of_ble_eq_true rfl, Nat.le_of_ble_eq_true rfl⟩ hcs1 rfl rfl (Nat.le_of_ble_eq_true rfl) hl.1 dL_law_1171) (fun H locs I => ?_)
                                          refine lv_istore (lv' := [(6, .int x186.1), (5, .int x183.1), (0, .ref b), (1, .ref (zA g 0)), (2, .ref (zA g 103)), (3, .ref (zA g 124)), (4, .int v4)]) hx hb dL_law_1174 hl (by decide) rfl (fun ls hl => ?_)
                                          refine lv_aload_n hx hb dL_law_1176 rfl (lv_at hl 4 rfl) ?_
                                          obtain ⟨x187, e_x187, hr⟩ := zb_some hr
                                          refine zcallI M I (zrunV (as := []) M I (c_X11_thrown l g fu e_x187) zc_103 zK11.1 (by decide) zlv_L_93 ⟨Nat.le_of_ble_eq_true rfl, Nat.le_of_ble_eq_true rfl⟩ hcs1 rfl rfl (Nat.le_of_ble_eq_true rfl) hl.1 dL_law_1177) (fun H locs I => ?_)
                                          refine lv_iload hx hb dL_law_1180 (lv_at hl 1 rfl) ?_
                                          refine lv_icmp_eq (tgt := 1187) hx hb dL_law_1182 (by decide) (fun c191 => ?_) (fun c191 => ?_)
                                          · replace hr := zif_t hr c191
                                            refine lv_iload hx hb dL_law_1187 (lv_at hl 1 rfl) ?_
                                            refine lv_if_ne (tgt := 1204) hx hb dL_law_1189 (by decide) (fun c190 => ?_) (fun c190 => ?_)
                                            · replace hr := zif_t hr c190
                                              refine lv_goto (tgt := 1671) hx hb dL_law_1204 (by decide) ?_
                                              refine lv_iinc (lv' := [(4, .int (v4 + 5)), (6, .int x186.1), (5, .int x183.1), (0, .ref b), (1, .ref (zA g 0)), (2, .ref (zA g 103)), (3, .ref (zA g 124))]) (k := 6) (v := (v4 + 5)) hx hb dL_law_1671 hl rfl (zi_5 _) (by decide) rfl (fun ls hl => ?_)
                                              refine lv_goto (tgt := 23) hx hb dL_law_1674 (by decide) ?_
                                              refine W.widen (k := k0 + (t + 1)) (n := n0 + 6 * (t + 1)) (by omega) (by omega) ?_
                                              exact ih (t + 1) _ _ (zlaw5 hv) (by omega) hr ls _ _ (lv_sub hl [3, 4, 5, 6, 0] rfl) I
                                            · replace hr := zif_f hr (fun hq => hq c190)
                                              refine lv_aload_n hx hb dL_law_1192 rfl (lv_at hl 5 rfl) ?_
                                              refine lv_iconst (v := (0 : Int32)) hx hb dL_law_1193 (by decide) ?_
                                              obtain ⟨x188, e_x188, hr⟩ := zb_some hr
                                              refine zlald M I zc_124 e_x188 dL_law_1194 ?_
                                              refine lv_iload hx hb dL_law_1195 (lv_at hl 0 rfl) ?_
                                              refine lv_i2l (v := (x186.1.toInt64)) hx hb dL_law_1197 rfl ?_
                                              refine W.lcmp hx hb dL_law_1198 ?_
                                              refine lv_if_eq (tgt := 1204) hx hb dL_law_1199 (by decide) (fun c189 => ?_) (fun c189 => ?_)
                                              · replace hr := zif_t hr c189
                                                refine lv_goto (tgt := 1671) hx hb dL_law_1204 (by decide) ?_
                                                refine lv_iinc (lv' := [(4, .int (v4 + 5)), (6, .int x186.1), (5, .int x183.1), (0, .ref b), (1, .ref (zA g 0)), (2, .ref (zA g 103)), (3, .ref (zA g 124))]) (k := 6) (v := (v4 + 5)) hx hb dL_law_1671 hl rfl (zi_5 _) (by decide) rfl (fun ls hl => ?_)
                                                refine lv_goto (tgt := 23) hx hb dL_law_1674 (by decide) ?_
                                                refine W.widen (k := k0 + (t + 1)) (n := n0 + 6 * (t + 1)) (by omega) (by omega) ?_
                                                exact ih (t + 1) _ _ (zlaw5 hv) (by omega) hr ls _ _ (lv_sub hl [3, 4, 5, 6, 0] rfl) I
                                              · replace hr := zif_f hr c189
                                                refine lv_iconst (v := (0 : Int32)) hx hb dL_law_1202 (by decide) ?_
                                                exact absurd (Option.some.inj hr) (by decide)
                                          · replace hr := zif_f hr c191
                                            refine lv_iconst (v := (0 : Int32)) hx hb dL_law_1185 (by decide) ?_
                                            exact absurd (Option.some.inj hr) (by decide)
                                        · replace hr := zif_f hr c180
                                          by_cases c192 : (x1 &&& (31 : Int32)) = (18 : Int32)
                                          · replace hr := zif_t hr c192
                                            refine lv_tableIn (tgt := 1207) hx hb dL_law_39 (by rw [c192]; decide) (by rw [c192]; decide) (by rw [c192]; try rfl) (by decide) ?_
                                            refine lv_aload_n hx hb dL_law_1207 rfl (lv_at hl 1 rfl) ?_
                                            refine lv_aload_n hx hb dL_law_1208 rfl (lv_at hl 0 rfl) ?_
                                            refine lv_iload hx hb dL_law_1209 (lv_at hl 4 rfl) ?_
                                            refine lv_iconst (v := (1 : Int32)) hx hb dL_law_1211 (by decide) ?_
                                            refine lv_iadd hx hb dL_law_1212 ?_
                                            obtain ⟨x193, e_x193, hr⟩ := zb_some hr
                                            refine va_sld hx hb hX hbl hbA I.2.2 (zsx_some e_x193).1 dL_law_1213 ?_
                                            rw [← (zsx_some e_x193).2]
                                            refine lv_aload_n hx hb dL_law_1214 rfl (lv_at hl 0 rfl) ?_
                                            refine lv_iload hx hb dL_law_1215 (lv_at hl 4 rfl) ?_
                                            refine lv_iconst (v := (2 : Int32)) hx hb dL_law_1217 (by decide) ?_
                                            refine lv_iadd hx hb dL_law_1218 ?_
                                            obtain ⟨x194, e_x194, hr⟩ := zb_some hr
                                            refine va_sld hx hb hX hbl hbA I.2.2 (zsx_some e_x194).1 dL_law_1219 ?_
                                            rw [← (zsx_some e_x194).2]
                                            refine lv_aload_n hx hb dL_law_1220 rfl (lv_at hl 3 rfl) ?_
                                            obtain ⟨x195, e_x195, hr⟩ := zb_some hr
                                            refine zcallI1 M I (zrunW (as := [.ref (zA g 0), .int x193, .int x194, .ref (zA g 124)]) M hpx hnc hAn I (c_L_partner l hl0 g fu e_x195) zlw_154 ⟨Nat.le_of_ble_eq_true rfl, Nat.le_of_ble_eq_true rfl⟩ hcs1 rfl rfl (Nat.le_of_ble_eq_true rfl) hl.1 dL_law_1221) (fun H locs I => ?_)
                                            refine lv_istore (lv' := [(5, .int x195.1), (0, .ref b), (1, .ref (zA g 0)), (2, .ref (zA g 103)), (3, .ref (zA g 124)), (4, .int v4)]) hx hb dL_law_1224 hl (by decide) rfl (fun ls hl => ?_)
                                            refine lv_aload_n hx hb dL_law_1226 rfl (lv_at hl 3 rfl) ?_
                                            refine lv_aload_n hx hb dL_law_1227 rfl (lv_at hl 1 rfl) ?_
                                            refine lv_iload hx hb dL_law_1228 (lv_at hl 5 rfl) ?_
                                            refine lv_iconst (v := (1 : Int32)) hx hb dL_law_1230 (by decide) ?_
                                            refine lv_iadd hx hb dL_law_1231 ?_
                                            obtain ⟨x196, e_x196, hr⟩ := zb_some hr
                                            refine va_sld hx hb hX hbl hbA I.2.2 (zsx_some e_x196).1 dL_law_1232 ?_
                                            rw [← (zsx_some e_x196).2]
                                            refine lv_aload_n hx hb dL_law_1233 rfl (lv_at hl 1 rfl) ?_
                                            refine lv_iload hx hb dL_law_1234 (lv_at hl 5 rfl) ?_
                                            refine lv_iconst (v := (2 : Int32)) hx hb dL_law_1236 (by decide) ?_
                                            refine lv_iadd hx hb dL_law_1237 ?_
                                            obtain ⟨x197, e_x197, hr⟩ := zb_some hr
                                            refine va_sld hx hb hX hbl hbA I.2.2 (zsx_some e_x197).1 dL_law_1238 ?_
                                            rw [← (zsx_some e_x197).2]
                                            obtain ⟨x198, e_x198, hr⟩ := zb_some hr
                                            refine zcallI M I (zrunV (as := [.int x196, .int x197]) M I (c_X11_partner l g fu e_x198) zc_103 zK11.1 (by decide) zlv_L_156 ⟨Nat.le_of_ble_eq_true rfl, Nat.le_of_ble_eq_true rfl⟩ hcs1 rfl rfl (Nat.le_of_ble_eq_true rfl) hl.1 dL_law_1239) (fun H locs I => ?_)
                                            refine lv_istore (lv' := [(6, .int x198.1), (5, .int x195.1), (0, .ref b), (1, .ref (zA g 0)), (2, .ref (zA g 103)), (3, .ref (zA g 124)), (4, .int v4)]) hx hb dL_law_1242 hl (by decide) rfl (fun ls hl => ?_)
                                            refine lv_aload_n hx hb dL_law_1244 rfl (lv_at hl 4 rfl) ?_
                                            obtain ⟨x199, e_x199, hr⟩ := zb_some hr
                                            refine zcallI M I (zrunV (as := []) M I (c_X11_thrown l g fu e_x199) zc_103 zK11.1 (by decide) zlv_L_93 ⟨Nat.le_of_ble_eq_true rfl, Nat.le_of_ble_eq_true rfl⟩ hcs1 rfl rfl (Nat.le_of_ble_eq_true rfl) hl.1 dL_law_1245) (fun H locs I => ?_)
                                            refine lv_iload hx hb dL_law_1248 (lv_at hl 1 rfl) ?_
                                            refine lv_icmp_eq (tgt := 1255) hx hb dL_law_1250 (by decide) (fun c203 => ?_) (fun c203 => ?_)
                                            · replace hr := zif_t hr c203
                                              refine lv_iload hx hb dL_law_1255 (lv_at hl 1 rfl) ?_
                                              refine lv_if_ne (tgt := 1272) hx hb dL_law_1257 (by decide) (fun c202 => ?_) (fun c202 => ?_)
                                              · replace hr := zif_t hr c202
                                                refine lv_goto (tgt := 1671) hx hb dL_law_1272 (by decide) ?_
                                                refine lv_iinc (lv' := [(4, .int (v4 + 5)), (6, .int x198.1), (5, .int x195.1), (0, .ref b), (1, .ref (zA g 0)), (2, .ref (zA g 103)), (3, .ref (zA g 124))]) (k := 6) (v := (v4 + 5)) hx hb dL_law_1671 hl rfl (zi_5 _) (by decide) rfl (fun ls hl => ?_)
                                                refine lv_goto (tgt := 23) hx hb dL_law_1674 (by decide) ?_
                                                refine W.widen (k := k0 + (t + 1)) (n := n0 + 6 * (t + 1)) (by omega) (by omega) ?_
                                                exact ih (t + 1) _ _ (zlaw5 hv) (by omega) hr ls _ _ (lv_sub hl [3, 4, 5, 6, 0] rfl) I
                                              · replace hr := zif_f hr (fun hq => hq c202)
                                                refine lv_aload_n hx hb dL_law_1260 rfl (lv_at hl 5 rfl) ?_
                                                refine lv_iconst (v := (0 : Int32)) hx hb dL_law_1261 (by decide) ?_
                                                obtain ⟨x200, e_x200, hr⟩ := zb_some hr
                                                refine zlald M I zc_124 e_x200 dL_law_1262 ?_
                                                refine lv_iload hx hb dL_law_1263 (lv_at hl 0 rfl) ?_
                                                refine lv_i2l (v := (x198.1.toInt64)) hx hb dL_law_1265 rfl ?_
                                                refine W.lcmp hx hb dL_law_1266 ?_
                                                refine lv_if_eq (tgt := 1272) hx hb dL_law_1267 (by decide) (fun c201 => ?_) (fun c201 => ?_)
                                                · replace hr := zif_t hr c201
                                                  refine lv_goto (tgt := 1671) hx hb dL_law_1272 (by decide) ?_
                                                  refine lv_iinc (lv' := [(4, .int (v4 + 5)), (6, .int x198.1), (5, .int x195.1), (0, .ref b), (1, .ref (zA g 0)), (2, .ref (zA g 103)), (3, .ref (zA g 124))]) (k := 6) (v := (v4 + 5)) hx hb dL_law_1671 hl rfl (zi_5 _) (by decide) rfl (fun ls hl => ?_)
                                                  refine lv_goto (tgt := 23) hx hb dL_law_1674 (by decide) ?_
                                                  refine W.widen (k := k0 + (t + 1)) (n := n0 + 6 * (t + 1)) (by omega) (by omega) ?_
                                                  exact ih (t + 1) _ _ (zlaw5 hv) (by omega) hr ls _ _ (lv_sub hl [3, 4, 5, 6, 0] rfl) I
                                                · replace hr := zif_f hr c201
                                                  refine lv_iconst (v := (0 : Int32)) hx hb dL_law_1270 (by decide) ?_
                                                  exact absurd (Option.some.inj hr) (by decide)
                                            · replace hr := zif_f hr c203
                                              refine lv_iconst (v := (0 : Int32)) hx hb dL_law_1253 (by decide) ?_
                                              exact absurd (Option.some.inj hr) (by decide)
                                          · replace hr := zif_f hr c192
                                            by_cases c204 : (x1 &&& (31 : Int32)) = (19 : Int32)
                                            · replace hr := zif_t hr c204
                                              refine lv_tableIn (tgt := 1275) hx hb dL_law_39 (by rw [c204]; decide) (by rw [c204]; decide) (by rw [c204]; try rfl) (by decide) ?_
                                              refine lv_aload_n hx hb dL_law_1275 rfl (lv_at hl 1 rfl) ?_
                                              refine lv_aload_n hx hb dL_law_1276 rfl (lv_at hl 0 rfl) ?_
                                              refine lv_iload hx hb dL_law_1277 (lv_at hl 4 rfl) ?_
                                              refine lv_iconst (v := (1 : Int32)) hx hb dL_law_1279 (by decide) ?_
                                              refine lv_iadd hx hb dL_law_1280 ?_
                                              obtain ⟨x205, e_x205, hr⟩ := zb_some hr
                                              refine va_sld hx hb hX hbl hbA I.2.2 (zsx_some e_x205).1 dL_law_1281 ?_
                                              rw [← (zsx_some e_x205).2]
                                              refine lv_aload_n hx hb dL_law_1282 rfl (lv_at hl 0 rfl) ?_
                                              refine lv_iload hx hb dL_law_1283 (lv_at hl 4 rfl) ?_
                                              refine lv_iconst (v := (2 : Int32)) hx hb dL_law_1285 (by decide) ?_
                                              refine lv_iadd hx hb dL_law_1286 ?_
                                              obtain ⟨x206, e_x206, hr⟩ := zb_some hr
                                              refine va_sld hx hb hX hbl hbA I.2.2 (zsx_some e_x206).1 dL_law_1287 ?_
                                              rw [← (zsx_some e_x206).2]
                                              refine lv_aload_n hx hb dL_law_1288 rfl (lv_at hl 3 rfl) ?_
                                              obtain ⟨x207, e_x207, hr⟩ := zb_some hr
                                              refine zcallI1 M I (zrunW (as := [.ref (zA g 0), .int x205, .int x206, .ref (zA g 124)]) M hpx hnc hAn I (c_L_doubled l hl0 g fu e_x207) zlw_157 ⟨Nat.le_of_ble_eq_true rfl, Nat.le_of_ble_eq_true rfl⟩ hcs1 rfl rfl (Nat.le_of_ble_eq_true rfl) hl.1 dL_law_1289) (fun H locs I => ?_)
                                              refine lv_istore (lv' := [(5, .int x207.1), (0, .ref b), (1, .ref (zA g 0)), (2, .ref (zA g 103)), (3, .ref (zA g 124)), (4, .int v4)]) hx hb dL_law_1292 hl (by decide) rfl (fun ls hl => ?_)
                                              refine lv_aload_n hx hb dL_law_1294 rfl (lv_at hl 3 rfl) ?_
                                              refine lv_aload_n hx hb dL_law_1295 rfl (lv_at hl 1 rfl) ?_
                                              refine lv_iload hx hb dL_law_1296 (lv_at hl 5 rfl) ?_
                                              refine lv_iconst (v := (1 : Int32)) hx hb dL_law_1298 (by decide) ?_
                                              refine lv_iadd hx hb dL_law_1299 ?_
                                              obtain ⟨x208, e_x208, hr⟩ := zb_some hr
                                              refine va_sld hx hb hX hbl hbA I.2.2 (zsx_some e_x208).1 dL_law_1300 ?_
                                              rw [← (zsx_some e_x208).2]
                                              refine lv_aload_n hx hb dL_law_1301 rfl (lv_at hl 1 rfl) ?_
                                              refine lv_iload hx hb dL_law_1302 (lv_at hl 5 rfl) ?_
                                              refine lv_iconst (v := (2 : Int32)) hx hb dL_law_1304 (by decide) ?_
                                              refine lv_iadd hx hb dL_law_1305 ?_
                                              obtain ⟨x209, e_x209, hr⟩ := zb_some hr
                                              refine va_sld hx hb hX hbl hbA I.2.2 (zsx_some e_x209).1 dL_law_1306 ?_
                                              rw [← (zsx_some e_x209).2]
                                              obtain ⟨x210, e_x210, hr⟩ := zb_some hr
                                              refine zcallI M I (zrunV (as := [.int x208, .int x209]) M I (c_X11_doubled l g fu e_x210) zc_103 zK11.1 (by decide) zlv_L_159 ⟨Nat.le_of_ble_eq_true rfl, Nat.le_of_ble_eq_true rfl⟩ hcs1 rfl rfl (Nat.le_of_ble_eq_true rfl) hl.1 dL_law_1307) (fun H locs I => ?_)
                                              refine lv_istore (lv' := [(6, .int x210.1), (5, .int x207.1), (0, .ref b), (1, .ref (zA g 0)), (2, .ref (zA g 103)), (3, .ref (zA g 124)), (4, .int v4)]) hx hb dL_law_1310 hl (by decide) rfl (fun ls hl => ?_)
                                              refine lv_aload_n hx hb dL_law_1312 rfl (lv_at hl 4 rfl) ?_
                                              obtain ⟨x211, e_x211, hr⟩ := zb_some hr
                                              refine zcallI M I (zrunV (as := []) M I (c_X11_thrown l g fu e_x211) zc_103 zK11.1 (by decide) zlv_L_93 ⟨Nat.le_of_ble_eq_true rfl, Nat.le_of_ble_eq_true rfl⟩ hcs1 rfl rfl (Nat.le_of_ble_eq_true rfl) hl.1 dL_law_1313) (fun H locs I => ?_)
                                              refine lv_iload hx hb dL_law_1316 (lv_at hl 1 rfl) ?_
                                              refine lv_icmp_eq (tgt := 1323) hx hb dL_law_1318 (by decide) (fun c215 => ?_) (fun c215 => ?_)
                                              · replace hr := zif_t hr c215
                                                refine lv_iload hx hb dL_law_1323 (lv_at hl 1 rfl) ?_
                                                refine lv_if_ne (tgt := 1340) hx hb dL_law_1325 (by decide) (fun c214 => ?_) (fun c214 => ?_)
                                                · replace hr := zif_t hr c214
                                                  refine lv_goto (tgt := 1671) hx hb dL_law_1340 (by decide) ?_
                                                  refine lv_iinc (lv' := [(4, .int (v4 + 5)), (6, .int x210.1), (5, .int x207.1), (0, .ref b), (1, .ref (zA g 0)), (2, .ref (zA g 103)), (3, .ref (zA g 124))]) (k := 6) (v := (v4 + 5)) hx hb dL_law_1671 hl rfl (zi_5 _) (by decide) rfl (fun ls hl => ?_)
                                                  refine lv_goto (tgt := 23) hx hb dL_law_1674 (by decide) ?_
                                                  refine W.widen (k := k0 + (t + 1)) (n := n0 + 6 * (t + 1)) (by omega) (by omega) ?_
                                                  exact ih (t + 1) _ _ (zlaw5 hv) (by omega) hr ls _ _ (lv_sub hl [3, 4, 5, 6, 0] rfl) I
                                                · replace hr := zif_f hr (fun hq => hq c214)
                                                  refine lv_aload_n hx hb dL_law_1328 rfl (lv_at hl 5 rfl) ?_
                                                  refine lv_iconst (v := (0 : Int32)) hx hb dL_law_1329 (by decide) ?_
                                                  obtain ⟨x212, e_x212, hr⟩ := zb_some hr
                                                  refine zlald M I zc_124 e_x212 dL_law_1330 ?_
                                                  refine lv_iload hx hb dL_law_1331 (lv_at hl 0 rfl) ?_
                                                  refine lv_i2l (v := (x210.1.toInt64)) hx hb dL_law_1333 rfl ?_
                                                  refine W.lcmp hx hb dL_law_1334 ?_
                                                  refine lv_if_eq (tgt := 1340) hx hb dL_law_1335 (by decide) (fun c213 => ?_) (fun c213 => ?_)
                                                  · replace hr := zif_t hr c213
                                                    refine lv_goto (tgt := 1671) hx hb dL_law_1340 (by decide) ?_
                                                    refine lv_iinc (lv' := [(4, .int (v4 + 5)), (6, .int x210.1), (5, .int x207.1), (0, .ref b), (1, .ref (zA g 0)), (2, .ref (zA g 103)), (3, .ref (zA g 124))]) (k := 6) (v := (v4 + 5)) hx hb dL_law_1671 hl rfl (zi_5 _) (by decide) rfl (fun ls hl => ?_)
                                                    refine lv_goto (tgt := 23) hx hb dL_law_1674 (by decide) ?_
                                                    refine W.widen (k := k0 + (t + 1)) (n := n0 + 6 * (t + 1)) (by omega) (by omega) ?_
                                                    exact ih (t + 1) _ _ (zlaw5 hv) (by omega) hr ls _ _ (lv_sub hl [3, 4, 5, 6, 0] rfl) I
                                                  · replace hr := zif_f hr c213
                                                    refine lv_iconst (v := (0 : Int32)) hx hb dL_law_1338 (by decide) ?_
                                                    exact absurd (Option.some.inj hr) (by decide)
                                              · replace hr := zif_f hr c215
                                                refine lv_iconst (v := (0 : Int32)) hx hb dL_law_1321 (by decide) ?_
                                                exact absurd (Option.some.inj hr) (by decide)
                                            · replace hr := zif_f hr c204
                                              by_cases c216 : (x1 &&& (31 : Int32)) = (20 : Int32)
                                              · replace hr := zif_t hr c216
                                                refine lv_tableIn (tgt := 1343) hx hb dL_law_39 (by rw [c216]; decide) (by rw [c216]; decide) (by rw [c216]; try rfl) (by decide) ?_
                                                refine lv_aload_n hx hb dL_law_1343 rfl (lv_at hl 1 rfl) ?_
                                                refine lv_aload_n hx hb dL_law_1344 rfl (lv_at hl 0 rfl) ?_
                                                refine lv_iload hx hb dL_law_1345 (lv_at hl 4 rfl) ?_
                                                refine lv_iconst (v := (1 : Int32)) hx hb dL_law_1347 (by decide) ?_
                                                refine lv_iadd hx hb dL_law_1348 ?_
                                                obtain ⟨x217, e_x217, hr⟩ := zb_some hr
                                                refine va_sld hx hb hX hbl hbA I.2.2 (zsx_some e_x217).1 dL_law_1349 ?_
                                                rw [← (zsx_some e_x217).2]
                                                refine lv_aload_n hx hb dL_law_1350 rfl (lv_at hl 3 rfl) ?_
                                                obtain ⟨x218, e_x218, hr⟩ := zb_some hr
                                                refine zcallI1 M I (zrunW (as := [.ref (zA g 0), .int x217, .ref (zA g 124)]) M hpx hnc hAn I (c_L_count l hl0 g fu e_x218) zlw_160 ⟨Nat.le_of_ble_eq_true rfl, Nat.le_of_ble_eq_true rfl⟩ hcs1 rfl rfl (Nat.le_of_ble_eq_true rfl) hl.1 dL_law_1351) (fun H locs I => ?_)
                                                refine lv_istore (lv' := [(5, .int x218.1), (0, .ref b), (1, .ref (zA g 0)), (2, .ref (zA g 103)), (3, .ref (zA g 124)), (4, .int v4)]) hx hb dL_law_1354 hl (by decide) rfl (fun ls hl => ?_)
                                                refine lv_aload_n hx hb dL_law_1356 rfl (lv_at hl 3 rfl) ?_
                                                refine lv_aload_n hx hb dL_law_1357 rfl (lv_at hl 1 rfl) ?_
                                                refine lv_iload hx hb dL_law_1358 (lv_at hl 5 rfl) ?_
                                                refine lv_iconst (v := (1 : Int32)) hx hb dL_law_1360 (by decide) ?_
                                                refine lv_iadd hx hb dL_law_1361 ?_
                                                obtain ⟨x219, e_x219, hr⟩ := zb_some hr
                                                refine va_sld hx hb hX hbl hbA I.2.2 (zsx_some e_x219).1 dL_law_1362 ?_
                                                rw [← (zsx_some e_x219).2]
                                                obtain ⟨x220, e_x220, hr⟩ := zb_some hr
                                                refine zcallI M I (zrunV (as := [.int x219]) M I (c_X11_count l g fu e_x220) zc_103 zK11.1 (by decide) zlv_L_162 ⟨Nat.le_of_ble_eq_true rfl, Nat.le_of_ble_eq_true rfl⟩ hcs1 rfl rfl (Nat.le_of_ble_eq_true rfl) hl.1 dL_law_1363) (fun H locs I => ?_)
                                                refine lv_istore (lv' := [(6, .int x220.1), (5, .int x218.1), (0, .ref b), (1, .ref (zA g 0)), (2, .ref (zA g 103)), (3, .ref (zA g 124)), (4, .int v4)]) hx hb dL_law_1366 hl (by decide) rfl (fun ls hl => ?_)
                                                refine lv_aload_n hx hb dL_law_1368 rfl (lv_at hl 4 rfl) ?_
                                                obtain ⟨x221, e_x221, hr⟩ := zb_some hr
                                                refine zcallI M I (zrunV (as := []) M I (c_X11_thrown l g fu e_x221) zc_103 zK11.1 (by decide) zlv_L_93 ⟨Nat.le_of_ble_eq_true rfl, Nat.le_of_ble_eq_true rfl⟩ hcs1 rfl rfl (Nat.le_of_ble_eq_true rfl) hl.1 dL_law_1369) (fun H locs I => ?_)
                                                refine lv_iload hx hb dL_law_1372 (lv_at hl 1 rfl) ?_
                                                refine lv_icmp_eq (tgt := 1379) hx hb dL_law_1374 (by decide) (fun c225 => ?_) (fun c225 => ?_)
                                                · replace hr := zif_t hr c225
                                                  refine lv_iload hx hb dL_law_1379 (lv_at hl 1 rfl) ?_
                                                  refine lv_if_ne (tgt := 1396) hx hb dL_law_1381 (by decide) (fun c224 => ?_) (fun c224 => ?_)
                                                  · replace hr := zif_t hr c224
                                                    refine lv_goto (tgt := 1671) hx hb dL_law_1396 (by decide) ?_
                                                    refine lv_iinc (lv' := [(4, .int (v4 + 5)), (6, .int x220.1), (5, .int x218.1), (0, .ref b), (1, .ref (zA g 0)), (2, .ref (zA g 103)), (3, .ref (zA g 124))]) (k := 6) (v := (v4 + 5)) hx hb dL_law_1671 hl rfl (zi_5 _) (by decide) rfl (fun ls hl => ?_)
                                                    refine lv_goto (tgt := 23) hx hb dL_law_1674 (by decide) ?_
                                                    refine W.widen (k := k0 + (t + 1)) (n := n0 + 6 * (t + 1)) (by omega) (by omega) ?_
                                                    exact ih (t + 1) _ _ (zlaw5 hv) (by omega) hr ls _ _ (lv_sub hl [3, 4, 5, 6, 0] rfl) I
                                                  · replace hr := zif_f hr (fun hq => hq c224)
                                                    refine lv_aload_n hx hb dL_law_1384 rfl (lv_at hl 5 rfl) ?_
                                                    refine lv_iconst (v := (0 : Int32)) hx hb dL_law_1385 (by decide) ?_
                                                    obtain ⟨x222, e_x222, hr⟩ := zb_some hr
                                                    refine zlald M I zc_124 e_x222 dL_law_1386 ?_
                                                    refine lv_iload hx hb dL_law_1387 (lv_at hl 0 rfl) ?_
                                                    refine lv_i2l (v := (x220.1.toInt64)) hx hb dL_law_1389 rfl ?_
                                                    refine W.lcmp hx hb dL_law_1390 ?_
                                                    refine lv_if_eq (tgt := 1396) hx hb dL_law_1391 (by decide) (fun c223 => ?_) (fun c223 => ?_)
                                                    · replace hr := zif_t hr c223
                                                      refine lv_goto (tgt := 1671) hx hb dL_law_1396 (by decide) ?_
                                                      refine lv_iinc (lv' := [(4, .int (v4 + 5)), (6, .int x220.1), (5, .int x218.1), (0, .ref b), (1, .ref (zA g 0)), (2, .ref (zA g 103)), (3, .ref (zA g 124))]) (k := 6) (v := (v4 + 5)) hx hb dL_law_1671 hl rfl (zi_5 _) (by decide) rfl (fun ls hl => ?_)
                                                      refine lv_goto (tgt := 23) hx hb dL_law_1674 (by decide) ?_
                                                      refine W.widen (k := k0 + (t + 1)) (n := n0 + 6 * (t + 1)) (by omega) (by omega) ?_
                                                      exact ih (t + 1) _ _ (zlaw5 hv) (by omega) hr ls _ _ (lv_sub hl [3, 4, 5, 6, 0] rfl) I
                                                    · replace hr := zif_f hr c223
                                                      refine lv_iconst (v := (0 : Int32)) hx hb dL_law_1394 (by decide) ?_
                                                      exact absurd (Option.some.inj hr) (by decide)
                                                · replace hr := zif_f hr c225
                                                  refine lv_iconst (v := (0 : Int32)) hx hb dL_law_1377 (by decide) ?_
                                                  exact absurd (Option.some.inj hr) (by decide)
                                              · replace hr := zif_f hr c216
                                                by_cases c226 : (x1 &&& (31 : Int32)) = (21 : Int32)
                                                · replace hr := zif_t hr c226
                                                  refine lv_tableIn (tgt := 1399) hx hb dL_law_39 (by rw [c226]; decide) (by rw [c226]; decide) (by rw [c226]; try rfl) (by decide) ?_
                                                  refine lv_aload_n hx hb dL_law_1399 rfl (lv_at hl 1 rfl) ?_
                                                  refine lv_aload_n hx hb dL_law_1400 rfl (lv_at hl 0 rfl) ?_
                                                  refine lv_iload hx hb dL_law_1401 (lv_at hl 4 rfl) ?_
                                                  refine lv_iconst (v := (1 : Int32)) hx hb dL_law_1403 (by decide) ?_
                                                  refine lv_iadd hx hb dL_law_1404 ?_
                                                  obtain ⟨x227, e_x227, hr⟩ := zb_some hr
                                                  refine va_sld hx hb hX hbl hbA I.2.2 (zsx_some e_x227).1 dL_law_1405 ?_
                                                  rw [← (zsx_some e_x227).2]
                                                  refine lv_aload_n hx hb dL_law_1406 rfl (lv_at hl 3 rfl) ?_
                                                  obtain ⟨x228, e_x228, hr⟩ := zb_some hr
                                                  refine zcallI1 M I (zrunW (as := [.ref (zA g 0), .int x227, .ref (zA g 124)]) M hpx hnc hAn I (c_L_setting l hl0 g fu e_x228) zlw_163 ⟨Nat.le_of_ble_eq_true rfl, Nat.le_of_ble_eq_true rfl⟩ hcs1 rfl rfl (Nat.le_of_ble_eq_true rfl) hl.1 dL_law_1407) (fun H locs I => ?_)
                                                  refine lv_istore (lv' := [(5, .int x228.1), (0, .ref b), (1, .ref (zA g 0)), (2, .ref (zA g 103)), (3, .ref (zA g 124)), (4, .int v4)]) hx hb dL_law_1410 hl (by decide) rfl (fun ls hl => ?_)
                                                  refine lv_aload_n hx hb dL_law_1412 rfl (lv_at hl 3 rfl) ?_
                                                  refine lv_aload_n hx hb dL_law_1413 rfl (lv_at hl 1 rfl) ?_
                                                  refine lv_iload hx hb dL_law_1414 (lv_at hl 5 rfl) ?_
                                                  refine lv_iconst (v := (1 : Int32)) hx hb dL_law_1416 (by decide) ?_
                                                  refine lv_iadd hx hb dL_law_1417 ?_
                                                  obtain ⟨x229, e_x229, hr⟩ := zb_some hr
                                                  refine va_sld hx hb hX hbl hbA I.2.2 (zsx_some e_x229).1 dL_law_1418 ?_
                                                  rw [← (zsx_some e_x229).2]
                                                  obtain ⟨x230, e_x230, hr⟩ := zb_some hr
                                                  refine zcallI M I (zrunV (as := [.int x229]) M I (c_X11_setting l g fu e_x230) zc_103 zK11.1 (by decide) zlv_L_165 ⟨Nat.le_of_ble_eq_true rfl, Nat.le_of_ble_eq_true rfl⟩ hcs1 rfl rfl (Nat.le_of_ble_eq_true rfl) hl.1 dL_law_1419) (fun H locs I => ?_)
                                                  refine lv_istore (lv' := [(6, .int x230.1), (5, .int x228.1), (0, .ref b), (1, .ref (zA g 0)), (2, .ref (zA g 103)), (3, .ref (zA g 124)), (4, .int v4)]) hx hb dL_law_1422 hl (by decide) rfl (fun ls hl => ?_)
                                                  refine lv_aload_n hx hb dL_law_1424 rfl (lv_at hl 4 rfl) ?_
                                                  obtain ⟨x231, e_x231, hr⟩ := zb_some hr
                                                  refine zcallI M I (zrunV (as := []) M I (c_X11_thrown l g fu e_x231) zc_103 zK11.1 (by decide) zlv_L_93 ⟨Nat.le_of_ble_eq_true rfl, Nat.le_of_ble_eq_true rfl⟩ hcs1 rfl rfl (Nat.le_of_ble_eq_true rfl) hl.1 dL_law_1425) (fun H locs I => ?_)
                                                  refine lv_iload hx hb dL_law_1428 (lv_at hl 1 rfl) ?_
                                                  refine lv_icmp_eq (tgt := 1435) hx hb dL_law_1430 (by decide) (fun c235 => ?_) (fun c235 => ?_)
                                                  · replace hr := zif_t hr c235
                                                    refine lv_iload hx hb dL_law_1435 (lv_at hl 1 rfl) ?_
                                                    refine lv_if_ne (tgt := 1452) hx hb dL_law_1437 (by decide) (fun c234 => ?_) (fun c234 => ?_)
                                                    · replace hr := zif_t hr c234
                                                      refine lv_goto (tgt := 1671) hx hb dL_law_1452 (by decide) ?_
                                                      refine lv_iinc (lv' := [(4, .int (v4 + 5)), (6, .int x230.1), (5, .int x228.1), (0, .ref b), (1, .ref (zA g 0)), (2, .ref (zA g 103)), (3, .ref (zA g 124))]) (k := 6) (v := (v4 + 5)) hx hb dL_law_1671 hl rfl (zi_5 _) (by decide) rfl (fun ls hl => ?_)
                                                      refine lv_goto (tgt := 23) hx hb dL_law_1674 (by decide) ?_
                                                      refine W.widen (k := k0 + (t + 1)) (n := n0 + 6 * (t + 1)) (by omega) (by omega) ?_
                                                      exact ih (t + 1) _ _ (zlaw5 hv) (by omega) hr ls _ _ (lv_sub hl [3, 4, 5, 6, 0] rfl) I
                                                    · replace hr := zif_f hr (fun hq => hq c234)
                                                      refine lv_aload_n hx hb dL_law_1440 rfl (lv_at hl 5 rfl) ?_
                                                      refine lv_iconst (v := (0 : Int32)) hx hb dL_law_1441 (by decide) ?_
                                                      obtain ⟨x232, e_x232, hr⟩ := zb_some hr
                                                      refine zlald M I zc_124 e_x232 dL_law_1442 ?_
                                                      refine lv_iload hx hb dL_law_1443 (lv_at hl 0 rfl) ?_
                                                      refine lv_i2l (v := (x230.1.toInt64)) hx hb dL_law_1445 rfl ?_
                                                      refine W.lcmp hx hb dL_law_1446 ?_
                                                      refine lv_if_eq (tgt := 1452) hx hb dL_law_1447 (by decide) (fun c233 => ?_) (fun c233 => ?_)
                                                      · replace hr := zif_t hr c233
                                                        refine lv_goto (tgt := 1671) hx hb dL_law_1452 (by decide) ?_
                                                        refine lv_iinc (lv' := [(4, .int (v4 + 5)), (6, .int x230.1), (5, .int x228.1), (0, .ref b), (1, .ref (zA g 0)), (2, .ref (zA g 103)), (3, .ref (zA g 124))]) (k := 6) (v := (v4 + 5)) hx hb dL_law_1671 hl rfl (zi_5 _) (by decide) rfl (fun ls hl => ?_)
                                                        refine lv_goto (tgt := 23) hx hb dL_law_1674 (by decide) ?_
                                                        refine W.widen (k := k0 + (t + 1)) (n := n0 + 6 * (t + 1)) (by omega) (by omega) ?_
                                                        exact ih (t + 1) _ _ (zlaw5 hv) (by omega) hr ls _ _ (lv_sub hl [3, 4, 5, 6, 0] rfl) I
                                                      · replace hr := zif_f hr c233
                                                        refine lv_iconst (v := (0 : Int32)) hx hb dL_law_1450 (by decide) ?_
                                                        exact absurd (Option.some.inj hr) (by decide)
                                                  · replace hr := zif_f hr c235
                                                    refine lv_iconst (v := (0 : Int32)) hx hb dL_law_1433 (by decide) ?_
                                                    exact absurd (Option.some.inj hr) (by decide)
                                                · replace hr := zif_f hr c226
                                                  by_cases c236 : (x1 &&& (31 : Int32)) = (22 : Int32)
                                                  · replace hr := zif_t hr c236
                                                    refine lv_tableIn (tgt := 1455) hx hb dL_law_39 (by rw [c236]; decide) (by rw [c236]; decide) (by rw [c236]; try rfl) (by decide) ?_
                                                    refine lv_aload_n hx hb dL_law_1455 rfl (lv_at hl 1 rfl) ?_
                                                    refine lv_aload_n hx hb dL_law_1456 rfl (lv_at hl 0 rfl) ?_
                                                    refine lv_iload hx hb dL_law_1457 (lv_at hl 4 rfl) ?_
                                                    refine lv_iconst (v := (1 : Int32)) hx hb dL_law_1459 (by decide) ?_
                                                    refine lv_iadd hx hb dL_law_1460 ?_
                                                    obtain ⟨x237, e_x237, hr⟩ := zb_some hr
                                                    refine va_sld hx hb hX hbl hbA I.2.2 (zsx_some e_x237).1 dL_law_1461 ?_
                                                    rw [← (zsx_some e_x237).2]
                                                    refine lv_aload_n hx hb dL_law_1462 rfl (lv_at hl 0 rfl) ?_
                                                    refine lv_iload hx hb dL_law_1463 (lv_at hl 4 rfl) ?_
                                                    refine lv_iconst (v := (2 : Int32)) hx hb dL_law_1465 (by decide) ?_
                                                    refine lv_iadd hx hb dL_law_1466 ?_
                                                    obtain ⟨x238, e_x238, hr⟩ := zb_some hr
                                                    refine va_sld hx hb hX hbl hbA I.2.2 (zsx_some e_x238).1 dL_law_1467 ?_
                                                    rw [← (zsx_some e_x238).2]
                                                    refine lv_aload_n hx hb dL_law_1468 rfl (lv_at hl 3 rfl) ?_
                                                    obtain ⟨x239, e_x239, hr⟩ := zb_some hr
                                                    refine zcallI1 M I (zrunW (as := [.ref (zA g 0), .int x237, .int x238, .ref (zA g 124)]) M hpx hnc hAn I (c_L_ifSet l hl0 g fu e_x239) zlw_166 ⟨Nat.le_of_ble_eq_true rfl, Nat.le_of_ble_eq_true rfl⟩ hcs1 rfl rfl (Nat.le_of_ble_eq_true rfl) hl.1 dL_law_1469) (fun H locs I => ?_)
                                                    refine lv_istore (lv' := [(5, .int x239.1), (0, .ref b), (1, .ref (zA g 0)), (2, .ref (zA g 103)), (3, .ref (zA g 124)), (4, .int v4)]) hx hb dL_law_1472 hl (by decide) rfl (fun ls hl => ?_)
                                                    refine lv_aload_n hx hb dL_law_1474 rfl (lv_at hl 3 rfl) ?_
                                                    refine lv_aload_n hx hb dL_law_1475 rfl (lv_at hl 1 rfl) ?_
                                                    refine lv_iload hx hb dL_law_1476 (lv_at hl 5 rfl) ?_
                                                    refine lv_iconst (v := (1 : Int32)) hx hb dL_law_1478 (by decide) ?_
                                                    refine lv_iadd hx hb dL_law_1479 ?_
                                                    obtain ⟨x240, e_x240, hr⟩ := zb_some hr
                                                    refine va_sld hx hb hX hbl hbA I.2.2 (zsx_some e_x240).1 dL_law_1480 ?_
                                                    rw [← (zsx_some e_x240).2]
                                                    refine lv_aload_n hx hb dL_law_1481 rfl (lv_at hl 1 rfl) ?_
                                                    refine lv_iload hx hb dL_law_1482 (lv_at hl 5 rfl) ?_
                                                    refine lv_iconst (v := (2 : Int32)) hx hb dL_law_1484 (by decide) ?_
                                                    refine lv_iadd hx hb dL_law_1485 ?_
                                                    obtain ⟨x241, e_x241, hr⟩ := zb_some hr
                                                    refine va_sld hx hb hX hbl hbA I.2.2 (zsx_some e_x241).1 dL_law_1486 ?_
                                                    rw [← (zsx_some e_x241).2]
                                                    obtain ⟨x242, e_x242, hr⟩ := zb_some hr
                                                    refine zcallI M I (zrunV (as := [.int x240, .int x241]) M I (c_X11_ifSet l g fu e_x242) zc_103 zK11.1 (by decide) zlv_L_168 ⟨Nat.le_of_ble_eq_true rfl, Nat.le_of_ble_eq_true rfl⟩ hcs1 rfl rfl (Nat.le_of_ble_eq_true rfl) hl.1 dL_law_1487) (fun H locs I => ?_)
                                                    refine lv_istore (lv' := [(6, .int x242.1), (5, .int x239.1), (0, .ref b), (1, .ref (zA g 0)), (2, .ref (zA g 103)), (3, .ref (zA g 124)), (4, .int v4)]) hx hb dL_law_1490 hl (by decide) rfl (fun ls hl => ?_)
                                                    refine lv_aload_n hx hb dL_law_1492 rfl (lv_at hl 4 rfl) ?_
                                                    obtain ⟨x243, e_x243, hr⟩ := zb_some hr
                                                    refine zcallI M I (zrunV (as := []) M I (c_X11_thrown l g fu e_x243) zc_103 zK11.1 (by decide) zlv_L_93 ⟨Nat.le_of_ble_eq_true rfl, Nat.le_of_ble_eq_true rfl⟩ hcs1 rfl rfl (Nat.le_of_ble_eq_true rfl) hl.1 dL_law_1493) (fun H locs I => ?_)
                                                    refine lv_iload hx hb dL_law_1496 (lv_at hl 1 rfl) ?_
                                                    refine lv_icmp_eq (tgt := 1503) hx hb dL_law_1498 (by decide) (fun c247 => ?_) (fun c247 => ?_)
                                                    · replace hr := zif_t hr c247
                                                      refine lv_iload hx hb dL_law_1503 (lv_at hl 1 rfl) ?_
                                                      refine lv_if_ne (tgt := 1520) hx hb dL_law_1505 (by decide) (fun c246 => ?_) (fun c246 => ?_)
                                                      · replace hr := zif_t hr c246
                                                        refine lv_goto (tgt := 1671) hx hb dL_law_1520 (by decide) ?_
                                                        refine lv_iinc (lv' := [(4, .int (v4 + 5)), (6, .int x242.1), (5, .int x239.1), (0, .ref b), (1, .ref (zA g 0)), (2, .ref (zA g 103)), (3, .ref (zA g 124))]) (k := 6) (v := (v4 + 5)) hx hb dL_law_1671 hl rfl (zi_5 _) (by decide) rfl (fun ls hl => ?_)
                                                        refine lv_goto (tgt := 23) hx hb dL_law_1674 (by decide) ?_
                                                        refine W.widen (k := k0 + (t + 1)) (n := n0 + 6 * (t + 1)) (by omega) (by omega) ?_
                                                        exact ih (t + 1) _ _ (zlaw5 hv) (by omega) hr ls _ _ (lv_sub hl [3, 4, 5, 6, 0] rfl) I
                                                      · replace hr := zif_f hr (fun hq => hq c246)
                                                        refine lv_aload_n hx hb dL_law_1508 rfl (lv_at hl 5 rfl) ?_
                                                        refine lv_iconst (v := (0 : Int32)) hx hb dL_law_1509 (by decide) ?_
                                                        obtain ⟨x244, e_x244, hr⟩ := zb_some hr
                                                        refine zlald M I zc_124 e_x244 dL_law_1510 ?_
                                                        refine lv_iload hx hb dL_law_1511 (lv_at hl 0 rfl) ?_
                                                        refine lv_i2l (v := (x242.1.toInt64)) hx hb dL_law_1513 rfl ?_
                                                        refine W.lcmp hx hb dL_law_1514 ?_
                                                        refine lv_if_eq (tgt := 1520) hx hb dL_law_1515 (by decide) (fun c245 => ?_) (fun c245 => ?_)
                                                        · replace hr := zif_t hr c245
                                                          refine lv_goto (tgt := 1671) hx hb dL_law_1520 (by decide) ?_
                                                          refine lv_iinc (lv' := [(4, .int (v4 + 5)), (6, .int x242.1), (5, .int x239.1), (0, .ref b), (1, .ref (zA g 0)), (2, .ref (zA g 103)), (3, .ref (zA g 124))]) (k := 6) (v := (v4 + 5)) hx hb dL_law_1671 hl rfl (zi_5 _) (by decide) rfl (fun ls hl => ?_)
                                                          refine lv_goto (tgt := 23) hx hb dL_law_1674 (by decide) ?_
                                                          refine W.widen (k := k0 + (t + 1)) (n := n0 + 6 * (t + 1)) (by omega) (by omega) ?_
                                                          exact ih (t + 1) _ _ (zlaw5 hv) (by omega) hr ls _ _ (lv_sub hl [3, 4, 5, 6, 0] rfl) I
                                                        · replace hr := zif_f hr c245
                                                          refine lv_iconst (v := (0 : Int32)) hx hb dL_law_1518 (by decide) ?_
                                                          exact absurd (Option.some.inj hr) (by decide)
                                                    · replace hr := zif_f hr c247
                                                      refine lv_iconst (v := (0 : Int32)) hx hb dL_law_1501 (by decide) ?_
                                                      exact absurd (Option.some.inj hr) (by decide)
                                                  · replace hr := zif_f hr c236
                                                    by_cases c248 : (x1 &&& (31 : Int32)) = (23 : Int32)
                                                    · replace hr := zif_t hr c248
                                                      refine lv_tableIn (tgt := 1523) hx hb dL_law_39 (by rw [c248]; decide) (by rw [c248]; decide) (by rw [c248]; try rfl) (by decide) ?_
                                                      refine lv_aload_n hx hb dL_law_1523 rfl (lv_at hl 1 rfl) ?_
                                                      refine lv_aload_n hx hb dL_law_1524 rfl (lv_at hl 0 rfl) ?_
                                                      refine lv_iload hx hb dL_law_1525 (lv_at hl 4 rfl) ?_
                                                      refine lv_iconst (v := (1 : Int32)) hx hb dL_law_1527 (by decide) ?_
                                                      refine lv_iadd hx hb dL_law_1528 ?_
                                                      obtain ⟨x249, e_x249, hr⟩ := zb_some hr
                                                      refine va_sld hx hb hX hbl hbA I.2.2 (zsx_some e_x249).1 dL_law_1529 ?_
                                                      rw [← (zsx_some e_x249).2]
                                                      refine lv_aload_n hx hb dL_law_1530 rfl (lv_at hl 0 rfl) ?_
                                                      refine lv_iload hx hb dL_law_1531 (lv_at hl 4 rfl) ?_
                                                      refine lv_iconst (v := (2 : Int32)) hx hb dL_law_1533 (by decide) ?_
                                                      refine lv_iadd hx hb dL_law_1534 ?_
                                                      obtain ⟨x250, e_x250, hr⟩ := zb_some hr
                                                      refine va_sld hx hb hX hbl hbA I.2.2 (zsx_some e_x250).1 dL_law_1535 ?_
                                                      rw [← (zsx_some e_x250).2]
                                                      refine lv_aload_n hx hb dL_law_1536 rfl (lv_at hl 0 rfl) ?_
                                                      refine lv_iload hx hb dL_law_1537 (lv_at hl 4 rfl) ?_
                                                      refine lv_iconst (v := (3 : Int32)) hx hb dL_law_1539 (by decide) ?_
                                                      refine lv_iadd hx hb dL_law_1540 ?_
                                                      obtain ⟨x251, e_x251, hr⟩ := zb_some hr
                                                      refine va_sld hx hb hX hbl hbA I.2.2 (zsx_some e_x251).1 dL_law_1541 ?_
                                                      rw [← (zsx_some e_x251).2]
                                                      refine lv_aload_n hx hb dL_law_1542 rfl (lv_at hl 3 rfl) ?_
                                                      obtain ⟨x252, e_x252, hr⟩ := zb_some hr
                                                      refine zcallI1 M I (zrunW (as := [.ref (zA g 0), .int x249, .int x250, .int x251, .ref (zA g 124)]) M hpx hnc hAn I (c_L_ifChanged l hl0 g fu e_x252) zlw_169 ⟨Nat.le_of_ble_eq_true rfl, Nat.le_of_ble_eq_true rfl⟩ hcs1 rfl rfl (Nat.le_of_ble_eq_true rfl) hl.1 dL_law_1543) (fun H locs I => ?_)
                                                      refine lv_istore (lv' := [(5, .int x252.1), (0, .ref b), (1, .ref (zA g 0)), (2, .ref (zA g 103)), (3, .ref (zA g 124)), (4, .int v4)]) hx hb dL_law_1546 hl (by decide) rfl (fun ls hl => ?_)
                                                      refine lv_aload_n hx hb dL_law_1548 rfl (lv_at hl 3 rfl) ?_
                                                      refine lv_aload_n hx hb dL_law_1549 rfl (lv_at hl 1 rfl) ?_
                                                      refine lv_iload hx hb dL_law_1550 (lv_at hl 5 rfl) ?_
                                                      refine lv_iconst (v := (1 : Int32)) hx hb dL_law_1552 (by decide) ?_
                                                      refine lv_iadd hx hb dL_law_1553 ?_
                                                      obtain ⟨x253, e_x253, hr⟩ := zb_some hr
                                                      refine va_sld hx hb hX hbl hbA I.2.2 (zsx_some e_x253).1 dL_law_1554 ?_
                                                      rw [← (zsx_some e_x253).2]
                                                      refine lv_aload_n hx hb dL_law_1555 rfl (lv_at hl 1 rfl) ?_
                                                      refine lv_iload hx hb dL_law_1556 (lv_at hl 5 rfl) ?_
                                                      refine lv_iconst (v := (2 : Int32)) hx hb dL_law_1558 (by decide) ?_
                                                      refine lv_iadd hx hb dL_law_1559 ?_
                                                      obtain ⟨x254, e_x254, hr⟩ := zb_some hr
                                                      refine va_sld hx hb hX hbl hbA I.2.2 (zsx_some e_x254).1 dL_law_1560 ?_
                                                      rw [← (zsx_some e_x254).2]
                                                      refine lv_aload_n hx hb dL_law_1561 rfl (lv_at hl 1 rfl) ?_
                                                      refine lv_iload hx hb dL_law_1562 (lv_at hl 5 rfl) ?_
                                                      refine lv_iconst (v := (3 : Int32)) hx hb dL_law_1564 (by decide) ?_
                                                      refine lv_iadd hx hb dL_law_1565 ?_
                                                      obtain ⟨x255, e_x255, hr⟩ := zb_some hr
                                                      refine va_sld hx hb hX hbl hbA I.2.2 (zsx_some e_x255).1 dL_law_1566 ?_
                                                      rw [← (zsx_some e_x255).2]
                                                      obtain ⟨x256, e_x256, hr⟩ := zb_some hr
                                                      refine zcallI M I (zrunV (as := [.int x253, .int x254, .int x255]) M I (c_X11_ifChanged l g fu e_x256) zc_103 zK11.1 (by decide) zlv_L_171 ⟨Nat.le_of_ble_eq_true rfl, Nat.le_of_ble_eq_true rfl⟩ hcs1 rfl rfl (Nat.le_of_ble_eq_true rfl) hl.1 dL_law_1567) (fun H locs I => ?_)
                                                      refine lv_istore (lv' := [(6, .int x256.1), (5, .int x252.1), (0, .ref b), (1, .ref (zA g 0)), (2, .ref (zA g 103)), (3, .ref (zA g 124)), (4, .int v4)]) hx hb dL_law_1570 hl (by decide) rfl (fun ls hl => ?_)
                                                      refine lv_aload_n hx hb dL_law_1572 rfl (lv_at hl 4 rfl) ?_
                                                      obtain ⟨x257, e_x257, hr⟩ := zb_some hr
                                                      refine zcallI M I (zrunV (as := []) M I (c_X11_thrown l g fu e_x257) zc_103 zK11.1 (by decide) zlv_L_93 ⟨Nat.le_of_ble_eq_true rfl, Nat.le_of_ble_eq_true rfl⟩ hcs1 rfl rfl (Nat.le_of_ble_eq_true rfl) hl.1 dL_law_1573) (fun H locs I => ?_)
                                                      refine lv_iload hx hb dL_law_1576 (lv_at hl 1 rfl) ?_
                                                      refine lv_icmp_eq (tgt := 1583) hx hb dL_law_1578 (by decide) (fun c261 => ?_) (fun c261 => ?_)
                                                      · replace hr := zif_t hr c261
                                                        refine lv_iload hx hb dL_law_1583 (lv_at hl 1 rfl) ?_
                                                        refine lv_if_ne (tgt := 1600) hx hb dL_law_1585 (by decide) (fun c260 => ?_) (fun c260 => ?_)
                                                        · replace hr := zif_t hr c260
                                                          refine lv_goto (tgt := 1671) hx hb dL_law_1600 (by decide) ?_
                                                          refine lv_iinc (lv' := [(4, .int (v4 + 5)), (6, .int x256.1), (5, .int x252.1), (0, .ref b), (1, .ref (zA g 0)), (2, .ref (zA g 103)), (3, .ref (zA g 124))]) (k := 6) (v := (v4 + 5)) hx hb dL_law_1671 hl rfl (zi_5 _) (by decide) rfl (fun ls hl => ?_)
                                                          refine lv_goto (tgt := 23) hx hb dL_law_1674 (by decide) ?_
                                                          refine W.widen (k := k0 + (t + 1)) (n := n0 + 6 * (t + 1)) (by omega) (by omega) ?_
                                                          exact ih (t + 1) _ _ (zlaw5 hv) (by omega) hr ls _ _ (lv_sub hl [3, 4, 5, 6, 0] rfl) I
                                                        · replace hr := zif_f hr (fun hq => hq c260)
                                                          refine lv_aload_n hx hb dL_law_1588 rfl (lv_at hl 5 rfl) ?_
                                                          refine lv_iconst (v := (0 : Int32)) hx hb dL_law_1589 (by decide) ?_
                                                          obtain ⟨x258, e_x258, hr⟩ := zb_some hr
                                                          refine zlald M I zc_124 e_x258 dL_law_1590 ?_
                                                          refine lv_iload hx hb dL_law_1591 (lv_at hl 0 rfl) ?_
                                                          refine lv_i2l (v := (x256.1.toInt64)) hx hb dL_law_1593 rfl ?_
                                                          refine W.lcmp hx hb dL_law_1594 ?_
                                                          refine lv_if_eq (tgt := 1600) hx hb dL_law_1595 (by decide) (fun c259 => ?_) (fun c259 => ?_)
                                                          · replace hr := zif_t hr c259
                                                            refine lv_goto (tgt := 1671) hx hb dL_law_1600 (by decide) ?_
                                                            refine lv_iinc (lv' := [(4, .int (v4 + 5)), (6, .int x256.1), (5, .int x252.1), (0, .ref b), (1, .ref (zA g 0)), (2, .ref (zA g 103)), (3, .ref (zA g 124))]) (k := 6) (v := (v4 + 5)) hx hb dL_law_1671 hl rfl (zi_5 _) (by decide) rfl (fun ls hl => ?_)
                                                            refine lv_goto (tgt := 23) hx hb dL_law_1674 (by decide) ?_
                                                            refine W.widen (k := k0 + (t + 1)) (n := n0 + 6 * (t + 1)) (by omega) (by omega) ?_
                                                            exact ih (t + 1) _ _ (zlaw5 hv) (by omega) hr ls _ _ (lv_sub hl [3, 4, 5, 6, 0] rfl) I
                                                          · replace hr := zif_f hr c259
                                                            refine lv_iconst (v := (0 : Int32)) hx hb dL_law_1598 (by decide) ?_
                                                            exact absurd (Option.some.inj hr) (by decide)
                                                      · replace hr := zif_f hr c261
                                                        refine lv_iconst (v := (0 : Int32)) hx hb dL_law_1581 (by decide) ?_
                                                        exact absurd (Option.some.inj hr) (by decide)
                                                    · replace hr := zif_f hr c248
                                                      by_cases c262 : (x1 &&& (31 : Int32)) = (24 : Int32)
                                                      · replace hr := zif_t hr c262
                                                        refine lv_tableIn (tgt := 1603) hx hb dL_law_39 (by rw [c262]; decide) (by rw [c262]; decide) (by rw [c262]; try rfl) (by decide) ?_
                                                        refine lv_aload_n hx hb dL_law_1603 rfl (lv_at hl 1 rfl) ?_
                                                        obtain ⟨x263, e_x263, hr⟩ := zb_some hr
                                                        refine zcallI M I (zrunV (as := []) M I (c_X10_bestLength l g fu e_x263) zc_0 zK10.1 (by decide) zlv_L_172 ⟨Nat.le_of_ble_eq_true rfl, Nat.le_of_ble_eq_true rfl⟩ hcs0 rfl rfl (Nat.le_of_ble_eq_true rfl) hl.1 dL_law_1604) (fun H locs I => ?_)
                                                        refine lv_aload_n hx hb dL_law_1607 rfl (lv_at hl 2 rfl) ?_
                                                        obtain ⟨x264, e_x264, hr⟩ := zb_some hr
                                                        refine zcallI M I (zrunV (as := []) M I (c_X11_bestLength l g fu e_x264) zc_103 zK11.1 (by decide) zlv_L_175 ⟨Nat.le_of_ble_eq_true rfl, Nat.le_of_ble_eq_true rfl⟩ hcs0 rfl rfl (Nat.le_of_ble_eq_true rfl) hl.1 dL_law_1608) (fun H locs I => ?_)
                                                        refine lv_icmp_eq (tgt := 1671) hx hb dL_law_1611 (by decide) (fun c265 => ?_) (fun c265 => ?_)
                                                        · replace hr := zif_t hr c265
                                                          refine lv_iinc (lv' := [(4, .int (v4 + 5)), (0, .ref b), (1, .ref (zA g 0)), (2, .ref (zA g 103)), (3, .ref (zA g 124))]) (k := 4) (v := (v4 + 5)) hx hb dL_law_1671 hl rfl (zi_5 _) (by decide) rfl (fun ls hl => ?_)
                                                          refine lv_goto (tgt := 23) hx hb dL_law_1674 (by decide) ?_
                                                          refine W.widen (k := k0 + (t + 1)) (n := n0 + 6 * (t + 1)) (by omega) (by omega) ?_
                                                          exact ih (t + 1) _ _ (zlaw5 hv) (by omega) hr ls _ _ (lv_sub hl [1, 2, 3, 4, 0] rfl) I
                                                        · replace hr := zif_f hr c265
                                                          refine lv_iconst (v := (0 : Int32)) hx hb dL_law_1614 (by decide) ?_
                                                          exact absurd (Option.some.inj hr) (by decide)
                                                      · replace hr := zif_f hr c262
                                                        by_cases c266 : (x1 &&& (31 : Int32)) = (25 : Int32)
                                                        · replace hr := zif_t hr c266
                                                          refine lv_tableIn (tgt := 1616) hx hb dL_law_39 (by rw [c266]; decide) (by rw [c266]; decide) (by rw [c266]; try rfl) (by decide) ?_
                                                          refine lv_aload_n hx hb dL_law_1616 rfl (lv_at hl 1 rfl) ?_
                                                          obtain ⟨x267, e_x267, hr⟩ := zb_some hr
                                                          refine zcallD M I (zrunV (as := []) M I (c_X10_likeShare l g fu e_x267) zc_0 zK10.1 (by decide) zlv_L_176 ⟨Nat.le_of_ble_eq_true rfl, Nat.le_of_ble_eq_true rfl⟩ hcs0 rfl rfl (Nat.le_of_ble_eq_true rfl) hl.1 dL_law_1617) (fun H locs I => ?_)
                                                          refine lv_dstore (lv' := [(5, .double x267.1), (0, .ref b), (1, .ref (zA g 0)), (2, .ref (zA g 103)), (3, .ref (zA g 124)), (4, .int v4)]) hx hb dL_law_1620 hl (by decide) rfl (fun ls hl => ?_)
                                                          refine lv_aload_n hx hb dL_law_1622 rfl (lv_at hl 3 rfl) ?_
                                                          obtain ⟨x268, e_x268, hr⟩ := zb_some hr
                                                          refine zcallD M I (zrunV (as := []) M I (c_X11_likeShare l g fu e_x268) zc_103 zK11.1 (by decide) zlv_L_180 ⟨Nat.le_of_ble_eq_true rfl, Nat.le_of_ble_eq_true rfl⟩ hcs0 rfl rfl (Nat.le_of_ble_eq_true rfl) hl.1 dL_law_1623) (fun H locs I => ?_)
                                                          refine lv_dstore (lv' := [(7, .double x268.1), (5, .double x267.1), (0, .ref b), (1, .ref (zA g 0)), (2, .ref (zA g 103)), (3, .ref (zA g 124)), (4, .int v4)]) hx hb dL_law_1626 hl (by decide) rfl (fun ls hl => ?_)
                                                          refine lv_dload hx hb dL_law_1628 (lv_at hl 1 rfl) ?_
                                                          refine lv_dload hx hb dL_law_1630 (lv_at hl 0 rfl) ?_
                                                          refine lv_dcmp hx hb dL_law_1632 ?_
                                                          refine lv_if_eq (tgt := 1654) hx hb dL_law_1633 (by decide) (fun c271 => ?_) (fun c271 => ?_)
                                                          · replace hr := zif_t hr c271
                                                            refine lv_goto (tgt := 1671) hx hb dL_law_1654 (by decide) ?_
                                                            refine lv_iinc (lv' := [(4, .int (v4 + 5)), (7, .double x268.1), (5, .double x267.1), (0, .ref b), (1, .ref (zA g 0)), (2, .ref (zA g 103)), (3, .ref (zA g 124))]) (k := 6) (v := (v4 + 5)) hx hb dL_law_1671 hl rfl (zi_5 _) (by decide) rfl (fun ls hl => ?_)
                                                            refine lv_goto (tgt := 23) hx hb dL_law_1674 (by decide) ?_
                                                            refine W.widen (k := k0 + (t + 1)) (n := n0 + 6 * (t + 1)) (by omega) (by omega) ?_
                                                            exact ih (t + 1) _ _ (zlaw5 hv) (by omega) hr ls _ _ (lv_sub hl [3, 4, 5, 6, 0] rfl) I
                                                          · replace hr := zif_f hr c271
                                                            refine lv_dload hx hb dL_law_1636 (lv_at hl 1 rfl) ?_
                                                            refine lv_dload hx hb dL_law_1638 (lv_at hl 1 rfl) ?_
                                                            refine lv_dcmp hx hb dL_law_1640 ?_
                                                            refine lv_if_eq (tgt := 1652) hx hb dL_law_1641 (by decide) (fun c270 => ?_) (fun c270 => ?_)
                                                            · replace hr := zif_t hr c270
                                                              refine lv_iconst (v := (0 : Int32)) hx hb dL_law_1652 (by decide) ?_
                                                              exact absurd (Option.some.inj hr) (by decide)
                                                            · replace hr := zif_f hr c270
                                                              refine lv_dload hx hb dL_law_1644 (lv_at hl 0 rfl) ?_
                                                              refine lv_dload hx hb dL_law_1646 (lv_at hl 0 rfl) ?_
                                                              refine lv_dcmp hx hb dL_law_1648 ?_
                                                              refine lv_if_ne (tgt := 1654) hx hb dL_law_1649 (by decide) (fun c269 => ?_) (fun c269 => ?_)
                                                              · replace hr := zif_t hr c269
                                                                refine lv_goto (tgt := 1671) hx hb dL_law_1654 (by decide) ?_
                                                                refine lv_iinc (lv' := [(4, .int (v4 + 5)), (7, .double x268.1), (5, .double x267.1), (0, .ref b), (1, .ref (zA g 0)), (2, .ref (zA g 103)), (3, .ref (zA g 124))]) (k := 6) (v := (v4 + 5)) hx hb dL_law_1671 hl rfl (zi_5 _) (by decide) rfl (fun ls hl => ?_)
                                                                refine lv_goto (tgt := 23) hx hb dL_law_1674 (by decide) ?_
                                                                refine W.widen (k := k0 + (t + 1)) (n := n0 + 6 * (t + 1)) (by omega) (by omega) ?_
                                                                exact ih (t + 1) _ _ (zlaw5 hv) (by omega) hr ls _ _ (lv_sub hl [3, 4, 5, 6, 0] rfl) I
                                                              · replace hr := zif_f hr (fun hq => hq c269)
                                                                refine lv_iconst (v := (0 : Int32)) hx hb dL_law_1652 (by decide) ?_
                                                                exact absurd (Option.some.inj hr) (by decide)
                                                        · replace hr := zif_f hr c266
                                                          by_cases c272 : (x1 &&& (31 : Int32)) = (26 : Int32)
                                                          · replace hr := zif_t hr c272
                                                            refine lv_tableIn (tgt := 1657) hx hb dL_law_39 (by rw [c272]; decide) (by rw [c272]; decide) (by rw [c272]; try rfl) (by decide) ?_
                                                            refine lv_aload_n hx hb dL_law_1657 rfl (lv_at hl 1 rfl) ?_
                                                            obtain ⟨x273, e_x273, hr⟩ := zb_some hr
                                                            refine zcallL M I (zrunV (as := []) M I (c_X10_digest l g fu e_x273) zc_0 zK10.1 (by decide) zlv_L_181 ⟨Nat.le_of_ble_eq_true rfl, Nat.le_of_ble_eq_true rfl⟩ hcs0 rfl rfl (Nat.le_of_ble_eq_true rfl) hl.1 dL_law_1658) (fun H locs I => ?_)
                                                            refine lv_aload_n hx hb dL_law_1661 rfl (lv_at hl 2 rfl) ?_
                                                            obtain ⟨x274, e_x274, hr⟩ := zb_some hr
                                                            refine zcallL M I (zrunV (as := []) M I (c_X11_digest l g fu e_x274) zc_103 zK11.1 (by decide) zlv_L_185 ⟨Nat.le_of_ble_eq_true rfl, Nat.le_of_ble_eq_true rfl⟩ hcs0 rfl rfl (Nat.le_of_ble_eq_true rfl) hl.1 dL_law_1662) (fun H locs I => ?_)
                                                            refine W.lcmp hx hb dL_law_1665 ?_
                                                            refine lv_if_eq (tgt := 1671) hx hb dL_law_1666 (by decide) (fun c275 => ?_) (fun c275 => ?_)
                                                            · replace hr := zif_t hr c275
                                                              refine lv_iinc (lv' := [(4, .int (v4 + 5)), (0, .ref b), (1, .ref (zA g 0)), (2, .ref (zA g 103)), (3, .ref (zA g 124))]) (k := 4) (v := (v4 + 5)) hx hb dL_law_1671 hl rfl (zi_5 _) (by decide) rfl (fun ls hl => ?_)
                                                              refine lv_goto (tgt := 23) hx hb dL_law_1674 (by decide) ?_
                                                              refine W.widen (k := k0 + (t + 1)) (n := n0 + 6 * (t + 1)) (by omega) (by omega) ?_
                                                              exact ih (t + 1) _ _ (zlaw5 hv) (by omega) hr ls _ _ (lv_sub hl [1, 2, 3, 4, 0] rfl) I
                                                            · replace hr := zif_f hr c275
                                                              refine lv_iconst (v := (0 : Int32)) hx hb dL_law_1669 (by decide) ?_
                                                              exact absurd (Option.some.inj hr) (by decide)
                                                          · replace hr := zif_f hr c272
                                                            refine lv_tableOut (tgt := 1671) hx hb dL_law_39 (ztab_27 c2 c16 c30 c44 c58 c74 c78 c90 c100 c104 c108 c116 c126 c136 c144 c156 c168 c180 c192 c204 c216 c226 c236 c248 c262 c266 c272) (by decide) ?_
                                                            refine lv_iinc (lv' := [(4, .int (v4 + 5)), (0, .ref b), (1, .ref (zA g 0)), (2, .ref (zA g 103)), (3, .ref (zA g 124))]) (k := 4) (v := (v4 + 5)) hx hb dL_law_1671 hl rfl (zi_5 _) (by decide) rfl (fun ls hl => ?_)
                                                            refine lv_goto (tgt := 23) hx hb dL_law_1674 (by decide) ?_
                                                            refine W.widen (k := k0 + (t + 1)) (n := n0 + 6 * (t + 1)) (by omega) (by omega) ?_
                                                            exact ih (t + 1) _ _ (zlaw5 hv) (by omega) hr ls _ _ (lv_sub hl [1, 2, 3, 4, 0] rfl) I
