theorem zi_1 (x : Int32) : x + Int32.ofInt 1 = x + 1 := rfl
theorem zi_5 (x : Int32) : x + Int32.ofInt 5 = x + 5 := rfl
theorem zi_m1 (x : Int32) : x + Int32.ofInt (-1) = x - 1 := by rw [Int32.sub_eq_add_neg]; rfl
theorem zif_t {α : Type} {c : Prop} [Decidable c] {a b : Option α} {r : Option α} (h : (if c then a else b) = r) (hc : c) : a = r := by rw [if_pos hc] at h; exact h
theorem zif_f {α : Type} {c : Prop} [Decidable c] {a b : Option α} {r : Option α} (h : (if c then a else b) = r) (hc : ¬ c) : b = r := by rw [if_neg hc] at h; exact h
def zmax (x y : Int32) : Int32 := if x < y then y else x
def zmin (x y : Int32) : Int32 := if y < x then y else x
def zabs (x : Int32) : Int32 := if 0 ≤ x then x else 0 - x
theorem ztoInt {x : Int32} {k : Int32} {n : Int} (h : ¬ x = k) (hk : k.toInt = n) : ¬ x.toInt = n := fun q => h (Int32.toInt_inj.mp (q.trans hk.symm))
theorem ztab_3 {x : Int32} (h0 : ¬ x = (0 : Int32)) (h1 : ¬ x = (1 : Int32)) (h2 : ¬ x = (2 : Int32)) : x.toInt < 0 ∨ 2 < x.toInt := by
  have q0 := ztoInt h0 (show (0 : Int32).toInt = 0 by decide)
  have q1 := ztoInt h1 (show (1 : Int32).toInt = 1 by decide)
  have q2 := ztoInt h2 (show (2 : Int32).toInt = 2 by decide)
  omega
theorem ztab_4 {x : Int32} (h0 : ¬ x = (0 : Int32)) (h1 : ¬ x = (1 : Int32)) (h2 : ¬ x = (2 : Int32)) (h3 : ¬ x = (3 : Int32)) : x.toInt < 0 ∨ 3 < x.toInt := by
  have q0 := ztoInt h0 (show (0 : Int32).toInt = 0 by decide)
  have q1 := ztoInt h1 (show (1 : Int32).toInt = 1 by decide)
  have q2 := ztoInt h2 (show (2 : Int32).toInt = 2 by decide)
  have q3 := ztoInt h3 (show (3 : Int32).toInt = 3 by decide)
  omega
theorem ztab_15 {x : Int32} (h0 : ¬ x = (0 : Int32)) (h1 : ¬ x = (1 : Int32)) (h2 : ¬ x = (2 : Int32)) (h3 : ¬ x = (3 : Int32)) (h4 : ¬ x = (4 : Int32)) (h5 : ¬ x = (5 : Int32)) (h6 : ¬ x = (6 : Int32)) (h7 : ¬ x = (7 : Int32)) (h8 : ¬ x = (8 : Int32)) (h9 : ¬ x = (9 : Int32)) (h10 : ¬ x = (10 : Int32)) (h11 : ¬ x = (11 : Int32)) (h12 : ¬ x = (12 : Int32)) (h13 : ¬ x = (13 : Int32)) (h14 : ¬ x = (14 : Int32)) : x.toInt < 0 ∨ 14 < x.toInt := by
  have q0 := ztoInt h0 (show (0 : Int32).toInt = 0 by decide)
  have q1 := ztoInt h1 (show (1 : Int32).toInt = 1 by decide)
  have q2 := ztoInt h2 (show (2 : Int32).toInt = 2 by decide)
  have q3 := ztoInt h3 (show (3 : Int32).toInt = 3 by decide)
  have q4 := ztoInt h4 (show (4 : Int32).toInt = 4 by decide)
  have q5 := ztoInt h5 (show (5 : Int32).toInt = 5 by decide)
  have q6 := ztoInt h6 (show (6 : Int32).toInt = 6 by decide)
  have q7 := ztoInt h7 (show (7 : Int32).toInt = 7 by decide)
  have q8 := ztoInt h8 (show (8 : Int32).toInt = 8 by decide)
  have q9 := ztoInt h9 (show (9 : Int32).toInt = 9 by decide)
  have q10 := ztoInt h10 (show (10 : Int32).toInt = 10 by decide)
  have q11 := ztoInt h11 (show (11 : Int32).toInt = 11 by decide)
  have q12 := ztoInt h12 (show (12 : Int32).toInt = 12 by decide)
  have q13 := ztoInt h13 (show (13 : Int32).toInt = 13 by decide)
  have q14 := ztoInt h14 (show (14 : Int32).toInt = 14 by decide)
  omega
theorem zlook_2 {x : Int32} {a b d : Int} (h0 : ¬ x = (0 : Int32)) (h1 : ¬ x = (1 : Int32)) : Op.lookupswitch.offset [(0, a), (1, b)] d x.toInt = d := (lv_osw h0 (by decide)).trans ((lv_osw h1 (by decide)).trans rfl)
theorem zc_0 : zkd 0 = (10, 0) := by decide
theorem zc_1 : zkd 1 = (7, 0) := by decide
theorem zc_2 : zkd 2 = (6, 0) := by decide
theorem zc_3 : zkd 3 = (100, 24) := by decide
theorem zc_4 : zkd 4 = (6, 0) := by decide
theorem zc_5 : zkd 5 = (100, 24) := by decide
theorem zc_6 : zkd 6 = (1, 0) := by decide
theorem zc_7 : zkd 7 = (100, 4) := by decide
theorem zc_8 : zkd 8 = (7, 0) := by decide
theorem zc_9 : zkd 9 = (6, 0) := by decide
theorem zc_10 : zkd 10 = (100, 24) := by decide
theorem zc_11 : zkd 11 = (6, 0) := by decide
theorem zc_12 : zkd 12 = (100, 24) := by decide
theorem zc_13 : zkd 13 = (1, 0) := by decide
theorem zc_14 : zkd 14 = (100, 4) := by decide
theorem zc_15 : zkd 15 = (7, 0) := by decide
theorem zc_16 : zkd 16 = (6, 0) := by decide
theorem zc_17 : zkd 17 = (100, 24) := by decide
theorem zc_18 : zkd 18 = (6, 0) := by decide
theorem zc_19 : zkd 19 = (100, 24) := by decide
theorem zc_20 : zkd 20 = (1, 0) := by decide
theorem zc_21 : zkd 21 = (100, 4) := by decide
theorem zc_22 : zkd 22 = (7, 0) := by decide
theorem zc_23 : zkd 23 = (6, 0) := by decide
theorem zc_24 : zkd 24 = (100, 24) := by decide
theorem zc_25 : zkd 25 = (6, 0) := by decide
theorem zc_26 : zkd 26 = (100, 24) := by decide
theorem zc_27 : zkd 27 = (1, 0) := by decide
theorem zc_28 : zkd 28 = (100, 4) := by decide
theorem zc_29 : zkd 29 = (4, 0) := by decide
theorem zc_30 : zkd 30 = (1, 0) := by decide
theorem zc_31 : zkd 31 = (100, 324) := by decide
theorem zc_32 : zkd 32 = (8, 0) := by decide
theorem zc_33 : zkd 33 = (1, 0) := by decide
theorem zc_34 : zkd 34 = (100, 60) := by decide
theorem zc_35 : zkd 35 = (5, 0) := by decide
theorem zc_36 : zkd 36 = (0, 0) := by decide
theorem zc_37 : zkd 37 = (1, 0) := by decide
theorem zc_38 : zkd 38 = (100, 24) := by decide
theorem zc_39 : zkd 39 = (1, 0) := by decide
theorem zc_40 : zkd 40 = (100, 24) := by decide
theorem zc_41 : zkd 41 = (1, 0) := by decide
theorem zc_42 : zkd 42 = (100, 24) := by decide
theorem zc_43 : zkd 43 = (1, 0) := by decide
theorem zc_44 : zkd 44 = (100, 24) := by decide
theorem zc_45 : zkd 45 = (2, 0) := by decide
theorem zc_46 : zkd 46 = (1, 0) := by decide
theorem zc_47 : zkd 47 = (100, 24) := by decide
theorem zc_48 : zkd 48 = (1, 0) := by decide
theorem zc_49 : zkd 49 = (100, 24) := by decide
theorem zc_50 : zkd 50 = (1, 0) := by decide
theorem zc_51 : zkd 51 = (100, 24) := by decide
theorem zc_52 : zkd 52 = (1, 0) := by decide
theorem zc_53 : zkd 53 = (100, 24) := by decide
theorem zc_54 : zkd 54 = (3, 0) := by decide
theorem zc_55 : zkd 55 = (100, 625) := by decide
theorem zc_56 : zkd 56 = (100, 625) := by decide
theorem zc_57 : zkd 57 = (1, 0) := by decide
theorem zc_58 : zkd 58 = (100, 125) := by decide
theorem zc_59 : zkd 59 = (1, 0) := by decide
theorem zc_60 : zkd 60 = (100, 24) := by decide
theorem zc_61 : zkd 61 = (1, 0) := by decide
theorem zc_62 : zkd 62 = (100, 24) := by decide
theorem zc_63 : zkd 63 = (5, 0) := by decide
theorem zc_64 : zkd 64 = (0, 0) := by decide
theorem zc_65 : zkd 65 = (1, 0) := by decide
theorem zc_66 : zkd 66 = (100, 24) := by decide
theorem zc_67 : zkd 67 = (1, 0) := by decide
theorem zc_68 : zkd 68 = (100, 24) := by decide
theorem zc_69 : zkd 69 = (1, 0) := by decide
theorem zc_70 : zkd 70 = (100, 24) := by decide
theorem zc_71 : zkd 71 = (1, 0) := by decide
theorem zc_72 : zkd 72 = (100, 24) := by decide
theorem zc_73 : zkd 73 = (2, 0) := by decide
theorem zc_74 : zkd 74 = (1, 0) := by decide
theorem zc_75 : zkd 75 = (100, 24) := by decide
theorem zc_76 : zkd 76 = (1, 0) := by decide
theorem zc_77 : zkd 77 = (100, 24) := by decide
theorem zc_78 : zkd 78 = (1, 0) := by decide
theorem zc_79 : zkd 79 = (100, 24) := by decide
theorem zc_80 : zkd 80 = (1, 0) := by decide
theorem zc_81 : zkd 81 = (100, 24) := by decide
theorem zc_82 : zkd 82 = (3, 0) := by decide
theorem zc_83 : zkd 83 = (100, 625) := by decide
theorem zc_84 : zkd 84 = (100, 625) := by decide
theorem zc_85 : zkd 85 = (1, 0) := by decide
theorem zc_86 : zkd 86 = (100, 125) := by decide
theorem zc_87 : zkd 87 = (1, 0) := by decide
theorem zc_88 : zkd 88 = (100, 24) := by decide
theorem zc_89 : zkd 89 = (1, 0) := by decide
theorem zc_90 : zkd 90 = (100, 24) := by decide
theorem zc_91 : zkd 91 = (9, 0) := by decide
theorem zc_92 : zkd 92 = (0, 0) := by decide
theorem zc_93 : zkd 93 = (1, 0) := by decide
theorem zc_94 : zkd 94 = (100, 24) := by decide
theorem zc_95 : zkd 95 = (1, 0) := by decide
theorem zc_96 : zkd 96 = (100, 24) := by decide
theorem zc_97 : zkd 97 = (1, 0) := by decide
theorem zc_98 : zkd 98 = (100, 24) := by decide
theorem zc_99 : zkd 99 = (1, 0) := by decide
theorem zc_100 : zkd 100 = (100, 24) := by decide
theorem zc_101 : zkd 101 = (1, 0) := by decide
theorem zc_102 : zkd 102 = (100, 24) := by decide
theorem zc_103 : zkd 103 = (11, 0) := by decide
theorem zc_104 : zkd 104 = (100, 54) := by decide
theorem zc_105 : zkd 105 = (100, 324) := by decide
theorem zc_106 : zkd 106 = (100, 100) := by decide
theorem zc_107 : zkd 107 = (100, 2) := by decide
theorem zc_108 : zkd 108 = (100, 60) := by decide
theorem zc_109 : zkd 109 = (100, 24) := by decide
theorem zc_110 : zkd 110 = (100, 24) := by decide
theorem zc_111 : zkd 111 = (100, 24) := by decide
theorem zc_112 : zkd 112 = (100, 24) := by decide
theorem zc_113 : zkd 113 = (100, 24) := by decide
theorem zc_114 : zkd 114 = (100, 24) := by decide
theorem zc_115 : zkd 115 = (100, 24) := by decide
theorem zc_116 : zkd 116 = (100, 24) := by decide
theorem zc_117 : zkd 117 = (100, 50) := by decide
theorem zc_118 : zkd 118 = (100, 50) := by decide
theorem zc_119 : zkd 119 = (100, 25) := by decide
theorem zc_120 : zkd 120 = (100, 48) := by decide
theorem zc_121 : zkd 121 = (100, 625) := by decide
theorem zc_122 : zkd 122 = (100, 48) := by decide
theorem zc_123 : zkd 123 = (100, 2) := by decide
theorem zc_124 : zkd 124 = (101, 1) := by decide
theorem zs_0_0 {i : Nat} (h : zkd i = (0, 0)) : zkd (i + 1) = (1, 0) := (show ∀ i, i < 125 → zkd i = (0, 0) → zkd (i + 1) = (1, 0) by decide +kernel) i (zkd_lt h (by decide)) h
theorem zs_0_1 {i : Nat} (h : zkd i = (0, 0)) : zkd (i + 3) = (1, 0) := (show ∀ i, i < 125 → zkd i = (0, 0) → zkd (i + 3) = (1, 0) by decide +kernel) i (zkd_lt h (by decide)) h
theorem zs_0_4 {i : Nat} (h : zkd i = (0, 0)) : zkd (i + 5) = (1, 0) := (show ∀ i, i < 125 → zkd i = (0, 0) → zkd (i + 5) = (1, 0) by decide +kernel) i (zkd_lt h (by decide)) h
theorem zs_0_5 {i : Nat} (h : zkd i = (0, 0)) : zkd (i + 7) = (1, 0) := (show ∀ i, i < 125 → zkd i = (0, 0) → zkd (i + 7) = (1, 0) by decide +kernel) i (zkd_lt h (by decide)) h
theorem zs_1_0 {i : Nat} (h : zkd i = (1, 0)) : zkd (i + 1) = (100, (zkd (i + 1)).2) := (show ∀ i, i < 125 → zkd i = (1, 0) → zkd (i + 1) = (100, (zkd (i + 1)).2) by decide +kernel) i (zkd_lt h (by decide)) h
theorem zs_2_0 {i : Nat} (h : zkd i = (2, 0)) : zkd (i + 1) = (1, 0) := (show ∀ i, i < 125 → zkd i = (2, 0) → zkd (i + 1) = (1, 0) by decide +kernel) i (zkd_lt h (by decide)) h
theorem zs_2_1 {i : Nat} (h : zkd i = (2, 0)) : zkd (i + 3) = (1, 0) := (show ∀ i, i < 125 → zkd i = (2, 0) → zkd (i + 3) = (1, 0) by decide +kernel) i (zkd_lt h (by decide)) h
theorem zs_2_2 {i : Nat} (h : zkd i = (2, 0)) : zkd (i + 5) = (1, 0) := (show ∀ i, i < 125 → zkd i = (2, 0) → zkd (i + 5) = (1, 0) by decide +kernel) i (zkd_lt h (by decide)) h
theorem zs_2_3 {i : Nat} (h : zkd i = (2, 0)) : zkd (i + 7) = (1, 0) := (show ∀ i, i < 125 → zkd i = (2, 0) → zkd (i + 7) = (1, 0) by decide +kernel) i (zkd_lt h (by decide)) h
theorem zs_3_0 {i : Nat} (h : zkd i = (3, 0)) : zkd (i + 1) = (100, 625) := (show ∀ i, i < 125 → zkd i = (3, 0) → zkd (i + 1) = (100, 625) by decide +kernel) i (zkd_lt h (by decide)) h
theorem zs_3_1 {i : Nat} (h : zkd i = (3, 0)) : zkd (i + 2) = (100, 625) := (show ∀ i, i < 125 → zkd i = (3, 0) → zkd (i + 2) = (100, 625) by decide +kernel) i (zkd_lt h (by decide)) h
theorem zs_4_0 {i : Nat} (h : zkd i = (4, 0)) : zkd (i + 1) = (1, 0) := (show ∀ i, i < 125 → zkd i = (4, 0) → zkd (i + 1) = (1, 0) by decide +kernel) i (zkd_lt h (by decide)) h
theorem zs_5_0 {i : Nat} (h : zkd i = (5, 0)) : zkd (i + 1) = (0, 0) := (show ∀ i, i < 125 → zkd i = (5, 0) → zkd (i + 1) = (0, 0) by decide +kernel) i (zkd_lt h (by decide)) h
theorem zs_5_1 {i : Nat} (h : zkd i = (5, 0)) : zkd (i + 10) = (2, 0) := (show ∀ i, i < 125 → zkd i = (5, 0) → zkd (i + 10) = (2, 0) by decide +kernel) i (zkd_lt h (by decide)) h
theorem zs_5_4 {i : Nat} (h : zkd i = (5, 0)) : zkd (i + 19) = (3, 0) := (show ∀ i, i < 125 → zkd i = (5, 0) → zkd (i + 19) = (3, 0) by decide +kernel) i (zkd_lt h (by decide)) h
theorem zs_5_5 {i : Nat} (h : zkd i = (5, 0)) : zkd (i + 22) = (1, 0) := (show ∀ i, i < 125 → zkd i = (5, 0) → zkd (i + 22) = (1, 0) by decide +kernel) i (zkd_lt h (by decide)) h
theorem zs_5_6 {i : Nat} (h : zkd i = (5, 0)) : zkd (i + 24) = (1, 0) := (show ∀ i, i < 125 → zkd i = (5, 0) → zkd (i + 24) = (1, 0) by decide +kernel) i (zkd_lt h (by decide)) h
theorem zs_5_7 {i : Nat} (h : zkd i = (5, 0)) : zkd (i + 26) = (1, 0) := (show ∀ i, i < 125 → zkd i = (5, 0) → zkd (i + 26) = (1, 0) by decide +kernel) i (zkd_lt h (by decide)) h
theorem zs_6_0 {i : Nat} (h : zkd i = (6, 0)) : zkd (i + 1) = (100, 24) := (show ∀ i, i < 125 → zkd i = (6, 0) → zkd (i + 1) = (100, 24) by decide +kernel) i (zkd_lt h (by decide)) h
theorem zs_7_0 {i : Nat} (h : zkd i = (7, 0)) : zkd (i + 1) = (6, 0) := (show ∀ i, i < 125 → zkd i = (7, 0) → zkd (i + 1) = (6, 0) by decide +kernel) i (zkd_lt h (by decide)) h
theorem zs_7_1 {i : Nat} (h : zkd i = (7, 0)) : zkd (i + 3) = (6, 0) := (show ∀ i, i < 125 → zkd i = (7, 0) → zkd (i + 3) = (6, 0) by decide +kernel) i (zkd_lt h (by decide)) h
theorem zs_7_2 {i : Nat} (h : zkd i = (7, 0)) : zkd (i + 5) = (1, 0) := (show ∀ i, i < 125 → zkd i = (7, 0) → zkd (i + 5) = (1, 0) by decide +kernel) i (zkd_lt h (by decide)) h
theorem zs_8_0 {i : Nat} (h : zkd i = (8, 0)) : zkd (i + 1) = (1, 0) := (show ∀ i, i < 125 → zkd i = (8, 0) → zkd (i + 1) = (1, 0) by decide +kernel) i (zkd_lt h (by decide)) h
theorem zs_9_0 {i : Nat} (h : zkd i = (9, 0)) : zkd (i + 1) = (0, 0) := (show ∀ i, i < 125 → zkd i = (9, 0) → zkd (i + 1) = (0, 0) by decide +kernel) i (zkd_lt h (by decide)) h
theorem zs_9_3 {i : Nat} (h : zkd i = (9, 0)) : zkd (i + 10) = (1, 0) := (show ∀ i, i < 125 → zkd i = (9, 0) → zkd (i + 10) = (1, 0) by decide +kernel) i (zkd_lt h (by decide)) h
