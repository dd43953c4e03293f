def IA (en : En) (t i j n : Nat) : Prop := ∀ (f : Nat → Int32) (g : Nat → Int64), cellF en t i j f g = .inl (cy en 0, n, .inl f)
theorem lt1 {x : Nat} (h : x < 3) : x + 1 < 4 := by omega
theorem lt2 {x : Nat} (h : x < 3) : x + 2 < 5 := by omega
theorem nb_01 (x : Int32) : x &&& 1 = 0 ∨ x &&& 1 = 1 := by
  have h : (x &&& 1).toBitVec = BitVec.setWidth 32 (BitVec.ofBool (x.toBitVec.getLsbD 0)) := by
    rw [Int32.toBitVec_and]
    exact BitVec.and_one_eq_setWidth_ofBool_getLsbD
  cases hb : x.toBitVec.getLsbD 0 <;> rw [hb] at h
  · left
    exact Int32.toBitVec_inj.mp (h.trans (by decide))
  · right
    exact Int32.toBitVec_inj.mp (h.trans (by decide))
theorem nb_narrow (x : Int32) : narrow .boolean (.int (nb x)) = .int (nb x) := by
  show Value.int (nb x &&& 1) = .int (nb x)
  unfold nb
  rcases nb_01 x with h | h <;> rw [h] <;> rfl
theorem z_nb {x : Int32} (hn : narrow .boolean (.int x) = .int x) : nb x = x := Value.int.inj hn
theorem z_fits {x : Int32} (hn : narrow .boolean (.int x) = .int x) : fits .boolean (.int x) = true := by
  have h := z_nb hn
  rw [← h]
  unfold nb
  rcases nb_01 x with h | h <;> rw [h] <;> rfl
theorem z_cell {en : En} {i j : Nat} {σ : Sg} {x : Int32} (hn : narrow .boolean (.int x) = .int x) : (Sum.inr (2, [.int (σ.1 9 i j 0), .int (σ.1 9 i j 1), .int (σ.1 9 i j 2), .int (σ.1 9 i j 3), .int (σ.1 9 i j 4), .int (σ.1 9 i j 5), .int x, .long (σ.2 9 i j 7), .long (σ.2 9 i j 8)]) : va_E) = cellF en 9 i j (fun d => if d = 6 then x else σ.1 9 i j d) (σ.2 9 i j) := by
  have e := z_nb hn
  show _ = (Sum.inr (2, [.int (σ.1 9 i j 0), .int (σ.1 9 i j 1), .int (σ.1 9 i j 2), .int (σ.1 9 i j 3), .int (σ.1 9 i j 4), .int (σ.1 9 i j 5), .int (nb x), .long (σ.2 9 i j 7), .long (σ.2 9 i j 8)]) : va_E)
  rw [e]
theorem o0 : (0, 0, 0) ∈ obs := by decide +kernel
theorem o1 : (1, 0, 0) ∈ obs := by decide +kernel
theorem o2_all : ∀ i, i < 6 → (2, i, 0) ∈ obs := by decide +kernel
theorem o2 {i : Nat} (h : i < 6) : (2, i, 0) ∈ obs := o2_all i h
theorem o3_all : ∀ i, i < 6 → (3, i, 0) ∈ obs := by decide +kernel
theorem o3 {i : Nat} (h : i < 6) : (3, i, 0) ∈ obs := o3_all i h
theorem o4 : (4, 0, 0) ∈ obs := by decide +kernel
theorem o5_all : ∀ i, i < 4 → (5, i, 0) ∈ obs := by decide +kernel
theorem o5 {i : Nat} (h : i < 4) : (5, i, 0) ∈ obs := o5_all i h
theorem o6_all : ∀ i, i < 4 → (6, i, 0) ∈ obs := by decide +kernel
theorem o6 {i : Nat} (h : i < 4) : (6, i, 0) ∈ obs := o6_all i h
theorem o7_all : ∀ i, i < 5 → (7, i, 0) ∈ obs := by decide +kernel
theorem o7 {i : Nat} (h : i < 5) : (7, i, 0) ∈ obs := o7_all i h
theorem o8_all : ∀ i, i < 5 → (8, i, 0) ∈ obs := by decide +kernel
theorem o8 {i : Nat} (h : i < 5) : (8, i, 0) ∈ obs := o8_all i h
theorem o9_all : ∀ i, i < 5 → ∀ j, j < 7 → (9, i, j) ∈ obs := by decide +kernel
theorem o9 {i j : Nat} (h : i < 5) (h2 : j < 7) : (9, i, j) ∈ obs := o9_all i h j h2
theorem o10_all : ∀ i, i < 4 → (10, i, 0) ∈ obs := by decide +kernel
theorem o10 {i : Nat} (h : i < 4) : (10, i, 0) ∈ obs := o10_all i h
theorem o11_all : ∀ i, i < 4 → ∀ j, j < 4 → (11, i, j) ∈ obs := by decide +kernel
theorem o11 {i j : Nat} (h : i < 4) (h2 : j < 4) : (11, i, j) ∈ obs := o11_all i h j h2
theorem o12 : (12, 0, 0) ∈ obs := by decide +kernel
theorem o13 : (13, 0, 0) ∈ obs := by decide +kernel
theorem o14 : (14, 0, 0) ∈ obs := by decide +kernel
theorem o15_all : ∀ i, i < 2 → (15, i, 0) ∈ obs := by decide +kernel
theorem o15 {i : Nat} (h : i < 2) : (15, i, 0) ∈ obs := o15_all i h
theorem o16 : (16, 0, 0) ∈ obs := by decide +kernel
theorem o17 : (17, 0, 0) ∈ obs := by decide +kernel
theorem o18 : (18, 0, 0) ∈ obs := by decide +kernel
theorem o19_all : ∀ i, i < 8 → (19, i, 0) ∈ obs := by decide +kernel
theorem o19 {i : Nat} (h : i < 8) : (19, i, 0) ∈ obs := o19_all i h
theorem o20 : (20, 0, 0) ∈ obs := by decide +kernel
theorem o21 : (21, 0, 0) ∈ obs := by decide +kernel
theorem o22_5 : (22, 5, 0) ∈ obs := by decide +kernel
theorem o22_6 : (22, 6, 0) ∈ obs := by decide +kernel
theorem o22_7 : (22, 7, 0) ∈ obs := by decide +kernel
theorem o22_8 : (22, 8, 0) ∈ obs := by decide +kernel
theorem o22_9 : (22, 9, 0) ∈ obs := by decide +kernel
theorem o22_11 : (22, 11, 0) ∈ obs := by decide +kernel
theorem o22_12 : (22, 12, 0) ∈ obs := by decide +kernel
theorem o22_13 : (22, 13, 0) ∈ obs := by decide +kernel
theorem o22_14 : (22, 14, 0) ∈ obs := by decide +kernel
theorem o22_15 : (22, 15, 0) ∈ obs := by decide +kernel
theorem o22_17 : (22, 17, 0) ∈ obs := by decide +kernel
theorem o22_18 : (22, 18, 0) ∈ obs := by decide +kernel
theorem o22_19 : (22, 19, 0) ∈ obs := by decide +kernel
theorem o22_20 : (22, 20, 0) ∈ obs := by decide +kernel
theorem o22_21 : (22, 21, 0) ∈ obs := by decide +kernel
theorem o22_26 : (22, 26, 0) ∈ obs := by decide +kernel
theorem o22_31 : (22, 31, 0) ∈ obs := by decide +kernel
theorem o22_32 : (22, 32, 0) ∈ obs := by decide +kernel
theorem o23_22 : (23, 22, 0) ∈ obs := by decide +kernel
theorem o23_23 : (23, 23, 0) ∈ obs := by decide +kernel
theorem o23_24 : (23, 24, 0) ∈ obs := by decide +kernel
theorem o23_25 : (23, 25, 0) ∈ obs := by decide +kernel
theorem kc_bipush_m9 : (Int8.ofInt (-9)).toInt32 = (-9 : Int32) := by decide
theorem kc_bipush_m4 : (Int8.ofInt (-4)).toInt32 = (-4 : Int32) := by decide
theorem kc_bipush_m3 : (Int8.ofInt (-3)).toInt32 = (-3 : Int32) := by decide
theorem kc_bipush_m2 : (Int8.ofInt (-2)).toInt32 = (-2 : Int32) := by decide
theorem kc_bipush_6 : (Int8.ofInt (6)).toInt32 = (6 : Int32) := by decide
theorem kc_bipush_7 : (Int8.ofInt (7)).toInt32 = (7 : Int32) := by decide
theorem kc_bipush_8 : (Int8.ofInt (8)).toInt32 = (8 : Int32) := by decide
theorem kc_bipush_9 : (Int8.ofInt (9)).toInt32 = (9 : Int32) := by decide
theorem kc_bipush_10 : (Int8.ofInt (10)).toInt32 = (10 : Int32) := by decide
theorem kc_bipush_11 : (Int8.ofInt (11)).toInt32 = (11 : Int32) := by decide
theorem kc_bipush_12 : (Int8.ofInt (12)).toInt32 = (12 : Int32) := by decide
theorem kc_bipush_14 : (Int8.ofInt (14)).toInt32 = (14 : Int32) := by decide
theorem kc_bipush_16 : (Int8.ofInt (16)).toInt32 = (16 : Int32) := by decide
theorem kc_bipush_20 : (Int8.ofInt (20)).toInt32 = (20 : Int32) := by decide
theorem kc_bipush_21 : (Int8.ofInt (21)).toInt32 = (21 : Int32) := by decide
theorem kc_bipush_22 : (Int8.ofInt (22)).toInt32 = (22 : Int32) := by decide
theorem kc_bipush_28 : (Int8.ofInt (28)).toInt32 = (28 : Int32) := by decide
theorem kc_bipush_32 : (Int8.ofInt (32)).toInt32 = (32 : Int32) := by decide
theorem kc_bipush_40 : (Int8.ofInt (40)).toInt32 = (40 : Int32) := by decide
theorem kc_bipush_48 : (Int8.ofInt (48)).toInt32 = (48 : Int32) := by decide
theorem kc_bipush_60 : (Int8.ofInt (60)).toInt32 = (60 : Int32) := by decide
theorem kc_bipush_63 : (Int8.ofInt (63)).toInt32 = (63 : Int32) := by decide
theorem kc_bipush_95 : (Int8.ofInt (95)).toInt32 = (95 : Int32) := by decide
theorem kc_bipush_96 : (Int8.ofInt (96)).toInt32 = (96 : Int32) := by decide
theorem kc_bipush_99 : (Int8.ofInt (99)).toInt32 = (99 : Int32) := by decide
theorem kc_bipush_100 : (Int8.ofInt (100)).toInt32 = (100 : Int32) := by decide
theorem kc_bipush_102 : (Int8.ofInt (102)).toInt32 = (102 : Int32) := by decide
theorem kc_bipush_103 : (Int8.ofInt (103)).toInt32 = (103 : Int32) := by decide
theorem kc_bipush_104 : (Int8.ofInt (104)).toInt32 = (104 : Int32) := by decide
theorem kc_bipush_109 : (Int8.ofInt (109)).toInt32 = (109 : Int32) := by decide
theorem kc_bipush_112 : (Int8.ofInt (112)).toInt32 = (112 : Int32) := by decide
theorem kc_bipush_116 : (Int8.ofInt (116)).toInt32 = (116 : Int32) := by decide
theorem kc_bipush_127 : (Int8.ofInt (127)).toInt32 = (127 : Int32) := by decide
theorem kc_iconst_m1 : Int32.ofInt (-1) = (-1 : Int32) := by decide
theorem kc_iconst_0 : Int32.ofInt (0) = (0 : Int32) := by decide
theorem kc_iconst_1 : Int32.ofInt (1) = (1 : Int32) := by decide
theorem kc_iconst_2 : Int32.ofInt (2) = (2 : Int32) := by decide
theorem kc_iconst_3 : Int32.ofInt (3) = (3 : Int32) := by decide
theorem kc_iconst_4 : Int32.ofInt (4) = (4 : Int32) := by decide
theorem kc_iconst_5 : Int32.ofInt (5) = (5 : Int32) := by decide
theorem kc_sipush_m1000 : (Int16.ofInt (-1000)).toInt32 = (-1000 : Int32) := by decide
theorem kc_sipush_128 : (Int16.ofInt (128)).toInt32 = (128 : Int32) := by decide
theorem kc_sipush_880 : (Int16.ofInt (880)).toInt32 = (880 : Int32) := by decide
theorem kc_sipush_1000 : (Int16.ofInt (1000)).toInt32 = (1000 : Int32) := by decide
theorem kc_sipush_1024 : (Int16.ofInt (1024)).toInt32 = (1024 : Int32) := by decide
theorem lj_RJ13_314 : Cond.constantLong RJ13 314 (6148914691236517205 : Int64) ∈ lwG := in_lwG (by decide +kernel) rfl
theorem lj_RJ13_316 : Cond.constantLong RJ13 316 (3689348814741910323 : Int64) ∈ lwG := in_lwG (by decide +kernel) rfl
theorem lj_RJ13_318 : Cond.constantLong RJ13 318 (1085102592571150095 : Int64) ∈ lwG := in_lwG (by decide +kernel) rfl
theorem lj_RX3_25 : Cond.constantLong RX3 25 (31 : Int64) ∈ lwG := in_lwG (by decide +kernel) rfl
theorem lj_RX4_55 : Cond.constantLong RX4 55 (-1 : Int64) ∈ lwG := in_lwG (by decide +kernel) rfl
theorem lj_RX5_76 : Cond.constantLong RX5 76 (31 : Int64) ∈ lwG := in_lwG (by decide +kernel) rfl
theorem lj_RX7_294 : Cond.constantLong RX7 294 (2147483647 : Int64) ∈ lwG := in_lwG (by decide +kernel) rfl
theorem lj_RX7_296 : Cond.constantLong RX7 296 (48271 : Int64) ∈ lwG := in_lwG (by decide +kernel) rfl
theorem lj_RX7_307 : Cond.constantLong RX7 307 (17 : Int64) ∈ lwG := in_lwG (by decide +kernel) rfl
theorem lj_RX7_309 : Cond.constantLong RX7 309 (31 : Int64) ∈ lwG := in_lwG (by decide +kernel) rfl
theorem lj_RX8_161 : Cond.constantLong RX8 161 (-1 : Int64) ∈ lwG := in_lwG (by decide +kernel) rfl
theorem lj_RX8_266 : Cond.constantLong RX8 266 (12 : Int64) ∈ lwG := in_lwG (by decide +kernel) rfl
theorem lj_RX8_273 : Cond.constantLong RX8 273 (48271 : Int64) ∈ lwG := in_lwG (by decide +kernel) rfl
theorem lj_RX8_275 : Cond.constantLong RX8 275 (2147483647 : Int64) ∈ lwG := in_lwG (by decide +kernel) rfl
theorem lj_RX8_280 : Cond.constantLong RX8 280 (17 : Int64) ∈ lwG := in_lwG (by decide +kernel) rfl
theorem lj_RX8_282 : Cond.constantLong RX8 282 (31 : Int64) ∈ lwG := in_lwG (by decide +kernel) rfl
theorem lc_RJ6_265 : Cond.constant RJ6 265 (1431655765 : Int32) ∈ lwG := in_lwG (by decide +kernel) rfl
theorem lc_RJ6_266 : Cond.constant RJ6 266 (858993459 : Int32) ∈ lwG := in_lwG (by decide +kernel) rfl
theorem lc_RJ6_267 : Cond.constant RJ6 267 (252645135 : Int32) ∈ lwG := in_lwG (by decide +kernel) rfl
theorem lc_RX8_272 : Cond.constant RX8 272 (2147483646 : Int32) ∈ lwG := in_lwG (by decide +kernel) rfl
theorem lm_RL_13 : Cond.methodLink RL 13 yX7_row ∈ lwG := in_lwG (by decide +kernel) rfl
theorem lm_RL_17 : Cond.methodLink RL 17 yX8_row ∈ lwG := in_lwG (by decide +kernel) rfl
theorem lm_RL_18 : Cond.methodLink RL 18 yX7_lay ∈ lwG := in_lwG (by decide +kernel) rfl
theorem lm_RL_22 : Cond.methodLink RL 22 yX8_lay ∈ lwG := in_lwG (by decide +kernel) rfl
theorem lm_RL_23 : Cond.methodLink RL 23 yX7_at ∈ lwG := in_lwG (by decide +kernel) rfl
theorem lm_RL_26 : Cond.methodLink RL 26 yX8_at ∈ lwG := in_lwG (by decide +kernel) rfl
theorem lm_RL_27 : Cond.methodLink RL 27 yX7_tear ∈ lwG := in_lwG (by decide +kernel) rfl
theorem lm_RL_31 : Cond.methodLink RL 31 yX8_tear ∈ lwG := in_lwG (by decide +kernel) rfl
theorem lm_RL_32 : Cond.methodLink RL 32 yX7_copy ∈ lwG := in_lwG (by decide +kernel) rfl
theorem lm_RL_36 : Cond.methodLink RL 36 yX8_copy ∈ lwG := in_lwG (by decide +kernel) rfl
theorem lm_RL_37 : Cond.methodLink RL 37 yX7_mean ∈ lwG := in_lwG (by decide +kernel) rfl
theorem lm_RL_40 : Cond.methodLink RL 40 yX8_mean ∈ lwG := in_lwG (by decide +kernel) rfl
theorem lm_RL_41 : Cond.methodLink RL 41 yX7_text ∈ lwG := in_lwG (by decide +kernel) rfl
theorem lm_RL_44 : Cond.methodLink RL 44 yX8_text ∈ lwG := in_lwG (by decide +kernel) rfl
theorem lm_RL_45 : Cond.methodLink RL 45 yX7_put ∈ lwG := in_lwG (by decide +kernel) rfl
theorem lm_RL_48 : Cond.methodLink RL 48 yX8_put ∈ lwG := in_lwG (by decide +kernel) rfl
theorem lm_RL_49 : Cond.methodLink RL 49 yX7_fault ∈ lwG := in_lwG (by decide +kernel) rfl
theorem lm_RL_52 : Cond.methodLink RL 52 yX8_fault ∈ lwG := in_lwG (by decide +kernel) rfl
theorem lm_RL_53 : Cond.methodLink RL 53 yX7_screen ∈ lwG := in_lwG (by decide +kernel) rfl
theorem lm_RL_56 : Cond.methodLink RL 56 yX8_screen ∈ lwG := in_lwG (by decide +kernel) rfl
theorem lm_RL_57 : Cond.methodLink RL 57 yX7_pane ∈ lwG := in_lwG (by decide +kernel) rfl
theorem lm_RL_60 : Cond.methodLink RL 60 yX8_pane ∈ lwG := in_lwG (by decide +kernel) rfl
theorem lm_RL_61 : Cond.methodLink RL 61 yX7_mark ∈ lwG := in_lwG (by decide +kernel) rfl
theorem lm_RL_64 : Cond.methodLink RL 64 yX8_mark ∈ lwG := in_lwG (by decide +kernel) rfl
theorem lm_RL_65 : Cond.methodLink RL 65 yX7_covers ∈ lwG := in_lwG (by decide +kernel) rfl
theorem lm_RL_68 : Cond.methodLink RL 68 yX8_covers ∈ lwG := in_lwG (by decide +kernel) rfl
theorem lm_RL_69 : Cond.methodLink RL 69 yX7_raise ∈ lwG := in_lwG (by decide +kernel) rfl
theorem lm_RL_72 : Cond.methodLink RL 72 yX8_raise ∈ lwG := in_lwG (by decide +kernel) rfl
theorem lm_RL_73 : Cond.methodLink RL 73 yX7_sink ∈ lwG := in_lwG (by decide +kernel) rfl
theorem lm_RL_76 : Cond.methodLink RL 76 yX8_sink ∈ lwG := in_lwG (by decide +kernel) rfl
theorem lm_RL_77 : Cond.methodLink RL 77 yX7_move ∈ lwG := in_lwG (by decide +kernel) rfl
theorem lm_RL_80 : Cond.methodLink RL 80 yX8_move ∈ lwG := in_lwG (by decide +kernel) rfl
theorem lm_RL_81 : Cond.methodLink RL 81 yX7_shut ∈ lwG := in_lwG (by decide +kernel) rfl
theorem lm_RL_84 : Cond.methodLink RL 84 yX8_shut ∈ lwG := in_lwG (by decide +kernel) rfl
theorem lm_RL_85 : Cond.methodLink RL 85 yX7_undo ∈ lwG := in_lwG (by decide +kernel) rfl
theorem lm_RL_88 : Cond.methodLink RL 88 yX8_undo ∈ lwG := in_lwG (by decide +kernel) rfl
theorem lm_RL_89 : Cond.methodLink RL 89 yX7_keep ∈ lwG := in_lwG (by decide +kernel) rfl
theorem lm_RL_92 : Cond.methodLink RL 92 yX8_keep ∈ lwG := in_lwG (by decide +kernel) rfl
theorem lm_RL_93 : Cond.methodLink RL 93 yX7_on ∈ lwG := in_lwG (by decide +kernel) rfl
theorem lm_RL_96 : Cond.methodLink RL 96 yX8_on ∈ lwG := in_lwG (by decide +kernel) rfl
theorem lm_RL_97 : Cond.methodLink RL 97 yX7_seen ∈ lwG := in_lwG (by decide +kernel) rfl
theorem lm_RL_100 : Cond.methodLink RL 100 yX8_seen ∈ lwG := in_lwG (by decide +kernel) rfl
theorem lm_RL_101 : Cond.methodLink RL 101 yX7_buried ∈ lwG := in_lwG (by decide +kernel) rfl
theorem lm_RL_105 : Cond.methodLink RL 105 yX8_buried ∈ lwG := in_lwG (by decide +kernel) rfl
theorem lm_RL_106 : Cond.methodLink RL 106 yX7_both ∈ lwG := in_lwG (by decide +kernel) rfl
theorem lm_RL_109 : Cond.methodLink RL 109 yX8_both ∈ lwG := in_lwG (by decide +kernel) rfl
theorem lm_RL_110 : Cond.methodLink RL 110 yX7_free ∈ lwG := in_lwG (by decide +kernel) rfl
theorem lm_RL_113 : Cond.methodLink RL 113 yX8_free ∈ lwG := in_lwG (by decide +kernel) rfl
theorem lm_RL_114 : Cond.methodLink RL 114 yX7_shift ∈ lwG := in_lwG (by decide +kernel) rfl
theorem lm_RL_117 : Cond.methodLink RL 117 yX8_shift ∈ lwG := in_lwG (by decide +kernel) rfl
theorem lm_RL_118 : Cond.methodLink RL 118 yX7_order ∈ lwG := in_lwG (by decide +kernel) rfl
theorem lm_RL_121 : Cond.methodLink RL 121 yX8_order ∈ lwG := in_lwG (by decide +kernel) rfl
theorem lm_RL_122 : Cond.methodLink RL 122 yX7_kinds ∈ lwG := in_lwG (by decide +kernel) rfl
theorem lm_RL_125 : Cond.methodLink RL 125 yX8_kinds ∈ lwG := in_lwG (by decide +kernel) rfl
theorem lm_RL_126 : Cond.methodLink RL 126 yX7_places ∈ lwG := in_lwG (by decide +kernel) rfl
theorem lm_RL_129 : Cond.methodLink RL 129 yX8_places ∈ lwG := in_lwG (by decide +kernel) rfl
theorem lm_RL_130 : Cond.methodLink RL 130 yX7_test ∈ lwG := in_lwG (by decide +kernel) rfl
theorem lm_RL_133 : Cond.methodLink RL 133 yX8_test ∈ lwG := in_lwG (by decide +kernel) rfl
theorem lm_RL_134 : Cond.methodLink RL 134 yX7_duel ∈ lwG := in_lwG (by decide +kernel) rfl
theorem lm_RL_137 : Cond.methodLink RL 137 yX8_duel ∈ lwG := in_lwG (by decide +kernel) rfl
theorem lm_RL_138 : Cond.methodLink RL 138 yX7_odds ∈ lwG := in_lwG (by decide +kernel) rfl
theorem lm_RL_141 : Cond.methodLink RL 141 yX8_odds ∈ lwG := in_lwG (by decide +kernel) rfl
theorem lm_RL_142 : Cond.methodLink RL 142 yX7_mid ∈ lwG := in_lwG (by decide +kernel) rfl
theorem lm_RL_145 : Cond.methodLink RL 145 yX8_mid ∈ lwG := in_lwG (by decide +kernel) rfl
theorem lm_RL_146 : Cond.methodLink RL 146 yX7_lots ∈ lwG := in_lwG (by decide +kernel) rfl
theorem lm_RL_149 : Cond.methodLink RL 149 yX8_lots ∈ lwG := in_lwG (by decide +kernel) rfl
theorem lm_RL_150 : Cond.methodLink RL 150 yX7_asked ∈ lwG := in_lwG (by decide +kernel) rfl
theorem lm_RL_153 : Cond.methodLink RL 153 yX8_asked ∈ lwG := in_lwG (by decide +kernel) rfl
theorem lm_RL_154 : Cond.methodLink RL 154 yX7_upper ∈ lwG := in_lwG (by decide +kernel) rfl
theorem lm_RL_158 : Cond.methodLink RL 158 yX8_upper ∈ lwG := in_lwG (by decide +kernel) rfl
theorem lm_RL_159 : Cond.methodLink RL 159 yX7_lower ∈ lwG := in_lwG (by decide +kernel) rfl
theorem lm_RL_162 : Cond.methodLink RL 162 yX8_lower ∈ lwG := in_lwG (by decide +kernel) rfl
theorem lm_RL_163 : Cond.methodLink RL 163 yX7_count ∈ lwG := in_lwG (by decide +kernel) rfl
theorem lm_RL_166 : Cond.methodLink RL 166 yX8_count ∈ lwG := in_lwG (by decide +kernel) rfl
theorem lm_RL_167 : Cond.methodLink RL 167 yX7_finding ∈ lwG := in_lwG (by decide +kernel) rfl
theorem lm_RL_170 : Cond.methodLink RL 170 yX8_finding ∈ lwG := in_lwG (by decide +kernel) rfl
theorem lm_RL_171 : Cond.methodLink RL 171 yX7_findings ∈ lwG := in_lwG (by decide +kernel) rfl
theorem lm_RL_174 : Cond.methodLink RL 174 yX8_findings ∈ lwG := in_lwG (by decide +kernel) rfl
theorem lm_RL_175 : Cond.methodLink RL 175 yX7_digest ∈ lwG := in_lwG (by decide +kernel) rfl
theorem lm_RL_178 : Cond.methodLink RL 178 yX8_digest ∈ lwG := in_lwG (by decide +kernel) rfl
theorem lf_RX0_9 : Cond.fieldLink RX0 9 "PaneOrder$BestOrder" "most" "[I" ∈ lwG := in_lwG (by decide +kernel) rfl
theorem lf_RX0_15 : Cond.fieldLink RX0 15 "PaneOrder$BestOrder" "lowest" "[I" ∈ lwG := in_lwG (by decide +kernel) rfl
theorem lf_RX0_18 : Cond.fieldLink RX0 18 "PaneOrder$Screen" "size" "I" ∈ lwG := in_lwG (by decide +kernel) rfl
theorem lm_RX0_24 : Cond.methodLink RX0 24 yX0_findFor ∈ lwG := in_lwG (by decide +kernel) rfl
theorem lm_RX0_28 : Cond.methodLink RX0 28 yX4_shown ∈ lwG := in_lwG (by decide +kernel) rfl
theorem lf_RX1_9 : Cond.fieldLink RX1 9 "PaneOrder$Deeds" "what" "[I" ∈ lwG := in_lwG (by decide +kernel) rfl
theorem lf_RX1_15 : Cond.fieldLink RX1 15 "PaneOrder$Deeds" "who" "[I" ∈ lwG := in_lwG (by decide +kernel) rfl
theorem lf_RX1_18 : Cond.fieldLink RX1 18 "PaneOrder$Deeds" "first" "[I" ∈ lwG := in_lwG (by decide +kernel) rfl
theorem lf_RX1_21 : Cond.fieldLink RX1 21 "PaneOrder$Deeds" "second" "[I" ∈ lwG := in_lwG (by decide +kernel) rfl
theorem lf_RX1_24 : Cond.fieldLink RX1 24 "PaneOrder$Deeds" "size" "I" ∈ lwG := in_lwG (by decide +kernel) rfl
theorem lm_RX1_28 : Cond.methodLink RX1 28 yX1_hasRoomFor ∈ lwG := in_lwG (by decide +kernel) rfl
theorem lf_RX1_32 : Cond.fieldLink RX1 32 "PaneOrder$Screen" "panes" "[LPaneOrder$Pane;" ∈ lwG := in_lwG (by decide +kernel) rfl
theorem lm_RX1_38 : Cond.methodLink RX1 38 yX4_placeAt ∈ lwG := in_lwG (by decide +kernel) rfl
theorem lf_RX1_42 : Cond.fieldLink RX1 42 "PaneOrder$Pane" "left" "I" ∈ lwG := in_lwG (by decide +kernel) rfl
theorem lf_RX1_47 : Cond.fieldLink RX1 47 "PaneOrder$Pane" "top" "I" ∈ lwG := in_lwG (by decide +kernel) rfl
theorem lm_RX1_50 : Cond.methodLink RX1 50 yX2_lieAt ∈ lwG := in_lwG (by decide +kernel) rfl
theorem lf_RX1_53 : Cond.fieldLink RX1 53 "PaneOrder$Pane" "open" "Z" ∈ lwG := in_lwG (by decide +kernel) rfl
theorem lf_RX2_9 : Cond.fieldLink RX2 9 "PaneOrder$Pane" "kind" "I" ∈ lwG := in_lwG (by decide +kernel) rfl
theorem lf_RX2_15 : Cond.fieldLink RX2 15 "PaneOrder$Pane" "left" "I" ∈ lwG := in_lwG (by decide +kernel) rfl
theorem lf_RX2_18 : Cond.fieldLink RX2 18 "PaneOrder$Pane" "top" "I" ∈ lwG := in_lwG (by decide +kernel) rfl
theorem lf_RX2_21 : Cond.fieldLink RX2 21 "PaneOrder$Pane" "wide" "I" ∈ lwG := in_lwG (by decide +kernel) rfl
theorem lf_RX2_24 : Cond.fieldLink RX2 24 "PaneOrder$Pane" "high" "I" ∈ lwG := in_lwG (by decide +kernel) rfl
theorem lf_RX2_27 : Cond.fieldLink RX2 27 "PaneOrder$Pane" "place" "I" ∈ lwG := in_lwG (by decide +kernel) rfl
theorem lf_RX2_30 : Cond.fieldLink RX2 30 "PaneOrder$Pane" "open" "Z" ∈ lwG := in_lwG (by decide +kernel) rfl
theorem lf_RX2_34 : Cond.fieldLink RX2 34 "PaneOrder$Pane" "upperHalf" "J" ∈ lwG := in_lwG (by decide +kernel) rfl
theorem lf_RX2_38 : Cond.fieldLink RX2 38 "PaneOrder$Pane" "lowerHalf" "J" ∈ lwG := in_lwG (by decide +kernel) rfl
theorem lm_RX2_41 : Cond.methodLink RX2 41 yX2_findCells ∈ lwG := in_lwG (by decide +kernel) rfl
theorem lm_RX2_44 : Cond.methodLink RX2 44 yX2_reaches ∈ lwG := in_lwG (by decide +kernel) rfl
theorem lm_RX2_48 : Cond.methodLink RX2 48 yX2_addCell ∈ lwG := in_lwG (by decide +kernel) rfl
theorem lm_RX2_52 : Cond.methodLink RX2 52 yJ13_bitCount_95d88 ∈ lwG := in_lwG (by decide +kernel) rfl
theorem lf_RX3_9 : Cond.fieldLink RX3 9 "PaneOrder$Row" "ints" "[I" ∈ lwG := in_lwG (by decide +kernel) rfl
theorem lf_RX3_15 : Cond.fieldLink RX3 15 "PaneOrder$Row" "size" "I" ∈ lwG := in_lwG (by decide +kernel) rfl
theorem lm_RX3_19 : Cond.methodLink RX3 19 yJ7_fill_53178 ∈ lwG := in_lwG (by decide +kernel) rfl
theorem lf_RX4_11 : Cond.fieldLink RX4 11 "PaneOrder$Screen" "panes" "[LPaneOrder$Pane;" ∈ lwG := in_lwG (by decide +kernel) rfl
theorem lf_RX4_17 : Cond.fieldLink RX4 17 "PaneOrder$Screen" "size" "I" ∈ lwG := in_lwG (by decide +kernel) rfl
theorem lm_RX4_22 : Cond.methodLink RX4 22 yX2_become ∈ lwG := in_lwG (by decide +kernel) rfl
theorem lf_RX4_26 : Cond.fieldLink RX4 26 "PaneOrder$Pane" "place" "I" ∈ lwG := in_lwG (by decide +kernel) rfl
theorem lf_RX4_29 : Cond.fieldLink RX4 29 "PaneOrder$Pane" "kind" "I" ∈ lwG := in_lwG (by decide +kernel) rfl
theorem lm_RX4_32 : Cond.methodLink RX4 32 yX4_after ∈ lwG := in_lwG (by decide +kernel) rfl
theorem lm_RX4_36 : Cond.methodLink RX4 36 yX4_shown ∈ lwG := in_lwG (by decide +kernel) rfl
theorem lf_RX4_40 : Cond.fieldLink RX4 40 "PaneOrder$Pane" "open" "Z" ∈ lwG := in_lwG (by decide +kernel) rfl
theorem lf_RX4_44 : Cond.fieldLink RX4 44 "PaneOrder$Pane" "upperHalf" "J" ∈ lwG := in_lwG (by decide +kernel) rfl
theorem lf_RX4_48 : Cond.fieldLink RX4 48 "PaneOrder$Pane" "lowerHalf" "J" ∈ lwG := in_lwG (by decide +kernel) rfl
theorem lm_RX4_51 : Cond.methodLink RX4 51 yX4_wouldBeOver ∈ lwG := in_lwG (by decide +kernel) rfl
theorem lm_RX4_57 : Cond.methodLink RX4 57 yJ13_bitCount_95d88 ∈ lwG := in_lwG (by decide +kernel) rfl
theorem lm_RX4_63 : Cond.methodLink RX4 63 yX2_rank ∈ lwG := in_lwG (by decide +kernel) rfl
theorem lm_RX4_67 : Cond.methodLink RX4 67 yX2_hasCell ∈ lwG := in_lwG (by decide +kernel) rfl
theorem lm_RX4_71 : Cond.methodLink RX4 71 yX2_cellsShared ∈ lwG := in_lwG (by decide +kernel) rfl
theorem lm_RX4_75 : Cond.methodLink RX4 75 yX4_shownNow ∈ lwG := in_lwG (by decide +kernel) rfl
theorem lm_RX4_78 : Cond.methodLink RX4 78 yX4_howManyOpen ∈ lwG := in_lwG (by decide +kernel) rfl
theorem lm_RX4_81 : Cond.methodLink RX4 81 yX4_unseenOpenOnes ∈ lwG := in_lwG (by decide +kernel) rfl
theorem lm_RX4_84 : Cond.methodLink RX4 84 yJ6_bitCount_0f7a4 ∈ lwG := in_lwG (by decide +kernel) rfl
theorem lm_RX4_88 : Cond.methodLink RX4 88 yX4_shutOnes ∈ lwG := in_lwG (by decide +kernel) rfl
theorem lf_RX4_95 : Cond.fieldLink RX4 95 "PaneOrder$Row" "size" "I" ∈ lwG := in_lwG (by decide +kernel) rfl
theorem lf_RX4_98 : Cond.fieldLink RX4 98 "PaneOrder$Row" "ints" "[I" ∈ lwG := in_lwG (by decide +kernel) rfl
theorem lm_RX4_102 : Cond.methodLink RX4 102 yX4_whoAt ∈ lwG := in_lwG (by decide +kernel) rfl
theorem lf_RX5_9 : Cond.fieldLink RX5 9 "PaneOrder$Text" "bytes" "[B" ∈ lwG := in_lwG (by decide +kernel) rfl
theorem lf_RX5_15 : Cond.fieldLink RX5 15 "PaneOrder$Text" "size" "I" ∈ lwG := in_lwG (by decide +kernel) rfl
theorem lm_RX5_19 : Cond.methodLink RX5 19 yJ7_fill_031fb ∈ lwG := in_lwG (by decide +kernel) rfl
theorem lf_RX5_25 : Cond.fieldLink RX5 25 "PaneOrder$Screen" "size" "I" ∈ lwG := in_lwG (by decide +kernel) rfl
theorem lf_RX5_28 : Cond.fieldLink RX5 28 "PaneOrder$Screen" "panes" "[LPaneOrder$Pane;" ∈ lwG := in_lwG (by decide +kernel) rfl
theorem lm_RX5_32 : Cond.methodLink RX5 32 yX5_readPane ∈ lwG := in_lwG (by decide +kernel) rfl
theorem lf_RX5_36 : Cond.fieldLink RX5 36 "PaneOrder$Pane" "place" "I" ∈ lwG := in_lwG (by decide +kernel) rfl
theorem lm_RX5_41 : Cond.methodLink RX5 41 yX5_kindAt ∈ lwG := in_lwG (by decide +kernel) rfl
theorem lm_RX5_45 : Cond.methodLink RX5 45 yX5_figureAt ∈ lwG := in_lwG (by decide +kernel) rfl
theorem lm_RX5_49 : Cond.methodLink RX5 49 Lib.Math.min.name ∈ lwG := in_lwG (by decide +kernel) rfl
theorem lf_RX5_55 : Cond.fieldLink RX5 55 "PaneOrder$Pane" "wide" "I" ∈ lwG := in_lwG (by decide +kernel) rfl
theorem lf_RX5_58 : Cond.fieldLink RX5 58 "PaneOrder$Pane" "high" "I" ∈ lwG := in_lwG (by decide +kernel) rfl
theorem lf_RX5_61 : Cond.fieldLink RX5 61 "PaneOrder$Pane" "kind" "I" ∈ lwG := in_lwG (by decide +kernel) rfl
theorem lf_RX5_64 : Cond.fieldLink RX5 64 "PaneOrder$Pane" "open" "Z" ∈ lwG := in_lwG (by decide +kernel) rfl
theorem lm_RX5_68 : Cond.methodLink RX5 68 yX2_lieAt ∈ lwG := in_lwG (by decide +kernel) rfl
theorem lf_RX6_9 : Cond.fieldLink RX6 9 "PaneOrder$Turns" "cells" "[I" ∈ lwG := in_lwG (by decide +kernel) rfl
theorem lf_RX6_15 : Cond.fieldLink RX6 15 "PaneOrder$Screen" "size" "I" ∈ lwG := in_lwG (by decide +kernel) rfl
theorem lm_RX6_21 : Cond.methodLink RX6 21 yX4_shown ∈ lwG := in_lwG (by decide +kernel) rfl
theorem lm_RX6_25 : Cond.methodLink RX6 25 yX6_afterTurn ∈ lwG := in_lwG (by decide +kernel) rfl
theorem lm_RX6_29 : Cond.methodLink RX6 29 yX4_after ∈ lwG := in_lwG (by decide +kernel) rfl
theorem lm_RX6_33 : Cond.methodLink RX6 33 Lib.Math.max.name ∈ lwG := in_lwG (by decide +kernel) rfl
theorem lm_RX6_38 : Cond.methodLink RX6 38 Lib.Math.min.name ∈ lwG := in_lwG (by decide +kernel) rfl
theorem lf_RX7_11 : Cond.fieldLink RX7 11 "PaneOrder" "rows" "[LPaneOrder$Row;" ∈ lwG := in_lwG (by decide +kernel) rfl
theorem lf_RX7_17 : Cond.fieldLink RX7 17 "PaneOrder" "texts" "[LPaneOrder$Text;" ∈ lwG := in_lwG (by decide +kernel) rfl
theorem lf_RX7_24 : Cond.fieldLink RX7 24 "PaneOrder" "screen" "LPaneOrder$Screen;" ∈ lwG := in_lwG (by decide +kernel) rfl
theorem lf_RX7_31 : Cond.fieldLink RX7 31 "PaneOrder" "deeds" "LPaneOrder$Deeds;" ∈ lwG := in_lwG (by decide +kernel) rfl
theorem lf_RX7_35 : Cond.fieldLink RX7 35 "PaneOrder" "keptScreens" "[LPaneOrder$Screen;" ∈ lwG := in_lwG (by decide +kernel) rfl
theorem lf_RX7_39 : Cond.fieldLink RX7 39 "PaneOrder" "keptDeeds" "[LPaneOrder$Deeds;" ∈ lwG := in_lwG (by decide +kernel) rfl
theorem lf_RX7_43 : Cond.fieldLink RX7 43 "PaneOrder" "aside" "LPaneOrder$Screen;" ∈ lwG := in_lwG (by decide +kernel) rfl
theorem lf_RX7_49 : Cond.fieldLink RX7 49 "PaneOrder" "bestOrder" "LPaneOrder$BestOrder;" ∈ lwG := in_lwG (by decide +kernel) rfl
theorem lf_RX7_56 : Cond.fieldLink RX7 56 "PaneOrder" "turns" "LPaneOrder$Turns;" ∈ lwG := in_lwG (by decide +kernel) rfl
theorem lf_RX7_62 : Cond.fieldLink RX7 62 "PaneOrder" "parts" "[[I" ∈ lwG := in_lwG (by decide +kernel) rfl
theorem lf_RX7_65 : Cond.fieldLink RX7 65 "PaneOrder" "foundTimes" "[I" ∈ lwG := in_lwG (by decide +kernel) rfl
theorem lf_RX7_69 : Cond.fieldLink RX7 69 "PaneOrder" "latestFinding" "I" ∈ lwG := in_lwG (by decide +kernel) rfl
theorem lf_RX7_73 : Cond.fieldLink RX7 73 "PaneOrder" "told" "I" ∈ lwG := in_lwG (by decide +kernel) rfl
theorem lf_RX7_76 : Cond.fieldLink RX7 76 "PaneOrder" "upperNumber" "J" ∈ lwG := in_lwG (by decide +kernel) rfl
theorem lf_RX7_80 : Cond.fieldLink RX7 80 "PaneOrder" "lowerNumber" "J" ∈ lwG := in_lwG (by decide +kernel) rfl
theorem lf_RX7_85 : Cond.fieldLink RX7 85 "PaneOrder$Deeds" "size" "I" ∈ lwG := in_lwG (by decide +kernel) rfl
theorem lm_RX7_88 : Cond.methodLink RX7 88 yX7_isRow ∈ lwG := in_lwG (by decide +kernel) rfl
theorem lm_RX7_92 : Cond.methodLink RX7 92 yX7_found ∈ lwG := in_lwG (by decide +kernel) rfl
theorem lm_RX7_96 : Cond.methodLink RX7 96 yX3_renew ∈ lwG := in_lwG (by decide +kernel) rfl
theorem lm_RX7_100 : Cond.methodLink RX7 100 yX7_refusalOfPlace ∈ lwG := in_lwG (by decide +kernel) rfl
theorem lf_RX7_104 : Cond.fieldLink RX7 104 "PaneOrder$Row" "ints" "[I" ∈ lwG := in_lwG (by decide +kernel) rfl
theorem lf_RX7_107 : Cond.fieldLink RX7 107 "PaneOrder$Row" "size" "I" ∈ lwG := in_lwG (by decide +kernel) rfl
theorem lm_RX7_108 : Cond.methodLink RX7 108 yX3_hasPlaces ∈ lwG := in_lwG (by decide +kernel) rfl
theorem lm_RX7_112 : Cond.methodLink RX7 112 arraycopyName ∈ lwG := in_lwG (by decide +kernel) rfl
theorem lm_RX7_118 : Cond.methodLink RX7 118 yX3_sum ∈ lwG := in_lwG (by decide +kernel) rfl
theorem lm_RX7_122 : Cond.methodLink RX7 122 yX7_isText ∈ lwG := in_lwG (by decide +kernel) rfl
theorem lm_RX7_125 : Cond.methodLink RX7 125 yX5_renew ∈ lwG := in_lwG (by decide +kernel) rfl
theorem lf_RX7_126 : Cond.fieldLink RX7 126 "PaneOrder$Text" "size" "I" ∈ lwG := in_lwG (by decide +kernel) rfl
theorem lf_RX7_127 : Cond.fieldLink RX7 127 "PaneOrder$Text" "bytes" "[B" ∈ lwG := in_lwG (by decide +kernel) rfl
theorem lm_RX7_131 : Cond.methodLink RX7 131 yX5_readInto ∈ lwG := in_lwG (by decide +kernel) rfl
theorem lm_RX7_135 : Cond.methodLink RX7 135 yX4_become ∈ lwG := in_lwG (by decide +kernel) rfl
theorem lf_RX7_139 : Cond.fieldLink RX7 139 "PaneOrder$Screen" "size" "I" ∈ lwG := in_lwG (by decide +kernel) rfl
theorem lm_RX7_140 : Cond.methodLink RX7 140 yX4_has ∈ lwG := in_lwG (by decide +kernel) rfl
theorem lm_RX7_143 : Cond.methodLink RX7 143 yX7_ofPane ∈ lwG := in_lwG (by decide +kernel) rfl
theorem lf_RX7_146 : Cond.fieldLink RX7 146 "PaneOrder$Screen" "panes" "[LPaneOrder$Pane;" ∈ lwG := in_lwG (by decide +kernel) rfl
theorem lf_RX7_150 : Cond.fieldLink RX7 150 "PaneOrder$Pane" "kind" "I" ∈ lwG := in_lwG (by decide +kernel) rfl
theorem lm_RX7_155 : Cond.methodLink RX7 155 yX7_isOf ∈ lwG := in_lwG (by decide +kernel) rfl
theorem lm_RX7_158 : Cond.methodLink RX7 158 yX4_notTopAfter ∈ lwG := in_lwG (by decide +kernel) rfl
theorem lm_RX7_161 : Cond.methodLink RX7 161 yX2_coveredAs ∈ lwG := in_lwG (by decide +kernel) rfl
theorem lm_RX7_164 : Cond.methodLink RX7 164 yX2_covered ∈ lwG := in_lwG (by decide +kernel) rfl
theorem lf_RX7_168 : Cond.fieldLink RX7 168 "PaneOrder$Pane" "wide" "I" ∈ lwG := in_lwG (by decide +kernel) rfl
theorem lf_RX7_171 : Cond.fieldLink RX7 171 "PaneOrder$Pane" "high" "I" ∈ lwG := in_lwG (by decide +kernel) rfl
theorem lm_RX7_174 : Cond.methodLink RX7 174 yX7_isCell ∈ lwG := in_lwG (by decide +kernel) rfl
theorem lm_RX7_177 : Cond.methodLink RX7 177 yX2_hasCell ∈ lwG := in_lwG (by decide +kernel) rfl
theorem lm_RX7_180 : Cond.methodLink RX7 180 yX7_reorder ∈ lwG := in_lwG (by decide +kernel) rfl
theorem lm_RX7_183 : Cond.methodLink RX7 183 yX7_isNear ∈ lwG := in_lwG (by decide +kernel) rfl
theorem lf_RX7_186 : Cond.fieldLink RX7 186 "PaneOrder$Pane" "left" "I" ∈ lwG := in_lwG (by decide +kernel) rfl
theorem lf_RX7_189 : Cond.fieldLink RX7 189 "PaneOrder$Pane" "top" "I" ∈ lwG := in_lwG (by decide +kernel) rfl
theorem lm_RX7_192 : Cond.methodLink RX7 192 yX2_fitsAt ∈ lwG := in_lwG (by decide +kernel) rfl
theorem lm_RX7_195 : Cond.methodLink RX7 195 yX1_hasRoomFor ∈ lwG := in_lwG (by decide +kernel) rfl
theorem lm_RX7_198 : Cond.methodLink RX7 198 yX2_lieAt ∈ lwG := in_lwG (by decide +kernel) rfl
theorem lm_RX7_202 : Cond.methodLink RX7 202 yX1_note ∈ lwG := in_lwG (by decide +kernel) rfl
theorem lf_RX7_206 : Cond.fieldLink RX7 206 "PaneOrder$Pane" "open" "Z" ∈ lwG := in_lwG (by decide +kernel) rfl
theorem lm_RX7_210 : Cond.methodLink RX7 210 yX4_howManyOpen ∈ lwG := in_lwG (by decide +kernel) rfl
theorem lm_RX7_213 : Cond.methodLink RX7 213 yX1_takeBackLast ∈ lwG := in_lwG (by decide +kernel) rfl
theorem lm_RX7_216 : Cond.methodLink RX7 216 yX7_isKept ∈ lwG := in_lwG (by decide +kernel) rfl
theorem lm_RX7_219 : Cond.methodLink RX7 219 yX1_become ∈ lwG := in_lwG (by decide +kernel) rfl
theorem lm_RX7_222 : Cond.methodLink RX7 222 yX4_whoAt ∈ lwG := in_lwG (by decide +kernel) rfl
theorem lm_RX7_225 : Cond.methodLink RX7 225 yX4_howManyCover ∈ lwG := in_lwG (by decide +kernel) rfl
theorem lm_RX7_228 : Cond.methodLink RX7 228 yX4_cellsThatShowOne ∈ lwG := in_lwG (by decide +kernel) rfl
theorem lm_RX7_231 : Cond.methodLink RX7 231 yX4_unseenOpenOnes ∈ lwG := in_lwG (by decide +kernel) rfl
theorem lm_RX7_234 : Cond.methodLink RX7 234 yX2_rank ∈ lwG := in_lwG (by decide +kernel) rfl
theorem lm_RX7_237 : Cond.methodLink RX7 237 yX2_cellsShared ∈ lwG := in_lwG (by decide +kernel) rfl
theorem lm_RX7_241 : Cond.methodLink RX7 241 yX7_refusalOfOpen ∈ lwG := in_lwG (by decide +kernel) rfl
theorem lm_RX7_244 : Cond.methodLink RX7 244 yX4_inTheWayOf ∈ lwG := in_lwG (by decide +kernel) rfl
theorem lm_RX7_247 : Cond.methodLink RX7 247 yJ6_bitCount_0f7a4 ∈ lwG := in_lwG (by decide +kernel) rfl
theorem lm_RX7_252 : Cond.methodLink RX7 252 yX4_shownNow ∈ lwG := in_lwG (by decide +kernel) rfl
theorem lm_RX7_255 : Cond.methodLink RX7 255 yX0_findInto ∈ lwG := in_lwG (by decide +kernel) rfl
theorem lm_RX7_259 : Cond.methodLink RX7 259 yX7_refusalOfSights ∈ lwG := in_lwG (by decide +kernel) rfl
theorem lm_RX7_262 : Cond.methodLink RX7 262 yX7_possibleKinds ∈ lwG := in_lwG (by decide +kernel) rfl
theorem lm_RX7_266 : Cond.methodLink RX7 266 yX4_agreesWith ∈ lwG := in_lwG (by decide +kernel) rfl
theorem lm_RX7_270 : Cond.methodLink RX7 270 yX7_sortIntoParts ∈ lwG := in_lwG (by decide +kernel) rfl
theorem lm_RX7_273 : Cond.methodLink RX7 273 yX7_greatestPart ∈ lwG := in_lwG (by decide +kernel) rfl
theorem lm_RX7_276 : Cond.methodLink RX7 276 yX6_cellsInTheEnd ∈ lwG := in_lwG (by decide +kernel) rfl
theorem lm_RX7_280 : Cond.methodLink RX7 280 yX7_refusalOfChance ∈ lwG := in_lwG (by decide +kernel) rfl
theorem lm_RX7_283 : Cond.methodLink RX7 283 yX7_power ∈ lwG := in_lwG (by decide +kernel) rfl
theorem lm_RX7_287 : Cond.methodLink RX7 287 yX7_tellFraction ∈ lwG := in_lwG (by decide +kernel) rfl
theorem lm_RX7_291 : Cond.methodLink RX7 291 yX4_howManyOver ∈ lwG := in_lwG (by decide +kernel) rfl
theorem lm_RX7_298 : Cond.methodLink RX7 298 yX7_doByLot ∈ lwG := in_lwG (by decide +kernel) rfl
theorem lm_RX7_301 : Cond.methodLink RX7 301 yX4_howManySeen ∈ lwG := in_lwG (by decide +kernel) rfl
theorem lm_RX7_304 : Cond.methodLink RX7 304 yX7_ofAll ∈ lwG := in_lwG (by decide +kernel) rfl
theorem lm_RX7_311 : Cond.methodLink RX7 311 yX3_digestFrom ∈ lwG := in_lwG (by decide +kernel) rfl
theorem lm_RX7_315 : Cond.methodLink RX7 315 yX5_digestFrom ∈ lwG := in_lwG (by decide +kernel) rfl
theorem lf_RX7_316 : Cond.fieldLink RX7 316 "PaneOrder$Pane" "place" "I" ∈ lwG := in_lwG (by decide +kernel) rfl
theorem lm_RX7_319 : Cond.methodLink RX7 319 yX4_shutOnes ∈ lwG := in_lwG (by decide +kernel) rfl
theorem lm_RX7_322 : Cond.methodLink RX7 322 yX7_rowsThere ∈ lwG := in_lwG (by decide +kernel) rfl
theorem lm_RX7_325 : Cond.methodLink RX7 325 yX7_textsThere ∈ lwG := in_lwG (by decide +kernel) rfl
theorem lm_RX7_328 : Cond.methodLink RX7 328 yX7_keptThere ∈ lwG := in_lwG (by decide +kernel) rfl
theorem lm_RX7_331 : Cond.methodLink RX7 331 yX4_howManyAre ∈ lwG := in_lwG (by decide +kernel) rfl
theorem lm_RX7_334 : Cond.methodLink RX7 334 yX4_placeAt ∈ lwG := in_lwG (by decide +kernel) rfl
theorem lm_RX7_337 : Cond.methodLink RX7 337 yX7_raise ∈ lwG := in_lwG (by decide +kernel) rfl
theorem lm_RX7_340 : Cond.methodLink RX7 340 yX7_sink ∈ lwG := in_lwG (by decide +kernel) rfl
theorem lm_RX7_343 : Cond.methodLink RX7 343 yX7_move ∈ lwG := in_lwG (by decide +kernel) rfl
theorem lm_RX7_347 : Cond.methodLink RX7 347 yX7_shut ∈ lwG := in_lwG (by decide +kernel) rfl
theorem lm_RX7_350 : Cond.methodLink RX7 350 yX2_turnInto ∈ lwG := in_lwG (by decide +kernel) rfl
theorem lm_RX7_353 : Cond.methodLink RX7 353 yJ7_fill_53178 ∈ lwG := in_lwG (by decide +kernel) rfl
theorem lm_RX7_359 : Cond.methodLink RX7 359 Lib.Math.max.name ∈ lwG := in_lwG (by decide +kernel) rfl
theorem lf_RX8_7 : Cond.fieldLink RX8 7 "PaneOrderModel" "findingMany" "[I" ∈ lwG := in_lwG (by decide +kernel) rfl
theorem lf_RX8_13 : Cond.fieldLink RX8 13 "PaneOrderModel" "rows" "[I" ∈ lwG := in_lwG (by decide +kernel) rfl
theorem lf_RX8_16 : Cond.fieldLink RX8 16 "PaneOrderModel" "rowSize" "[I" ∈ lwG := in_lwG (by decide +kernel) rfl
theorem lf_RX8_19 : Cond.fieldLink RX8 19 "PaneOrderModel" "bytes" "[I" ∈ lwG := in_lwG (by decide +kernel) rfl
theorem lf_RX8_22 : Cond.fieldLink RX8 22 "PaneOrderModel" "byteSize" "[I" ∈ lwG := in_lwG (by decide +kernel) rfl
theorem lf_RX8_25 : Cond.fieldLink RX8 25 "PaneOrderModel" "kind" "[I" ∈ lwG := in_lwG (by decide +kernel) rfl
theorem lf_RX8_28 : Cond.fieldLink RX8 28 "PaneOrderModel" "wide" "[I" ∈ lwG := in_lwG (by decide +kernel) rfl
theorem lf_RX8_31 : Cond.fieldLink RX8 31 "PaneOrderModel" "high" "[I" ∈ lwG := in_lwG (by decide +kernel) rfl
theorem lf_RX8_34 : Cond.fieldLink RX8 34 "PaneOrderModel" "s" "[I" ∈ lwG := in_lwG (by decide +kernel) rfl
theorem lf_RX8_37 : Cond.fieldLink RX8 37 "PaneOrderModel" "ahead" "[I" ∈ lwG := in_lwG (by decide +kernel) rfl
theorem lf_RX8_40 : Cond.fieldLink RX8 40 "PaneOrderModel" "kept" "[I" ∈ lwG := in_lwG (by decide +kernel) rfl
theorem lf_RX8_43 : Cond.fieldLink RX8 43 "PaneOrderModel" "keptAhead" "[I" ∈ lwG := in_lwG (by decide +kernel) rfl
theorem lf_RX8_46 : Cond.fieldLink RX8 46 "PaneOrderModel" "keptDeeds" "[I" ∈ lwG := in_lwG (by decide +kernel) rfl
theorem lf_RX8_49 : Cond.fieldLink RX8 49 "PaneOrderModel" "kindIf" "[I" ∈ lwG := in_lwG (by decide +kernel) rfl
theorem lf_RX8_52 : Cond.fieldLink RX8 52 "PaneOrderModel" "w" "[I" ∈ lwG := in_lwG (by decide +kernel) rfl
theorem lf_RX8_55 : Cond.fieldLink RX8 55 "PaneOrderModel" "coverLow" "[J" ∈ lwG := in_lwG (by decide +kernel) rfl
theorem lf_RX8_59 : Cond.fieldLink RX8 59 "PaneOrderModel" "coverHigh" "[J" ∈ lwG := in_lwG (by decide +kernel) rfl
theorem lf_RX8_62 : Cond.fieldLink RX8 62 "PaneOrderModel" "seenLow" "[J" ∈ lwG := in_lwG (by decide +kernel) rfl
theorem lf_RX8_65 : Cond.fieldLink RX8 65 "PaneOrderModel" "seenHigh" "[J" ∈ lwG := in_lwG (by decide +kernel) rfl
theorem lf_RX8_68 : Cond.fieldLink RX8 68 "PaneOrderModel" "value" "[I" ∈ lwG := in_lwG (by decide +kernel) rfl
theorem lf_RX8_71 : Cond.fieldLink RX8 71 "PaneOrderModel" "told" "[I" ∈ lwG := in_lwG (by decide +kernel) rfl
theorem lf_RX8_74 : Cond.fieldLink RX8 74 "PaneOrderModel" "whoBy" "[I" ∈ lwG := in_lwG (by decide +kernel) rfl
theorem lf_RX8_77 : Cond.fieldLink RX8 77 "PaneOrderModel" "below" "J" ∈ lwG := in_lwG (by decide +kernel) rfl
theorem lf_RX8_81 : Cond.fieldLink RX8 81 "PaneOrderModel" "thrown" "I" ∈ lwG := in_lwG (by decide +kernel) rfl
theorem lf_RX8_85 : Cond.fieldLink RX8 85 "PaneOrderModel" "findingLast" "I" ∈ lwG := in_lwG (by decide +kernel) rfl
theorem lf_RX8_88 : Cond.fieldLink RX8 88 "PaneOrderModel" "askedLast" "I" ∈ lwG := in_lwG (by decide +kernel) rfl
theorem lm_RX8_91 : Cond.methodLink RX8 91 yX8_in ∈ lwG := in_lwG (by decide +kernel) rfl
theorem lm_RX8_95 : Cond.methodLink RX8 95 yX8_isRow ∈ lwG := in_lwG (by decide +kernel) rfl
theorem lm_RX8_99 : Cond.methodLink RX8 99 yX8_found ∈ lwG := in_lwG (by decide +kernel) rfl
theorem lm_RX8_103 : Cond.methodLink RX8 103 yX8_against ∈ lwG := in_lwG (by decide +kernel) rfl
theorem lm_RX8_107 : Cond.methodLink RX8 107 yX8_tells ∈ lwG := in_lwG (by decide +kernel) rfl
theorem lm_RX8_110 : Cond.methodLink RX8 110 yX8_isPart ∈ lwG := in_lwG (by decide +kernel) rfl
theorem lm_RX8_113 : Cond.methodLink RX8 113 yX8_isText ∈ lwG := in_lwG (by decide +kernel) rfl
theorem lf_RX8_116 : Cond.fieldLink RX8 116 "PaneOrderModel" "of" "I" ∈ lwG := in_lwG (by decide +kernel) rfl
theorem lf_RX8_119 : Cond.fieldLink RX8 119 "PaneOrderModel" "place" "I" ∈ lwG := in_lwG (by decide +kernel) rfl
theorem lm_RX8_122 : Cond.methodLink RX8 122 yX8_byteAt ∈ lwG := in_lwG (by decide +kernel) rfl
theorem lf_RX8_125 : Cond.fieldLink RX8 125 "PaneOrderModel" "faultAt" "I" ∈ lwG := in_lwG (by decide +kernel) rfl
theorem lf_RX8_128 : Cond.fieldLink RX8 128 "PaneOrderModel" "manyTold" "I" ∈ lwG := in_lwG (by decide +kernel) rfl
theorem lm_RX8_131 : Cond.methodLink RX8 131 yX8_blanks ∈ lwG := in_lwG (by decide +kernel) rfl
theorem lm_RX8_134 : Cond.methodLink RX8 134 yX8_kindOf ∈ lwG := in_lwG (by decide +kernel) rfl
theorem lm_RX8_137 : Cond.methodLink RX8 137 yX8_figure ∈ lwG := in_lwG (by decide +kernel) rfl
theorem lm_RX8_140 : Cond.methodLink RX8 140 yX8_reads ∈ lwG := in_lwG (by decide +kernel) rfl
theorem lf_RX8_143 : Cond.fieldLink RX8 143 "PaneOrderModel" "panes" "I" ∈ lwG := in_lwG (by decide +kernel) rfl
theorem lf_RX8_146 : Cond.fieldLink RX8 146 "PaneOrderModel" "deeds" "I" ∈ lwG := in_lwG (by decide +kernel) rfl
theorem lm_RX8_149 : Cond.methodLink RX8 149 yX8_isCovered ∈ lwG := in_lwG (by decide +kernel) rfl
theorem lm_RX8_153 : Cond.methodLink RX8 153 yX8_covering ∈ lwG := in_lwG (by decide +kernel) rfl
theorem lm_RX8_157 : Cond.methodLink RX8 157 yX8_has ∈ lwG := in_lwG (by decide +kernel) rfl
theorem lm_RX8_163 : Cond.methodLink RX8 163 yX8_asNow ∈ lwG := in_lwG (by decide +kernel) rfl
theorem lm_RX8_166 : Cond.methodLink RX8 166 yX8_coveringAll ∈ lwG := in_lwG (by decide +kernel) rfl
theorem lm_RX8_169 : Cond.methodLink RX8 169 yX8_seeing ∈ lwG := in_lwG (by decide +kernel) rfl
theorem lm_RX8_172 : Cond.methodLink RX8 172 yX8_ones ∈ lwG := in_lwG (by decide +kernel) rfl
theorem lm_RX8_176 : Cond.methodLink RX8 176 yX8_isSeenAt ∈ lwG := in_lwG (by decide +kernel) rfl
theorem lm_RX8_179 : Cond.methodLink RX8 179 yX8_placeOf ∈ lwG := in_lwG (by decide +kernel) rfl
theorem lm_RX8_182 : Cond.methodLink RX8 182 yX8_sees ∈ lwG := in_lwG (by decide +kernel) rfl
theorem lm_RX8_185 : Cond.methodLink RX8 185 yX8_cellsOf ∈ lwG := in_lwG (by decide +kernel) rfl
theorem lm_RX8_188 : Cond.methodLink RX8 188 yX8_isPane ∈ lwG := in_lwG (by decide +kernel) rfl
theorem lm_RX8_191 : Cond.methodLink RX8 191 yX8_ofPane ∈ lwG := in_lwG (by decide +kernel) rfl
theorem lm_RX8_194 : Cond.methodLink RX8 194 yX8_isOne ∈ lwG := in_lwG (by decide +kernel) rfl
theorem lm_RX8_197 : Cond.methodLink RX8 197 yX8_coveredOf ∈ lwG := in_lwG (by decide +kernel) rfl
theorem lm_RX8_200 : Cond.methodLink RX8 200 yX8_notes ∈ lwG := in_lwG (by decide +kernel) rfl
theorem lm_RX8_203 : Cond.methodLink RX8 203 yX8_comesTo ∈ lwG := in_lwG (by decide +kernel) rfl
theorem lm_RX8_207 : Cond.methodLink RX8 207 yX8_shifts ∈ lwG := in_lwG (by decide +kernel) rfl
theorem lm_RX8_210 : Cond.methodLink RX8 210 yX8_isOn ∈ lwG := in_lwG (by decide +kernel) rfl
theorem lm_RX8_213 : Cond.methodLink RX8 213 yX8_whoAt ∈ lwG := in_lwG (by decide +kernel) rfl
theorem lm_RX8_216 : Cond.methodLink RX8 216 yX8_isCoverAt ∈ lwG := in_lwG (by decide +kernel) rfl
theorem lm_RX8_219 : Cond.methodLink RX8 219 yX8_shown ∈ lwG := in_lwG (by decide +kernel) rfl
theorem lm_RX8_223 : Cond.methodLink RX8 223 yX8_isOver ∈ lwG := in_lwG (by decide +kernel) rfl
theorem lm_RX8_226 : Cond.methodLink RX8 226 yX8_againstOpen ∈ lwG := in_lwG (by decide +kernel) rfl
theorem lm_RX8_229 : Cond.methodLink RX8 229 yX8_overIt ∈ lwG := in_lwG (by decide +kernel) rfl
theorem lm_RX8_232 : Cond.methodLink RX8 232 yX8_trades ∈ lwG := in_lwG (by decide +kernel) rfl
theorem lm_RX8_236 : Cond.methodLink RX8 236 yX8_manySeen ∈ lwG := in_lwG (by decide +kernel) rfl
theorem lm_RX8_239 : Cond.methodLink RX8 239 yX8_nextOrder ∈ lwG := in_lwG (by decide +kernel) rfl
theorem lm_RX8_243 : Cond.methodLink RX8 243 yX8_isSo ∈ lwG := in_lwG (by decide +kernel) rfl
theorem lm_RX8_246 : Cond.methodLink RX8 246 yX8_againstPairs ∈ lwG := in_lwG (by decide +kernel) rfl
theorem lm_RX8_249 : Cond.methodLink RX8 249 yX8_kindsOf ∈ lwG := in_lwG (by decide +kernel) rfl
theorem lm_RX8_252 : Cond.methodLink RX8 252 yX8_placeIf ∈ lwG := in_lwG (by decide +kernel) rfl
theorem lm_RX8_255 : Cond.methodLink RX8 255 yX8_gcd ∈ lwG := in_lwG (by decide +kernel) rfl
theorem lf_RX8_259 : Cond.fieldLink RX8 259 "PaneOrderModel" "above" "J" ∈ lwG := in_lwG (by decide +kernel) rfl
theorem lm_RX8_262 : Cond.methodLink RX8 262 yX8_power ∈ lwG := in_lwG (by decide +kernel) rfl
theorem lm_RX8_268 : Cond.methodLink RX8 268 yX8_fraction ∈ lwG := in_lwG (by decide +kernel) rfl
theorem lm_RX8_277 : Cond.methodLink RX8 277 yX8_countOf ∈ lwG := in_lwG (by decide +kernel) rfl
theorem inG0 : ∀ w ∈ u_ws RX0 TX0 2, w ∈ lwG := fun w h => in_lwG ((by decide +kernel : ∀ w ∈ u_ws RX0 TX0 2, w ∈ lw_tbl) w h) ((by decide +kernel : ∀ w ∈ u_ws RX0 TX0 2, goodWord w = true) w h)
theorem inG1 : ∀ w ∈ u_ws RX1 TX1 5, w ∈ lwG := fun w h => in_lwG ((by decide +kernel : ∀ w ∈ u_ws RX1 TX1 5, w ∈ lw_tbl) w h) ((by decide +kernel : ∀ w ∈ u_ws RX1 TX1 5, goodWord w = true) w h)
theorem inG2 : ∀ w ∈ u_ws RX2 TX2 9, w ∈ lwG := fun w h => in_lwG ((by decide +kernel : ∀ w ∈ u_ws RX2 TX2 9, w ∈ lw_tbl) w h) ((by decide +kernel : ∀ w ∈ u_ws RX2 TX2 9, goodWord w = true) w h)
theorem inG3 : ∀ w ∈ u_ws RX3 TX3 2, w ∈ lwG := fun w h => in_lwG ((by decide +kernel : ∀ w ∈ u_ws RX3 TX3 2, w ∈ lw_tbl) w h) ((by decide +kernel : ∀ w ∈ u_ws RX3 TX3 2, goodWord w = true) w h)
theorem inG4 : ∀ w ∈ u_ws RX4 TX4 2, w ∈ lwG := fun w h => in_lwG ((by decide +kernel : ∀ w ∈ u_ws RX4 TX4 2, w ∈ lw_tbl) w h) ((by decide +kernel : ∀ w ∈ u_ws RX4 TX4 2, goodWord w = true) w h)
theorem inG5 : ∀ w ∈ u_ws RX5 TX5 2, w ∈ lwG := fun w h => in_lwG ((by decide +kernel : ∀ w ∈ u_ws RX5 TX5 2, w ∈ lw_tbl) w h) ((by decide +kernel : ∀ w ∈ u_ws RX5 TX5 2, goodWord w = true) w h)
theorem inG6 : ∀ w ∈ u_ws RX6 TX6 1, w ∈ lwG := fun w h => in_lwG ((by decide +kernel : ∀ w ∈ u_ws RX6 TX6 1, w ∈ lw_tbl) w h) ((by decide +kernel : ∀ w ∈ u_ws RX6 TX6 1, goodWord w = true) w h)
theorem inG7 : ∀ w ∈ u_ws RX7 TX7 15, w ∈ lwG := fun w h => in_lwG ((by decide +kernel : ∀ w ∈ u_ws RX7 TX7 15, w ∈ lw_tbl) w h) ((by decide +kernel : ∀ w ∈ u_ws RX7 TX7 15, goodWord w = true) w h)
theorem inG8 : ∀ w ∈ u_ws RX8 TX8 33, w ∈ lwG := fun w h => in_lwG ((by decide +kernel : ∀ w ∈ u_ws RX8 TX8 33, w ∈ lw_tbl) w h) ((by decide +kernel : ∀ w ∈ u_ws RX8 TX8 33, goodWord w = true) w h)
theorem g_X0_lowest {en : En} {Ex : (Nat → Prop) → State → Prop} {mi : Mi} {α : Type} {ev : α → Option Value × Sg} {pc index : Nat} {lv : List (Nat × Value)} {rest : List Value} {σ : Sg} {o : Option α} (hw : Cond.fieldLink mi.1 index "PaneOrder$BestOrder" "lowest" "[I" ∈ lwG) (hd : decode mi.2.1 pc = .ok (.getfield index, 3)) (h : RR en Ex mi ev (pc + 3) lv (.ref (ad en 15 1 0) :: rest) σ o) : RR en Ex mi ev pc lv (.ref (ad en 14 0 0) :: rest) σ o :=
  r_get 1 o14 rfl rfl inG0 (by decide) hw rfl hd h
theorem g_X0_most {en : En} {Ex : (Nat → Prop) → State → Prop} {mi : Mi} {α : Type} {ev : α → Option Value × Sg} {pc index : Nat} {lv : List (Nat × Value)} {rest : List Value} {σ : Sg} {o : Option α} (hw : Cond.fieldLink mi.1 index "PaneOrder$BestOrder" "most" "[I" ∈ lwG) (hd : decode mi.2.1 pc = .ok (.getfield index, 3)) (h : RR en Ex mi ev (pc + 3) lv (.ref (ad en 15 0 0) :: rest) σ o) : RR en Ex mi ev pc lv (.ref (ad en 14 0 0) :: rest) σ o :=
  r_get 0 o14 rfl rfl inG0 (by decide) hw rfl hd h
theorem g_X1_first {en : En} {Ex : (Nat → Prop) → State → Prop} {mi : Mi} {α : Type} {ev : α → Option Value × Sg} {pc index : Nat} {lv : List (Nat × Value)} {rest : List Value} {σ : Sg} {o : Option α} {i : Nat} (hi : i < 4) (hw : Cond.fieldLink mi.1 index "PaneOrder$Deeds" "first" "[I" ∈ lwG) (hd : decode mi.2.1 pc = .ok (.getfield index, 3)) (h : RR en Ex mi ev (pc + 3) lv (.ref (ad en 11 i 2) :: rest) σ o) : RR en Ex mi ev pc lv (.ref (ad en 10 i 0) :: rest) σ o :=
  r_get 2 (o10 hi) rfl rfl inG1 (by decide) hw rfl hd h
theorem g_X1_second {en : En} {Ex : (Nat → Prop) → State → Prop} {mi : Mi} {α : Type} {ev : α → Option Value × Sg} {pc index : Nat} {lv : List (Nat × Value)} {rest : List Value} {σ : Sg} {o : Option α} {i : Nat} (hi : i < 4) (hw : Cond.fieldLink mi.1 index "PaneOrder$Deeds" "second" "[I" ∈ lwG) (hd : decode mi.2.1 pc = .ok (.getfield index, 3)) (h : RR en Ex mi ev (pc + 3) lv (.ref (ad en 11 i 3) :: rest) σ o) : RR en Ex mi ev pc lv (.ref (ad en 10 i 0) :: rest) σ o :=
  r_get 3 (o10 hi) rfl rfl inG1 (by decide) hw rfl hd h
theorem g_X1_size {en : En} {Ex : (Nat → Prop) → State → Prop} {mi : Mi} {α : Type} {ev : α → Option Value × Sg} {pc index : Nat} {lv : List (Nat × Value)} {rest : List Value} {σ : Sg} {o : Option α} {i : Nat} (hi : i < 4) (hw : Cond.fieldLink mi.1 index "PaneOrder$Deeds" "size" "I" ∈ lwG) (hd : decode mi.2.1 pc = .ok (.getfield index, 3)) (h : RR en Ex mi ev (pc + 3) lv (.int (rI σ 10 i 0 4) :: rest) σ o) : RR en Ex mi ev pc lv (.ref (ad en 10 i 0) :: rest) σ o :=
  r_get 4 (o10 hi) rfl rfl inG1 (by decide) hw rfl hd h
theorem p_X1_size {en : En} {Ex : (Nat → Prop) → State → Prop} {mi : Mi} {α : Type} {ev : α → Option Value × Sg} {pc index : Nat} {lv : List (Nat × Value)} {rest : List Value} {σ : Sg} {o : Option α} {i : Nat} {x : Int32} (hi : i < 4) (hw : Cond.fieldLink mi.1 index "PaneOrder$Deeds" "size" "I" ∈ lwG) (hd : decode mi.2.1 pc = .ok (.putfield index, 3)) (h : RR en Ex mi ev (pc + 3) lv rest (uI σ 10 i 0 4 x) o) : RR en Ex mi ev pc lv (.int x :: .ref (ad en 10 i 0) :: rest) σ o :=
  r_putI (ty := .int) 4 (o10 hi) rfl rfl inG1 tyX1_ok nmX1 (by decide) hw rfl (by decide +kernel) rfl rfl (Nat.le_of_ble_eq_true rfl) rfl hd h
theorem g_X1_what {en : En} {Ex : (Nat → Prop) → State → Prop} {mi : Mi} {α : Type} {ev : α → Option Value × Sg} {pc index : Nat} {lv : List (Nat × Value)} {rest : List Value} {σ : Sg} {o : Option α} {i : Nat} (hi : i < 4) (hw : Cond.fieldLink mi.1 index "PaneOrder$Deeds" "what" "[I" ∈ lwG) (hd : decode mi.2.1 pc = .ok (.getfield index, 3)) (h : RR en Ex mi ev (pc + 3) lv (.ref (ad en 11 i 0) :: rest) σ o) : RR en Ex mi ev pc lv (.ref (ad en 10 i 0) :: rest) σ o :=
  r_get 0 (o10 hi) rfl rfl inG1 (by decide) hw rfl hd h
theorem g_X1_who {en : En} {Ex : (Nat → Prop) → State → Prop} {mi : Mi} {α : Type} {ev : α → Option Value × Sg} {pc index : Nat} {lv : List (Nat × Value)} {rest : List Value} {σ : Sg} {o : Option α} {i : Nat} (hi : i < 4) (hw : Cond.fieldLink mi.1 index "PaneOrder$Deeds" "who" "[I" ∈ lwG) (hd : decode mi.2.1 pc = .ok (.getfield index, 3)) (h : RR en Ex mi ev (pc + 3) lv (.ref (ad en 11 i 1) :: rest) σ o) : RR en Ex mi ev pc lv (.ref (ad en 10 i 0) :: rest) σ o :=
  r_get 1 (o10 hi) rfl rfl inG1 (by decide) hw rfl hd h
theorem g_X2_high {en : En} {Ex : (Nat → Prop) → State → Prop} {mi : Mi} {α : Type} {ev : α → Option Value × Sg} {pc index : Nat} {lv : List (Nat × Value)} {rest : List Value} {σ : Sg} {o : Option α} {i : Nat} {j : Nat} (hi : i < 5) (hj : j < 7) (hw : Cond.fieldLink mi.1 index "PaneOrder$Pane" "high" "I" ∈ lwG) (hd : decode mi.2.1 pc = .ok (.getfield index, 3)) (h : RR en Ex mi ev (pc + 3) lv (.int (rI σ 9 i j 4) :: rest) σ o) : RR en Ex mi ev pc lv (.ref (ad en 9 i j) :: rest) σ o :=
  r_get 4 (o9 hi hj) rfl rfl inG2 (by decide) hw rfl hd h
theorem p_X2_high {en : En} {Ex : (Nat → Prop) → State → Prop} {mi : Mi} {α : Type} {ev : α → Option Value × Sg} {pc index : Nat} {lv : List (Nat × Value)} {rest : List Value} {σ : Sg} {o : Option α} {i : Nat} {j : Nat} {x : Int32} (hi : i < 5) (hj : j < 7) (hw : Cond.fieldLink mi.1 index "PaneOrder$Pane" "high" "I" ∈ lwG) (hd : decode mi.2.1 pc = .ok (.putfield index, 3)) (h : RR en Ex mi ev (pc + 3) lv rest (uI σ 9 i j 4 x) o) : RR en Ex mi ev pc lv (.int x :: .ref (ad en 9 i j) :: rest) σ o :=
  r_putI (ty := .int) 4 (o9 hi hj) rfl rfl inG2 tyX2_ok nmX2 (by decide) hw rfl (by decide +kernel) rfl rfl (Nat.le_of_ble_eq_true rfl) rfl hd h
theorem g_X2_kind {en : En} {Ex : (Nat → Prop) → State → Prop} {mi : Mi} {α : Type} {ev : α → Option Value × Sg} {pc index : Nat} {lv : List (Nat × Value)} {rest : List Value} {σ : Sg} {o : Option α} {i : Nat} {j : Nat} (hi : i < 5) (hj : j < 7) (hw : Cond.fieldLink mi.1 index "PaneOrder$Pane" "kind" "I" ∈ lwG) (hd : decode mi.2.1 pc = .ok (.getfield index, 3)) (h : RR en Ex mi ev (pc + 3) lv (.int (rI σ 9 i j 0) :: rest) σ o) : RR en Ex mi ev pc lv (.ref (ad en 9 i j) :: rest) σ o :=
  r_get 0 (o9 hi hj) rfl rfl inG2 (by decide) hw rfl hd h
theorem p_X2_kind {en : En} {Ex : (Nat → Prop) → State → Prop} {mi : Mi} {α : Type} {ev : α → Option Value × Sg} {pc index : Nat} {lv : List (Nat × Value)} {rest : List Value} {σ : Sg} {o : Option α} {i : Nat} {j : Nat} {x : Int32} (hi : i < 5) (hj : j < 7) (hw : Cond.fieldLink mi.1 index "PaneOrder$Pane" "kind" "I" ∈ lwG) (hd : decode mi.2.1 pc = .ok (.putfield index, 3)) (h : RR en Ex mi ev (pc + 3) lv rest (uI σ 9 i j 0 x) o) : RR en Ex mi ev pc lv (.int x :: .ref (ad en 9 i j) :: rest) σ o :=
  r_putI (ty := .int) 0 (o9 hi hj) rfl rfl inG2 tyX2_ok nmX2 (by decide) hw rfl (by decide +kernel) rfl rfl (Nat.le_of_ble_eq_true rfl) rfl hd h
theorem g_X2_left {en : En} {Ex : (Nat → Prop) → State → Prop} {mi : Mi} {α : Type} {ev : α → Option Value × Sg} {pc index : Nat} {lv : List (Nat × Value)} {rest : List Value} {σ : Sg} {o : Option α} {i : Nat} {j : Nat} (hi : i < 5) (hj : j < 7) (hw : Cond.fieldLink mi.1 index "PaneOrder$Pane" "left" "I" ∈ lwG) (hd : decode mi.2.1 pc = .ok (.getfield index, 3)) (h : RR en Ex mi ev (pc + 3) lv (.int (rI σ 9 i j 1) :: rest) σ o) : RR en Ex mi ev pc lv (.ref (ad en 9 i j) :: rest) σ o :=
  r_get 1 (o9 hi hj) rfl rfl inG2 (by decide) hw rfl hd h
theorem p_X2_left {en : En} {Ex : (Nat → Prop) → State → Prop} {mi : Mi} {α : Type} {ev : α → Option Value × Sg} {pc index : Nat} {lv : List (Nat × Value)} {rest : List Value} {σ : Sg} {o : Option α} {i : Nat} {j : Nat} {x : Int32} (hi : i < 5) (hj : j < 7) (hw : Cond.fieldLink mi.1 index "PaneOrder$Pane" "left" "I" ∈ lwG) (hd : decode mi.2.1 pc = .ok (.putfield index, 3)) (h : RR en Ex mi ev (pc + 3) lv rest (uI σ 9 i j 1 x) o) : RR en Ex mi ev pc lv (.int x :: .ref (ad en 9 i j) :: rest) σ o :=
  r_putI (ty := .int) 1 (o9 hi hj) rfl rfl inG2 tyX2_ok nmX2 (by decide) hw rfl (by decide +kernel) rfl rfl (Nat.le_of_ble_eq_true rfl) rfl hd h
theorem g_X2_lowerHalf {en : En} {Ex : (Nat → Prop) → State → Prop} {mi : Mi} {α : Type} {ev : α → Option Value × Sg} {pc index : Nat} {lv : List (Nat × Value)} {rest : List Value} {σ : Sg} {o : Option α} {i : Nat} {j : Nat} (hi : i < 5) (hj : j < 7) (hw : Cond.fieldLink mi.1 index "PaneOrder$Pane" "lowerHalf" "J" ∈ lwG) (hd : decode mi.2.1 pc = .ok (.getfield index, 3)) (h : RR en Ex mi ev (pc + 3) lv (.long (rL σ 9 i j 8) :: rest) σ o) : RR en Ex mi ev pc lv (.ref (ad en 9 i j) :: rest) σ o :=
  r_get 8 (o9 hi hj) rfl rfl inG2 (by decide) hw rfl hd h
theorem p_X2_lowerHalf {en : En} {Ex : (Nat → Prop) → State → Prop} {mi : Mi} {α : Type} {ev : α → Option Value × Sg} {pc index : Nat} {lv : List (Nat × Value)} {rest : List Value} {σ : Sg} {o : Option α} {i : Nat} {j : Nat} {x : Int64} (hi : i < 5) (hj : j < 7) (hw : Cond.fieldLink mi.1 index "PaneOrder$Pane" "lowerHalf" "J" ∈ lwG) (hd : decode mi.2.1 pc = .ok (.putfield index, 3)) (h : RR en Ex mi ev (pc + 3) lv rest (uL σ 9 i j 8 x) o) : RR en Ex mi ev pc lv (.long x :: .ref (ad en 9 i j) :: rest) σ o :=
  r_putL 8 (o9 hi hj) rfl rfl inG2 tyX2_ok nmX2 (by decide) hw rfl (by decide +kernel) (Nat.le_of_ble_eq_true rfl) rfl hd h
theorem g_X2_open {en : En} {Ex : (Nat → Prop) → State → Prop} {mi : Mi} {α : Type} {ev : α → Option Value × Sg} {pc index : Nat} {lv : List (Nat × Value)} {rest : List Value} {σ : Sg} {o : Option α} {i : Nat} {j : Nat} (hi : i < 5) (hj : j < 7) (hw : Cond.fieldLink mi.1 index "PaneOrder$Pane" "open" "Z" ∈ lwG) (hd : decode mi.2.1 pc = .ok (.getfield index, 3)) (h : RR en Ex mi ev (pc + 3) lv (.int (nb (rI σ 9 i j 6)) :: rest) σ o) : RR en Ex mi ev pc lv (.ref (ad en 9 i j) :: rest) σ o :=
  r_get 6 (o9 hi hj) rfl rfl inG2 (by decide) hw rfl hd h
theorem p_X2_open {en : En} {Ex : (Nat → Prop) → State → Prop} {mi : Mi} {α : Type} {ev : α → Option Value × Sg} {pc index : Nat} {lv : List (Nat × Value)} {rest : List Value} {σ : Sg} {o : Option α} {i : Nat} {j : Nat} {x : Int32} (hi : i < 5) (hj : j < 7) (hw : Cond.fieldLink mi.1 index "PaneOrder$Pane" "open" "Z" ∈ lwG) (hn : narrow .boolean (.int x) = .int x) (hd : decode mi.2.1 pc = .ok (.putfield index, 3)) (h : RR en Ex mi ev (pc + 3) lv rest (uI σ 9 i j 6 x) o) : RR en Ex mi ev pc lv (.int x :: .ref (ad en 9 i j) :: rest) σ o :=
  r_putI (ty := .boolean) 6 (o9 hi hj) rfl rfl inG2 tyX2_ok nmX2 (by decide) hw rfl (by decide +kernel) hn (z_fits hn) (Nat.le_of_ble_eq_true rfl) (z_cell hn) hd h
theorem g_X2_place {en : En} {Ex : (Nat → Prop) → State → Prop} {mi : Mi} {α : Type} {ev : α → Option Value × Sg} {pc index : Nat} {lv : List (Nat × Value)} {rest : List Value} {σ : Sg} {o : Option α} {i : Nat} {j : Nat} (hi : i < 5) (hj : j < 7) (hw : Cond.fieldLink mi.1 index "PaneOrder$Pane" "place" "I" ∈ lwG) (hd : decode mi.2.1 pc = .ok (.getfield index, 3)) (h : RR en Ex mi ev (pc + 3) lv (.int (rI σ 9 i j 5) :: rest) σ o) : RR en Ex mi ev pc lv (.ref (ad en 9 i j) :: rest) σ o :=
  r_get 5 (o9 hi hj) rfl rfl inG2 (by decide) hw rfl hd h
theorem p_X2_place {en : En} {Ex : (Nat → Prop) → State → Prop} {mi : Mi} {α : Type} {ev : α → Option Value × Sg} {pc index : Nat} {lv : List (Nat × Value)} {rest : List Value} {σ : Sg} {o : Option α} {i : Nat} {j : Nat} {x : Int32} (hi : i < 5) (hj : j < 7) (hw : Cond.fieldLink mi.1 index "PaneOrder$Pane" "place" "I" ∈ lwG) (hd : decode mi.2.1 pc = .ok (.putfield index, 3)) (h : RR en Ex mi ev (pc + 3) lv rest (uI σ 9 i j 5 x) o) : RR en Ex mi ev pc lv (.int x :: .ref (ad en 9 i j) :: rest) σ o :=
  r_putI (ty := .int) 5 (o9 hi hj) rfl rfl inG2 tyX2_ok nmX2 (by decide) hw rfl (by decide +kernel) rfl rfl (Nat.le_of_ble_eq_true rfl) rfl hd h
theorem g_X2_top {en : En} {Ex : (Nat → Prop) → State → Prop} {mi : Mi} {α : Type} {ev : α → Option Value × Sg} {pc index : Nat} {lv : List (Nat × Value)} {rest : List Value} {σ : Sg} {o : Option α} {i : Nat} {j : Nat} (hi : i < 5) (hj : j < 7) (hw : Cond.fieldLink mi.1 index "PaneOrder$Pane" "top" "I" ∈ lwG) (hd : decode mi.2.1 pc = .ok (.getfield index, 3)) (h : RR en Ex mi ev (pc + 3) lv (.int (rI σ 9 i j 2) :: rest) σ o) : RR en Ex mi ev pc lv (.ref (ad en 9 i j) :: rest) σ o :=
  r_get 2 (o9 hi hj) rfl rfl inG2 (by decide) hw rfl hd h
theorem p_X2_top {en : En} {Ex : (Nat → Prop) → State → Prop} {mi : Mi} {α : Type} {ev : α → Option Value × Sg} {pc index : Nat} {lv : List (Nat × Value)} {rest : List Value} {σ : Sg} {o : Option α} {i : Nat} {j : Nat} {x : Int32} (hi : i < 5) (hj : j < 7) (hw : Cond.fieldLink mi.1 index "PaneOrder$Pane" "top" "I" ∈ lwG) (hd : decode mi.2.1 pc = .ok (.putfield index, 3)) (h : RR en Ex mi ev (pc + 3) lv rest (uI σ 9 i j 2 x) o) : RR en Ex mi ev pc lv (.int x :: .ref (ad en 9 i j) :: rest) σ o :=
  r_putI (ty := .int) 2 (o9 hi hj) rfl rfl inG2 tyX2_ok nmX2 (by decide) hw rfl (by decide +kernel) rfl rfl (Nat.le_of_ble_eq_true rfl) rfl hd h
theorem g_X2_upperHalf {en : En} {Ex : (Nat → Prop) → State → Prop} {mi : Mi} {α : Type} {ev : α → Option Value × Sg} {pc index : Nat} {lv : List (Nat × Value)} {rest : List Value} {σ : Sg} {o : Option α} {i : Nat} {j : Nat} (hi : i < 5) (hj : j < 7) (hw : Cond.fieldLink mi.1 index "PaneOrder$Pane" "upperHalf" "J" ∈ lwG) (hd : decode mi.2.1 pc = .ok (.getfield index, 3)) (h : RR en Ex mi ev (pc + 3) lv (.long (rL σ 9 i j 7) :: rest) σ o) : RR en Ex mi ev pc lv (.ref (ad en 9 i j) :: rest) σ o :=
  r_get 7 (o9 hi hj) rfl rfl inG2 (by decide) hw rfl hd h
theorem p_X2_upperHalf {en : En} {Ex : (Nat → Prop) → State → Prop} {mi : Mi} {α : Type} {ev : α → Option Value × Sg} {pc index : Nat} {lv : List (Nat × Value)} {rest : List Value} {σ : Sg} {o : Option α} {i : Nat} {j : Nat} {x : Int64} (hi : i < 5) (hj : j < 7) (hw : Cond.fieldLink mi.1 index "PaneOrder$Pane" "upperHalf" "J" ∈ lwG) (hd : decode mi.2.1 pc = .ok (.putfield index, 3)) (h : RR en Ex mi ev (pc + 3) lv rest (uL σ 9 i j 7 x) o) : RR en Ex mi ev pc lv (.long x :: .ref (ad en 9 i j) :: rest) σ o :=
  r_putL 7 (o9 hi hj) rfl rfl inG2 tyX2_ok nmX2 (by decide) hw rfl (by decide +kernel) (Nat.le_of_ble_eq_true rfl) rfl hd h
theorem g_X2_wide {en : En} {Ex : (Nat → Prop) → State → Prop} {mi : Mi} {α : Type} {ev : α → Option Value × Sg} {pc index : Nat} {lv : List (Nat × Value)} {rest : List Value} {σ : Sg} {o : Option α} {i : Nat} {j : Nat} (hi : i < 5) (hj : j < 7) (hw : Cond.fieldLink mi.1 index "PaneOrder$Pane" "wide" "I" ∈ lwG) (hd : decode mi.2.1 pc = .ok (.getfield index, 3)) (h : RR en Ex mi ev (pc + 3) lv (.int (rI σ 9 i j 3) :: rest) σ o) : RR en Ex mi ev pc lv (.ref (ad en 9 i j) :: rest) σ o :=
  r_get 3 (o9 hi hj) rfl rfl inG2 (by decide) hw rfl hd h
theorem p_X2_wide {en : En} {Ex : (Nat → Prop) → State → Prop} {mi : Mi} {α : Type} {ev : α → Option Value × Sg} {pc index : Nat} {lv : List (Nat × Value)} {rest : List Value} {σ : Sg} {o : Option α} {i : Nat} {j : Nat} {x : Int32} (hi : i < 5) (hj : j < 7) (hw : Cond.fieldLink mi.1 index "PaneOrder$Pane" "wide" "I" ∈ lwG) (hd : decode mi.2.1 pc = .ok (.putfield index, 3)) (h : RR en Ex mi ev (pc + 3) lv rest (uI σ 9 i j 3 x) o) : RR en Ex mi ev pc lv (.int x :: .ref (ad en 9 i j) :: rest) σ o :=
  r_putI (ty := .int) 3 (o9 hi hj) rfl rfl inG2 tyX2_ok nmX2 (by decide) hw rfl (by decide +kernel) rfl rfl (Nat.le_of_ble_eq_true rfl) rfl hd h
theorem g_X3_ints {en : En} {Ex : (Nat → Prop) → State → Prop} {mi : Mi} {α : Type} {ev : α → Option Value × Sg} {pc index : Nat} {lv : List (Nat × Value)} {rest : List Value} {σ : Sg} {o : Option α} {i : Nat} (hi : i < 6) (hw : Cond.fieldLink mi.1 index "PaneOrder$Row" "ints" "[I" ∈ lwG) (hd : decode mi.2.1 pc = .ok (.getfield index, 3)) (h : RR en Ex mi ev (pc + 3) lv (.ref (ad en 3 i 0) :: rest) σ o) : RR en Ex mi ev pc lv (.ref (ad en 2 i 0) :: rest) σ o :=
  r_get 0 (o2 hi) rfl rfl inG3 (by decide) hw rfl hd h
theorem g_X3_size {en : En} {Ex : (Nat → Prop) → State → Prop} {mi : Mi} {α : Type} {ev : α → Option Value × Sg} {pc index : Nat} {lv : List (Nat × Value)} {rest : List Value} {σ : Sg} {o : Option α} {i : Nat} (hi : i < 6) (hw : Cond.fieldLink mi.1 index "PaneOrder$Row" "size" "I" ∈ lwG) (hd : decode mi.2.1 pc = .ok (.getfield index, 3)) (h : RR en Ex mi ev (pc + 3) lv (.int (rI σ 2 i 0 1) :: rest) σ o) : RR en Ex mi ev pc lv (.ref (ad en 2 i 0) :: rest) σ o :=
  r_get 1 (o2 hi) rfl rfl inG3 (by decide) hw rfl hd h
theorem p_X3_size {en : En} {Ex : (Nat → Prop) → State → Prop} {mi : Mi} {α : Type} {ev : α → Option Value × Sg} {pc index : Nat} {lv : List (Nat × Value)} {rest : List Value} {σ : Sg} {o : Option α} {i : Nat} {x : Int32} (hi : i < 6) (hw : Cond.fieldLink mi.1 index "PaneOrder$Row" "size" "I" ∈ lwG) (hd : decode mi.2.1 pc = .ok (.putfield index, 3)) (h : RR en Ex mi ev (pc + 3) lv rest (uI σ 2 i 0 1 x) o) : RR en Ex mi ev pc lv (.int x :: .ref (ad en 2 i 0) :: rest) σ o :=
  r_putI (ty := .int) 1 (o2 hi) rfl rfl inG3 tyX3_ok nmX3 (by decide) hw rfl (by decide +kernel) rfl rfl (Nat.le_of_ble_eq_true rfl) rfl hd h
theorem g_X4_panes {en : En} {Ex : (Nat → Prop) → State → Prop} {mi : Mi} {α : Type} {ev : α → Option Value × Sg} {pc index : Nat} {lv : List (Nat × Value)} {rest : List Value} {σ : Sg} {o : Option α} {i : Nat} (hi : i < 5) (hw : Cond.fieldLink mi.1 index "PaneOrder$Screen" "panes" "[LPaneOrder$Pane;" ∈ lwG) (hd : decode mi.2.1 pc = .ok (.getfield index, 3)) (h : RR en Ex mi ev (pc + 3) lv (.ref (ad en 8 i 0) :: rest) σ o) : RR en Ex mi ev pc lv (.ref (ad en 7 i 0) :: rest) σ o :=
  r_get 0 (o7 hi) rfl rfl inG4 (by decide) hw rfl hd h
theorem g_X4_size {en : En} {Ex : (Nat → Prop) → State → Prop} {mi : Mi} {α : Type} {ev : α → Option Value × Sg} {pc index : Nat} {lv : List (Nat × Value)} {rest : List Value} {σ : Sg} {o : Option α} {i : Nat} (hi : i < 5) (hw : Cond.fieldLink mi.1 index "PaneOrder$Screen" "size" "I" ∈ lwG) (hd : decode mi.2.1 pc = .ok (.getfield index, 3)) (h : RR en Ex mi ev (pc + 3) lv (.int (rI σ 7 i 0 1) :: rest) σ o) : RR en Ex mi ev pc lv (.ref (ad en 7 i 0) :: rest) σ o :=
  r_get 1 (o7 hi) rfl rfl inG4 (by decide) hw rfl hd h
theorem p_X4_size {en : En} {Ex : (Nat → Prop) → State → Prop} {mi : Mi} {α : Type} {ev : α → Option Value × Sg} {pc index : Nat} {lv : List (Nat × Value)} {rest : List Value} {σ : Sg} {o : Option α} {i : Nat} {x : Int32} (hi : i < 5) (hw : Cond.fieldLink mi.1 index "PaneOrder$Screen" "size" "I" ∈ lwG) (hd : decode mi.2.1 pc = .ok (.putfield index, 3)) (h : RR en Ex mi ev (pc + 3) lv rest (uI σ 7 i 0 1 x) o) : RR en Ex mi ev pc lv (.int x :: .ref (ad en 7 i 0) :: rest) σ o :=
  r_putI (ty := .int) 1 (o7 hi) rfl rfl inG4 tyX4_ok nmX4 (by decide) hw rfl (by decide +kernel) rfl rfl (Nat.le_of_ble_eq_true rfl) rfl hd h
theorem g_X5_bytes {en : En} {Ex : (Nat → Prop) → State → Prop} {mi : Mi} {α : Type} {ev : α → Option Value × Sg} {pc index : Nat} {lv : List (Nat × Value)} {rest : List Value} {σ : Sg} {o : Option α} {i : Nat} (hi : i < 4) (hw : Cond.fieldLink mi.1 index "PaneOrder$Text" "bytes" "[B" ∈ lwG) (hd : decode mi.2.1 pc = .ok (.getfield index, 3)) (h : RR en Ex mi ev (pc + 3) lv (.ref (ad en 6 i 0) :: rest) σ o) : RR en Ex mi ev pc lv (.ref (ad en 5 i 0) :: rest) σ o :=
  r_get 0 (o5 hi) rfl rfl inG5 (by decide) hw rfl hd h
theorem g_X5_size {en : En} {Ex : (Nat → Prop) → State → Prop} {mi : Mi} {α : Type} {ev : α → Option Value × Sg} {pc index : Nat} {lv : List (Nat × Value)} {rest : List Value} {σ : Sg} {o : Option α} {i : Nat} (hi : i < 4) (hw : Cond.fieldLink mi.1 index "PaneOrder$Text" "size" "I" ∈ lwG) (hd : decode mi.2.1 pc = .ok (.getfield index, 3)) (h : RR en Ex mi ev (pc + 3) lv (.int (rI σ 5 i 0 1) :: rest) σ o) : RR en Ex mi ev pc lv (.ref (ad en 5 i 0) :: rest) σ o :=
  r_get 1 (o5 hi) rfl rfl inG5 (by decide) hw rfl hd h
theorem p_X5_size {en : En} {Ex : (Nat → Prop) → State → Prop} {mi : Mi} {α : Type} {ev : α → Option Value × Sg} {pc index : Nat} {lv : List (Nat × Value)} {rest : List Value} {σ : Sg} {o : Option α} {i : Nat} {x : Int32} (hi : i < 4) (hw : Cond.fieldLink mi.1 index "PaneOrder$Text" "size" "I" ∈ lwG) (hd : decode mi.2.1 pc = .ok (.putfield index, 3)) (h : RR en Ex mi ev (pc + 3) lv rest (uI σ 5 i 0 1 x) o) : RR en Ex mi ev pc lv (.int x :: .ref (ad en 5 i 0) :: rest) σ o :=
  r_putI (ty := .int) 1 (o5 hi) rfl rfl inG5 tyX5_ok nmX5 (by decide) hw rfl (by decide +kernel) rfl rfl (Nat.le_of_ble_eq_true rfl) rfl hd h
theorem g_X6_cells {en : En} {Ex : (Nat → Prop) → State → Prop} {mi : Mi} {α : Type} {ev : α → Option Value × Sg} {pc index : Nat} {lv : List (Nat × Value)} {rest : List Value} {σ : Sg} {o : Option α} (hw : Cond.fieldLink mi.1 index "PaneOrder$Turns" "cells" "[I" ∈ lwG) (hd : decode mi.2.1 pc = .ok (.getfield index, 3)) (h : RR en Ex mi ev (pc + 3) lv (.ref (ad en 17 0 0) :: rest) σ o) : RR en Ex mi ev pc lv (.ref (ad en 16 0 0) :: rest) σ o :=
  r_get 0 o16 rfl rfl inG6 (by decide) hw rfl hd h
theorem g_X7_aside {en : En} {Ex : (Nat → Prop) → State → Prop} {mi : Mi} {α : Type} {ev : α → Option Value × Sg} {pc index : Nat} {lv : List (Nat × Value)} {rest : List Value} {σ : Sg} {o : Option α} (hw : Cond.fieldLink mi.1 index "PaneOrder" "aside" "LPaneOrder$Screen;" ∈ lwG) (hd : decode mi.2.1 pc = .ok (.getfield index, 3)) (h : RR en Ex mi ev (pc + 3) lv (.ref (ad en 7 1 0) :: rest) σ o) : RR en Ex mi ev pc lv (.ref (ad en 0 0 0) :: rest) σ o :=
  r_get 6 o0 rfl rfl inG7 (by decide) hw rfl hd h
theorem g_X7_bestOrder {en : En} {Ex : (Nat → Prop) → State → Prop} {mi : Mi} {α : Type} {ev : α → Option Value × Sg} {pc index : Nat} {lv : List (Nat × Value)} {rest : List Value} {σ : Sg} {o : Option α} (hw : Cond.fieldLink mi.1 index "PaneOrder" "bestOrder" "LPaneOrder$BestOrder;" ∈ lwG) (hd : decode mi.2.1 pc = .ok (.getfield index, 3)) (h : RR en Ex mi ev (pc + 3) lv (.ref (ad en 14 0 0) :: rest) σ o) : RR en Ex mi ev pc lv (.ref (ad en 0 0 0) :: rest) σ o :=
  r_get 7 o0 rfl rfl inG7 (by decide) hw rfl hd h
theorem g_X7_deeds {en : En} {Ex : (Nat → Prop) → State → Prop} {mi : Mi} {α : Type} {ev : α → Option Value × Sg} {pc index : Nat} {lv : List (Nat × Value)} {rest : List Value} {σ : Sg} {o : Option α} (hw : Cond.fieldLink mi.1 index "PaneOrder" "deeds" "LPaneOrder$Deeds;" ∈ lwG) (hd : decode mi.2.1 pc = .ok (.getfield index, 3)) (h : RR en Ex mi ev (pc + 3) lv (.ref (ad en 10 0 0) :: rest) σ o) : RR en Ex mi ev pc lv (.ref (ad en 0 0 0) :: rest) σ o :=
  r_get 3 o0 rfl rfl inG7 (by decide) hw rfl hd h
theorem g_X7_foundTimes {en : En} {Ex : (Nat → Prop) → State → Prop} {mi : Mi} {α : Type} {ev : α → Option Value × Sg} {pc index : Nat} {lv : List (Nat × Value)} {rest : List Value} {σ : Sg} {o : Option α} (hw : Cond.fieldLink mi.1 index "PaneOrder" "foundTimes" "[I" ∈ lwG) (hd : decode mi.2.1 pc = .ok (.getfield index, 3)) (h : RR en Ex mi ev (pc + 3) lv (.ref (ad en 20 0 0) :: rest) σ o) : RR en Ex mi ev pc lv (.ref (ad en 0 0 0) :: rest) σ o :=
  r_get 10 o0 rfl rfl inG7 (by decide) hw rfl hd h
theorem g_X7_keptDeeds {en : En} {Ex : (Nat → Prop) → State → Prop} {mi : Mi} {α : Type} {ev : α → Option Value × Sg} {pc index : Nat} {lv : List (Nat × Value)} {rest : List Value} {σ : Sg} {o : Option α} (hw : Cond.fieldLink mi.1 index "PaneOrder" "keptDeeds" "[LPaneOrder$Deeds;" ∈ lwG) (hd : decode mi.2.1 pc = .ok (.getfield index, 3)) (h : RR en Ex mi ev (pc + 3) lv (.ref (ad en 13 0 0) :: rest) σ o) : RR en Ex mi ev pc lv (.ref (ad en 0 0 0) :: rest) σ o :=
  r_get 5 o0 rfl rfl inG7 (by decide) hw rfl hd h
theorem g_X7_keptScreens {en : En} {Ex : (Nat → Prop) → State → Prop} {mi : Mi} {α : Type} {ev : α → Option Value × Sg} {pc index : Nat} {lv : List (Nat × Value)} {rest : List Value} {σ : Sg} {o : Option α} (hw : Cond.fieldLink mi.1 index "PaneOrder" "keptScreens" "[LPaneOrder$Screen;" ∈ lwG) (hd : decode mi.2.1 pc = .ok (.getfield index, 3)) (h : RR en Ex mi ev (pc + 3) lv (.ref (ad en 12 0 0) :: rest) σ o) : RR en Ex mi ev pc lv (.ref (ad en 0 0 0) :: rest) σ o :=
  r_get 4 o0 rfl rfl inG7 (by decide) hw rfl hd h
theorem g_X7_latestFinding {en : En} {Ex : (Nat → Prop) → State → Prop} {mi : Mi} {α : Type} {ev : α → Option Value × Sg} {pc index : Nat} {lv : List (Nat × Value)} {rest : List Value} {σ : Sg} {o : Option α} (hw : Cond.fieldLink mi.1 index "PaneOrder" "latestFinding" "I" ∈ lwG) (hd : decode mi.2.1 pc = .ok (.getfield index, 3)) (h : RR en Ex mi ev (pc + 3) lv (.int (rI σ 0 0 0 11) :: rest) σ o) : RR en Ex mi ev pc lv (.ref (ad en 0 0 0) :: rest) σ o :=
  r_get 11 o0 rfl rfl inG7 (by decide) hw rfl hd h
theorem p_X7_latestFinding {en : En} {Ex : (Nat → Prop) → State → Prop} {mi : Mi} {α : Type} {ev : α → Option Value × Sg} {pc index : Nat} {lv : List (Nat × Value)} {rest : List Value} {σ : Sg} {o : Option α} {x : Int32} (hw : Cond.fieldLink mi.1 index "PaneOrder" "latestFinding" "I" ∈ lwG) (hd : decode mi.2.1 pc = .ok (.putfield index, 3)) (h : RR en Ex mi ev (pc + 3) lv rest (uI σ 0 0 0 11 x) o) : RR en Ex mi ev pc lv (.int x :: .ref (ad en 0 0 0) :: rest) σ o :=
  r_putI (ty := .int) 11 o0 rfl rfl inG7 tyX7_ok nmX7 (by decide) hw rfl (by decide +kernel) rfl rfl (Nat.le_of_ble_eq_true rfl) rfl hd h
theorem g_X7_lowerNumber {en : En} {Ex : (Nat → Prop) → State → Prop} {mi : Mi} {α : Type} {ev : α → Option Value × Sg} {pc index : Nat} {lv : List (Nat × Value)} {rest : List Value} {σ : Sg} {o : Option α} (hw : Cond.fieldLink mi.1 index "PaneOrder" "lowerNumber" "J" ∈ lwG) (hd : decode mi.2.1 pc = .ok (.getfield index, 3)) (h : RR en Ex mi ev (pc + 3) lv (.long (rL σ 0 0 0 14) :: rest) σ o) : RR en Ex mi ev pc lv (.ref (ad en 0 0 0) :: rest) σ o :=
  r_get 14 o0 rfl rfl inG7 (by decide) hw rfl hd h
theorem p_X7_lowerNumber {en : En} {Ex : (Nat → Prop) → State → Prop} {mi : Mi} {α : Type} {ev : α → Option Value × Sg} {pc index : Nat} {lv : List (Nat × Value)} {rest : List Value} {σ : Sg} {o : Option α} {x : Int64} (hw : Cond.fieldLink mi.1 index "PaneOrder" "lowerNumber" "J" ∈ lwG) (hd : decode mi.2.1 pc = .ok (.putfield index, 3)) (h : RR en Ex mi ev (pc + 3) lv rest (uL σ 0 0 0 14 x) o) : RR en Ex mi ev pc lv (.long x :: .ref (ad en 0 0 0) :: rest) σ o :=
  r_putL 14 o0 rfl rfl inG7 tyX7_ok nmX7 (by decide) hw rfl (by decide +kernel) (Nat.le_of_ble_eq_true rfl) rfl hd h
theorem g_X7_parts {en : En} {Ex : (Nat → Prop) → State → Prop} {mi : Mi} {α : Type} {ev : α → Option Value × Sg} {pc index : Nat} {lv : List (Nat × Value)} {rest : List Value} {σ : Sg} {o : Option α} (hw : Cond.fieldLink mi.1 index "PaneOrder" "parts" "[[I" ∈ lwG) (hd : decode mi.2.1 pc = .ok (.getfield index, 3)) (h : RR en Ex mi ev (pc + 3) lv (.ref (ad en 18 0 0) :: rest) σ o) : RR en Ex mi ev pc lv (.ref (ad en 0 0 0) :: rest) σ o :=
  r_get 9 o0 rfl rfl inG7 (by decide) hw rfl hd h
theorem g_X7_rows {en : En} {Ex : (Nat → Prop) → State → Prop} {mi : Mi} {α : Type} {ev : α → Option Value × Sg} {pc index : Nat} {lv : List (Nat × Value)} {rest : List Value} {σ : Sg} {o : Option α} (hw : Cond.fieldLink mi.1 index "PaneOrder" "rows" "[LPaneOrder$Row;" ∈ lwG) (hd : decode mi.2.1 pc = .ok (.getfield index, 3)) (h : RR en Ex mi ev (pc + 3) lv (.ref (ad en 1 0 0) :: rest) σ o) : RR en Ex mi ev pc lv (.ref (ad en 0 0 0) :: rest) σ o :=
  r_get 0 o0 rfl rfl inG7 (by decide) hw rfl hd h
theorem g_X7_screen {en : En} {Ex : (Nat → Prop) → State → Prop} {mi : Mi} {α : Type} {ev : α → Option Value × Sg} {pc index : Nat} {lv : List (Nat × Value)} {rest : List Value} {σ : Sg} {o : Option α} (hw : Cond.fieldLink mi.1 index "PaneOrder" "screen" "LPaneOrder$Screen;" ∈ lwG) (hd : decode mi.2.1 pc = .ok (.getfield index, 3)) (h : RR en Ex mi ev (pc + 3) lv (.ref (ad en 7 0 0) :: rest) σ o) : RR en Ex mi ev pc lv (.ref (ad en 0 0 0) :: rest) σ o :=
  r_get 2 o0 rfl rfl inG7 (by decide) hw rfl hd h
theorem g_X7_texts {en : En} {Ex : (Nat → Prop) → State → Prop} {mi : Mi} {α : Type} {ev : α → Option Value × Sg} {pc index : Nat} {lv : List (Nat × Value)} {rest : List Value} {σ : Sg} {o : Option α} (hw : Cond.fieldLink mi.1 index "PaneOrder" "texts" "[LPaneOrder$Text;" ∈ lwG) (hd : decode mi.2.1 pc = .ok (.getfield index, 3)) (h : RR en Ex mi ev (pc + 3) lv (.ref (ad en 4 0 0) :: rest) σ o) : RR en Ex mi ev pc lv (.ref (ad en 0 0 0) :: rest) σ o :=
  r_get 1 o0 rfl rfl inG7 (by decide) hw rfl hd h
theorem g_X7_told {en : En} {Ex : (Nat → Prop) → State → Prop} {mi : Mi} {α : Type} {ev : α → Option Value × Sg} {pc index : Nat} {lv : List (Nat × Value)} {rest : List Value} {σ : Sg} {o : Option α} (hw : Cond.fieldLink mi.1 index "PaneOrder" "told" "I" ∈ lwG) (hd : decode mi.2.1 pc = .ok (.getfield index, 3)) (h : RR en Ex mi ev (pc + 3) lv (.int (rI σ 0 0 0 12) :: rest) σ o) : RR en Ex mi ev pc lv (.ref (ad en 0 0 0) :: rest) σ o :=
  r_get 12 o0 rfl rfl inG7 (by decide) hw rfl hd h
theorem p_X7_told {en : En} {Ex : (Nat → Prop) → State → Prop} {mi : Mi} {α : Type} {ev : α → Option Value × Sg} {pc index : Nat} {lv : List (Nat × Value)} {rest : List Value} {σ : Sg} {o : Option α} {x : Int32} (hw : Cond.fieldLink mi.1 index "PaneOrder" "told" "I" ∈ lwG) (hd : decode mi.2.1 pc = .ok (.putfield index, 3)) (h : RR en Ex mi ev (pc + 3) lv rest (uI σ 0 0 0 12 x) o) : RR en Ex mi ev pc lv (.int x :: .ref (ad en 0 0 0) :: rest) σ o :=
  r_putI (ty := .int) 12 o0 rfl rfl inG7 tyX7_ok nmX7 (by decide) hw rfl (by decide +kernel) rfl rfl (Nat.le_of_ble_eq_true rfl) rfl hd h
theorem g_X7_turns {en : En} {Ex : (Nat → Prop) → State → Prop} {mi : Mi} {α : Type} {ev : α → Option Value × Sg} {pc index : Nat} {lv : List (Nat × Value)} {rest : List Value} {σ : Sg} {o : Option α} (hw : Cond.fieldLink mi.1 index "PaneOrder" "turns" "LPaneOrder$Turns;" ∈ lwG) (hd : decode mi.2.1 pc = .ok (.getfield index, 3)) (h : RR en Ex mi ev (pc + 3) lv (.ref (ad en 16 0 0) :: rest) σ o) : RR en Ex mi ev pc lv (.ref (ad en 0 0 0) :: rest) σ o :=
  r_get 8 o0 rfl rfl inG7 (by decide) hw rfl hd h
theorem g_X7_upperNumber {en : En} {Ex : (Nat → Prop) → State → Prop} {mi : Mi} {α : Type} {ev : α → Option Value × Sg} {pc index : Nat} {lv : List (Nat × Value)} {rest : List Value} {σ : Sg} {o : Option α} (hw : Cond.fieldLink mi.1 index "PaneOrder" "upperNumber" "J" ∈ lwG) (hd : decode mi.2.1 pc = .ok (.getfield index, 3)) (h : RR en Ex mi ev (pc + 3) lv (.long (rL σ 0 0 0 13) :: rest) σ o) : RR en Ex mi ev pc lv (.ref (ad en 0 0 0) :: rest) σ o :=
  r_get 13 o0 rfl rfl inG7 (by decide) hw rfl hd h
theorem p_X7_upperNumber {en : En} {Ex : (Nat → Prop) → State → Prop} {mi : Mi} {α : Type} {ev : α → Option Value × Sg} {pc index : Nat} {lv : List (Nat × Value)} {rest : List Value} {σ : Sg} {o : Option α} {x : Int64} (hw : Cond.fieldLink mi.1 index "PaneOrder" "upperNumber" "J" ∈ lwG) (hd : decode mi.2.1 pc = .ok (.putfield index, 3)) (h : RR en Ex mi ev (pc + 3) lv rest (uL σ 0 0 0 13 x) o) : RR en Ex mi ev pc lv (.long x :: .ref (ad en 0 0 0) :: rest) σ o :=
  r_putL 13 o0 rfl rfl inG7 tyX7_ok nmX7 (by decide) hw rfl (by decide +kernel) (Nat.le_of_ble_eq_true rfl) rfl hd h
theorem g_X8_above {en : En} {Ex : (Nat → Prop) → State → Prop} {mi : Mi} {α : Type} {ev : α → Option Value × Sg} {pc index : Nat} {lv : List (Nat × Value)} {rest : List Value} {σ : Sg} {o : Option α} (hw : Cond.fieldLink mi.1 index "PaneOrderModel" "above" "J" ∈ lwG) (hd : decode mi.2.1 pc = .ok (.getfield index, 3)) (h : RR en Ex mi ev (pc + 3) lv (.long (rL σ 21 0 0 2) :: rest) σ o) : RR en Ex mi ev pc lv (.ref (ad en 21 0 0) :: rest) σ o :=
  r_get 2 o21 rfl rfl inG8 (by decide) hw rfl hd h
theorem p_X8_above {en : En} {Ex : (Nat → Prop) → State → Prop} {mi : Mi} {α : Type} {ev : α → Option Value × Sg} {pc index : Nat} {lv : List (Nat × Value)} {rest : List Value} {σ : Sg} {o : Option α} {x : Int64} (hw : Cond.fieldLink mi.1 index "PaneOrderModel" "above" "J" ∈ lwG) (hd : decode mi.2.1 pc = .ok (.putfield index, 3)) (h : RR en Ex mi ev (pc + 3) lv rest (uL σ 21 0 0 2 x) o) : RR en Ex mi ev pc lv (.long x :: .ref (ad en 21 0 0) :: rest) σ o :=
  r_putL 2 o21 rfl rfl inG8 tyX8_ok nmX8 (by decide) hw rfl (by decide +kernel) (Nat.le_of_ble_eq_true rfl) rfl hd h
theorem g_X8_ahead {en : En} {Ex : (Nat → Prop) → State → Prop} {mi : Mi} {α : Type} {ev : α → Option Value × Sg} {pc index : Nat} {lv : List (Nat × Value)} {rest : List Value} {σ : Sg} {o : Option α} (hw : Cond.fieldLink mi.1 index "PaneOrderModel" "ahead" "[I" ∈ lwG) (hd : decode mi.2.1 pc = .ok (.getfield index, 3)) (h : RR en Ex mi ev (pc + 3) lv (.ref (ad en 22 15 0) :: rest) σ o) : RR en Ex mi ev pc lv (.ref (ad en 21 0 0) :: rest) σ o :=
  r_get 15 o21 rfl rfl inG8 (by decide) hw rfl hd h
theorem g_X8_askedLast {en : En} {Ex : (Nat → Prop) → State → Prop} {mi : Mi} {α : Type} {ev : α → Option Value × Sg} {pc index : Nat} {lv : List (Nat × Value)} {rest : List Value} {σ : Sg} {o : Option α} (hw : Cond.fieldLink mi.1 index "PaneOrderModel" "askedLast" "I" ∈ lwG) (hd : decode mi.2.1 pc = .ok (.getfield index, 3)) (h : RR en Ex mi ev (pc + 3) lv (.int (rI σ 21 0 0 1) :: rest) σ o) : RR en Ex mi ev pc lv (.ref (ad en 21 0 0) :: rest) σ o :=
  r_get 1 o21 rfl rfl inG8 (by decide) hw rfl hd h
theorem p_X8_askedLast {en : En} {Ex : (Nat → Prop) → State → Prop} {mi : Mi} {α : Type} {ev : α → Option Value × Sg} {pc index : Nat} {lv : List (Nat × Value)} {rest : List Value} {σ : Sg} {o : Option α} {x : Int32} (hw : Cond.fieldLink mi.1 index "PaneOrderModel" "askedLast" "I" ∈ lwG) (hd : decode mi.2.1 pc = .ok (.putfield index, 3)) (h : RR en Ex mi ev (pc + 3) lv rest (uI σ 21 0 0 1 x) o) : RR en Ex mi ev pc lv (.int x :: .ref (ad en 21 0 0) :: rest) σ o :=
  r_putI (ty := .int) 1 o21 rfl rfl inG8 tyX8_ok nmX8 (by decide) hw rfl (by decide +kernel) rfl rfl (Nat.le_of_ble_eq_true rfl) rfl hd h
theorem g_X8_below {en : En} {Ex : (Nat → Prop) → State → Prop} {mi : Mi} {α : Type} {ev : α → Option Value × Sg} {pc index : Nat} {lv : List (Nat × Value)} {rest : List Value} {σ : Sg} {o : Option α} (hw : Cond.fieldLink mi.1 index "PaneOrderModel" "below" "J" ∈ lwG) (hd : decode mi.2.1 pc = .ok (.getfield index, 3)) (h : RR en Ex mi ev (pc + 3) lv (.long (rL σ 21 0 0 3) :: rest) σ o) : RR en Ex mi ev pc lv (.ref (ad en 21 0 0) :: rest) σ o :=
  r_get 3 o21 rfl rfl inG8 (by decide) hw rfl hd h
theorem p_X8_below {en : En} {Ex : (Nat → Prop) → State → Prop} {mi : Mi} {α : Type} {ev : α → Option Value × Sg} {pc index : Nat} {lv : List (Nat × Value)} {rest : List Value} {σ : Sg} {o : Option α} {x : Int64} (hw : Cond.fieldLink mi.1 index "PaneOrderModel" "below" "J" ∈ lwG) (hd : decode mi.2.1 pc = .ok (.putfield index, 3)) (h : RR en Ex mi ev (pc + 3) lv rest (uL σ 21 0 0 3 x) o) : RR en Ex mi ev pc lv (.long x :: .ref (ad en 21 0 0) :: rest) σ o :=
  r_putL 3 o21 rfl rfl inG8 tyX8_ok nmX8 (by decide) hw rfl (by decide +kernel) (Nat.le_of_ble_eq_true rfl) rfl hd h
theorem g_X8_byteSize {en : En} {Ex : (Nat → Prop) → State → Prop} {mi : Mi} {α : Type} {ev : α → Option Value × Sg} {pc index : Nat} {lv : List (Nat × Value)} {rest : List Value} {σ : Sg} {o : Option α} (hw : Cond.fieldLink mi.1 index "PaneOrderModel" "byteSize" "[I" ∈ lwG) (hd : decode mi.2.1 pc = .ok (.getfield index, 3)) (h : RR en Ex mi ev (pc + 3) lv (.ref (ad en 22 9 0) :: rest) σ o) : RR en Ex mi ev pc lv (.ref (ad en 21 0 0) :: rest) σ o :=
  r_get 9 o21 rfl rfl inG8 (by decide) hw rfl hd h
theorem g_X8_bytes {en : En} {Ex : (Nat → Prop) → State → Prop} {mi : Mi} {α : Type} {ev : α → Option Value × Sg} {pc index : Nat} {lv : List (Nat × Value)} {rest : List Value} {σ : Sg} {o : Option α} (hw : Cond.fieldLink mi.1 index "PaneOrderModel" "bytes" "[I" ∈ lwG) (hd : decode mi.2.1 pc = .ok (.getfield index, 3)) (h : RR en Ex mi ev (pc + 3) lv (.ref (ad en 22 8 0) :: rest) σ o) : RR en Ex mi ev pc lv (.ref (ad en 21 0 0) :: rest) σ o :=
  r_get 8 o21 rfl rfl inG8 (by decide) hw rfl hd h
theorem g_X8_coverHigh {en : En} {Ex : (Nat → Prop) → State → Prop} {mi : Mi} {α : Type} {ev : α → Option Value × Sg} {pc index : Nat} {lv : List (Nat × Value)} {rest : List Value} {σ : Sg} {o : Option α} (hw : Cond.fieldLink mi.1 index "PaneOrderModel" "coverHigh" "[J" ∈ lwG) (hd : decode mi.2.1 pc = .ok (.getfield index, 3)) (h : RR en Ex mi ev (pc + 3) lv (.ref (ad en 23 23 0) :: rest) σ o) : RR en Ex mi ev pc lv (.ref (ad en 21 0 0) :: rest) σ o :=
  r_get 23 o21 rfl rfl inG8 (by decide) hw rfl hd h
theorem g_X8_coverLow {en : En} {Ex : (Nat → Prop) → State → Prop} {mi : Mi} {α : Type} {ev : α → Option Value × Sg} {pc index : Nat} {lv : List (Nat × Value)} {rest : List Value} {σ : Sg} {o : Option α} (hw : Cond.fieldLink mi.1 index "PaneOrderModel" "coverLow" "[J" ∈ lwG) (hd : decode mi.2.1 pc = .ok (.getfield index, 3)) (h : RR en Ex mi ev (pc + 3) lv (.ref (ad en 23 22 0) :: rest) σ o) : RR en Ex mi ev pc lv (.ref (ad en 21 0 0) :: rest) σ o :=
  r_get 22 o21 rfl rfl inG8 (by decide) hw rfl hd h
theorem g_X8_deeds {en : En} {Ex : (Nat → Prop) → State → Prop} {mi : Mi} {α : Type} {ev : α → Option Value × Sg} {pc index : Nat} {lv : List (Nat × Value)} {rest : List Value} {σ : Sg} {o : Option α} (hw : Cond.fieldLink mi.1 index "PaneOrderModel" "deeds" "I" ∈ lwG) (hd : decode mi.2.1 pc = .ok (.getfield index, 3)) (h : RR en Ex mi ev (pc + 3) lv (.int (rI σ 21 0 0 16) :: rest) σ o) : RR en Ex mi ev pc lv (.ref (ad en 21 0 0) :: rest) σ o :=
  r_get 16 o21 rfl rfl inG8 (by decide) hw rfl hd h
theorem p_X8_deeds {en : En} {Ex : (Nat → Prop) → State → Prop} {mi : Mi} {α : Type} {ev : α → Option Value × Sg} {pc index : Nat} {lv : List (Nat × Value)} {rest : List Value} {σ : Sg} {o : Option α} {x : Int32} (hw : Cond.fieldLink mi.1 index "PaneOrderModel" "deeds" "I" ∈ lwG) (hd : decode mi.2.1 pc = .ok (.putfield index, 3)) (h : RR en Ex mi ev (pc + 3) lv rest (uI σ 21 0 0 16 x) o) : RR en Ex mi ev pc lv (.int x :: .ref (ad en 21 0 0) :: rest) σ o :=
  r_putI (ty := .int) 16 o21 rfl rfl inG8 tyX8_ok nmX8 (by decide) hw rfl (by decide +kernel) rfl rfl (Nat.le_of_ble_eq_true rfl) rfl hd h
theorem g_X8_faultAt {en : En} {Ex : (Nat → Prop) → State → Prop} {mi : Mi} {α : Type} {ev : α → Option Value × Sg} {pc index : Nat} {lv : List (Nat × Value)} {rest : List Value} {σ : Sg} {o : Option α} (hw : Cond.fieldLink mi.1 index "PaneOrderModel" "faultAt" "I" ∈ lwG) (hd : decode mi.2.1 pc = .ok (.getfield index, 3)) (h : RR en Ex mi ev (pc + 3) lv (.int (rI σ 21 0 0 29) :: rest) σ o) : RR en Ex mi ev pc lv (.ref (ad en 21 0 0) :: rest) σ o :=
  r_get 29 o21 rfl rfl inG8 (by decide) hw rfl hd h
theorem p_X8_faultAt {en : En} {Ex : (Nat → Prop) → State → Prop} {mi : Mi} {α : Type} {ev : α → Option Value × Sg} {pc index : Nat} {lv : List (Nat × Value)} {rest : List Value} {σ : Sg} {o : Option α} {x : Int32} (hw : Cond.fieldLink mi.1 index "PaneOrderModel" "faultAt" "I" ∈ lwG) (hd : decode mi.2.1 pc = .ok (.putfield index, 3)) (h : RR en Ex mi ev (pc + 3) lv rest (uI σ 21 0 0 29 x) o) : RR en Ex mi ev pc lv (.int x :: .ref (ad en 21 0 0) :: rest) σ o :=
  r_putI (ty := .int) 29 o21 rfl rfl inG8 tyX8_ok nmX8 (by decide) hw rfl (by decide +kernel) rfl rfl (Nat.le_of_ble_eq_true rfl) rfl hd h
theorem g_X8_findingLast {en : En} {Ex : (Nat → Prop) → State → Prop} {mi : Mi} {α : Type} {ev : α → Option Value × Sg} {pc index : Nat} {lv : List (Nat × Value)} {rest : List Value} {σ : Sg} {o : Option α} (hw : Cond.fieldLink mi.1 index "PaneOrderModel" "findingLast" "I" ∈ lwG) (hd : decode mi.2.1 pc = .ok (.getfield index, 3)) (h : RR en Ex mi ev (pc + 3) lv (.int (rI σ 21 0 0 4) :: rest) σ o) : RR en Ex mi ev pc lv (.ref (ad en 21 0 0) :: rest) σ o :=
  r_get 4 o21 rfl rfl inG8 (by decide) hw rfl hd h
theorem p_X8_findingLast {en : En} {Ex : (Nat → Prop) → State → Prop} {mi : Mi} {α : Type} {ev : α → Option Value × Sg} {pc index : Nat} {lv : List (Nat × Value)} {rest : List Value} {σ : Sg} {o : Option α} {x : Int32} (hw : Cond.fieldLink mi.1 index "PaneOrderModel" "findingLast" "I" ∈ lwG) (hd : decode mi.2.1 pc = .ok (.putfield index, 3)) (h : RR en Ex mi ev (pc + 3) lv rest (uI σ 21 0 0 4 x) o) : RR en Ex mi ev pc lv (.int x :: .ref (ad en 21 0 0) :: rest) σ o :=
  r_putI (ty := .int) 4 o21 rfl rfl inG8 tyX8_ok nmX8 (by decide) hw rfl (by decide +kernel) rfl rfl (Nat.le_of_ble_eq_true rfl) rfl hd h
theorem g_X8_findingMany {en : En} {Ex : (Nat → Prop) → State → Prop} {mi : Mi} {α : Type} {ev : α → Option Value × Sg} {pc index : Nat} {lv : List (Nat × Value)} {rest : List Value} {σ : Sg} {o : Option α} (hw : Cond.fieldLink mi.1 index "PaneOrderModel" "findingMany" "[I" ∈ lwG) (hd : decode mi.2.1 pc = .ok (.getfield index, 3)) (h : RR en Ex mi ev (pc + 3) lv (.ref (ad en 22 5 0) :: rest) σ o) : RR en Ex mi ev pc lv (.ref (ad en 21 0 0) :: rest) σ o :=
  r_get 5 o21 rfl rfl inG8 (by decide) hw rfl hd h
theorem g_X8_high {en : En} {Ex : (Nat → Prop) → State → Prop} {mi : Mi} {α : Type} {ev : α → Option Value × Sg} {pc index : Nat} {lv : List (Nat × Value)} {rest : List Value} {σ : Sg} {o : Option α} (hw : Cond.fieldLink mi.1 index "PaneOrderModel" "high" "[I" ∈ lwG) (hd : decode mi.2.1 pc = .ok (.getfield index, 3)) (h : RR en Ex mi ev (pc + 3) lv (.ref (ad en 22 13 0) :: rest) σ o) : RR en Ex mi ev pc lv (.ref (ad en 21 0 0) :: rest) σ o :=
  r_get 13 o21 rfl rfl inG8 (by decide) hw rfl hd h
theorem g_X8_kept {en : En} {Ex : (Nat → Prop) → State → Prop} {mi : Mi} {α : Type} {ev : α → Option Value × Sg} {pc index : Nat} {lv : List (Nat × Value)} {rest : List Value} {σ : Sg} {o : Option α} (hw : Cond.fieldLink mi.1 index "PaneOrderModel" "kept" "[I" ∈ lwG) (hd : decode mi.2.1 pc = .ok (.getfield index, 3)) (h : RR en Ex mi ev (pc + 3) lv (.ref (ad en 22 17 0) :: rest) σ o) : RR en Ex mi ev pc lv (.ref (ad en 21 0 0) :: rest) σ o :=
  r_get 17 o21 rfl rfl inG8 (by decide) hw rfl hd h
theorem g_X8_keptAhead {en : En} {Ex : (Nat → Prop) → State → Prop} {mi : Mi} {α : Type} {ev : α → Option Value × Sg} {pc index : Nat} {lv : List (Nat × Value)} {rest : List Value} {σ : Sg} {o : Option α} (hw : Cond.fieldLink mi.1 index "PaneOrderModel" "keptAhead" "[I" ∈ lwG) (hd : decode mi.2.1 pc = .ok (.getfield index, 3)) (h : RR en Ex mi ev (pc + 3) lv (.ref (ad en 22 18 0) :: rest) σ o) : RR en Ex mi ev pc lv (.ref (ad en 21 0 0) :: rest) σ o :=
  r_get 18 o21 rfl rfl inG8 (by decide) hw rfl hd h
theorem g_X8_keptDeeds {en : En} {Ex : (Nat → Prop) → State → Prop} {mi : Mi} {α : Type} {ev : α → Option Value × Sg} {pc index : Nat} {lv : List (Nat × Value)} {rest : List Value} {σ : Sg} {o : Option α} (hw : Cond.fieldLink mi.1 index "PaneOrderModel" "keptDeeds" "[I" ∈ lwG) (hd : decode mi.2.1 pc = .ok (.getfield index, 3)) (h : RR en Ex mi ev (pc + 3) lv (.ref (ad en 22 19 0) :: rest) σ o) : RR en Ex mi ev pc lv (.ref (ad en 21 0 0) :: rest) σ o :=
  r_get 19 o21 rfl rfl inG8 (by decide) hw rfl hd h
theorem g_X8_kind {en : En} {Ex : (Nat → Prop) → State → Prop} {mi : Mi} {α : Type} {ev : α → Option Value × Sg} {pc index : Nat} {lv : List (Nat × Value)} {rest : List Value} {σ : Sg} {o : Option α} (hw : Cond.fieldLink mi.1 index "PaneOrderModel" "kind" "[I" ∈ lwG) (hd : decode mi.2.1 pc = .ok (.getfield index, 3)) (h : RR en Ex mi ev (pc + 3) lv (.ref (ad en 22 11 0) :: rest) σ o) : RR en Ex mi ev pc lv (.ref (ad en 21 0 0) :: rest) σ o :=
  r_get 11 o21 rfl rfl inG8 (by decide) hw rfl hd h
theorem g_X8_kindIf {en : En} {Ex : (Nat → Prop) → State → Prop} {mi : Mi} {α : Type} {ev : α → Option Value × Sg} {pc index : Nat} {lv : List (Nat × Value)} {rest : List Value} {σ : Sg} {o : Option α} (hw : Cond.fieldLink mi.1 index "PaneOrderModel" "kindIf" "[I" ∈ lwG) (hd : decode mi.2.1 pc = .ok (.getfield index, 3)) (h : RR en Ex mi ev (pc + 3) lv (.ref (ad en 22 20 0) :: rest) σ o) : RR en Ex mi ev pc lv (.ref (ad en 21 0 0) :: rest) σ o :=
  r_get 20 o21 rfl rfl inG8 (by decide) hw rfl hd h
theorem g_X8_manyTold {en : En} {Ex : (Nat → Prop) → State → Prop} {mi : Mi} {α : Type} {ev : α → Option Value × Sg} {pc index : Nat} {lv : List (Nat × Value)} {rest : List Value} {σ : Sg} {o : Option α} (hw : Cond.fieldLink mi.1 index "PaneOrderModel" "manyTold" "I" ∈ lwG) (hd : decode mi.2.1 pc = .ok (.getfield index, 3)) (h : RR en Ex mi ev (pc + 3) lv (.int (rI σ 21 0 0 30) :: rest) σ o) : RR en Ex mi ev pc lv (.ref (ad en 21 0 0) :: rest) σ o :=
  r_get 30 o21 rfl rfl inG8 (by decide) hw rfl hd h
theorem p_X8_manyTold {en : En} {Ex : (Nat → Prop) → State → Prop} {mi : Mi} {α : Type} {ev : α → Option Value × Sg} {pc index : Nat} {lv : List (Nat × Value)} {rest : List Value} {σ : Sg} {o : Option α} {x : Int32} (hw : Cond.fieldLink mi.1 index "PaneOrderModel" "manyTold" "I" ∈ lwG) (hd : decode mi.2.1 pc = .ok (.putfield index, 3)) (h : RR en Ex mi ev (pc + 3) lv rest (uI σ 21 0 0 30 x) o) : RR en Ex mi ev pc lv (.int x :: .ref (ad en 21 0 0) :: rest) σ o :=
  r_putI (ty := .int) 30 o21 rfl rfl inG8 tyX8_ok nmX8 (by decide) hw rfl (by decide +kernel) rfl rfl (Nat.le_of_ble_eq_true rfl) rfl hd h
theorem g_X8_of {en : En} {Ex : (Nat → Prop) → State → Prop} {mi : Mi} {α : Type} {ev : α → Option Value × Sg} {pc index : Nat} {lv : List (Nat × Value)} {rest : List Value} {σ : Sg} {o : Option α} (hw : Cond.fieldLink mi.1 index "PaneOrderModel" "of" "I" ∈ lwG) (hd : decode mi.2.1 pc = .ok (.getfield index, 3)) (h : RR en Ex mi ev (pc + 3) lv (.int (rI σ 21 0 0 28) :: rest) σ o) : RR en Ex mi ev pc lv (.ref (ad en 21 0 0) :: rest) σ o :=
  r_get 28 o21 rfl rfl inG8 (by decide) hw rfl hd h
theorem p_X8_of {en : En} {Ex : (Nat → Prop) → State → Prop} {mi : Mi} {α : Type} {ev : α → Option Value × Sg} {pc index : Nat} {lv : List (Nat × Value)} {rest : List Value} {σ : Sg} {o : Option α} {x : Int32} (hw : Cond.fieldLink mi.1 index "PaneOrderModel" "of" "I" ∈ lwG) (hd : decode mi.2.1 pc = .ok (.putfield index, 3)) (h : RR en Ex mi ev (pc + 3) lv rest (uI σ 21 0 0 28 x) o) : RR en Ex mi ev pc lv (.int x :: .ref (ad en 21 0 0) :: rest) σ o :=
  r_putI (ty := .int) 28 o21 rfl rfl inG8 tyX8_ok nmX8 (by decide) hw rfl (by decide +kernel) rfl rfl (Nat.le_of_ble_eq_true rfl) rfl hd h
theorem g_X8_panes {en : En} {Ex : (Nat → Prop) → State → Prop} {mi : Mi} {α : Type} {ev : α → Option Value × Sg} {pc index : Nat} {lv : List (Nat × Value)} {rest : List Value} {σ : Sg} {o : Option α} (hw : Cond.fieldLink mi.1 index "PaneOrderModel" "panes" "I" ∈ lwG) (hd : decode mi.2.1 pc = .ok (.getfield index, 3)) (h : RR en Ex mi ev (pc + 3) lv (.int (rI σ 21 0 0 10) :: rest) σ o) : RR en Ex mi ev pc lv (.ref (ad en 21 0 0) :: rest) σ o :=
  r_get 10 o21 rfl rfl inG8 (by decide) hw rfl hd h
theorem p_X8_panes {en : En} {Ex : (Nat → Prop) → State → Prop} {mi : Mi} {α : Type} {ev : α → Option Value × Sg} {pc index : Nat} {lv : List (Nat × Value)} {rest : List Value} {σ : Sg} {o : Option α} {x : Int32} (hw : Cond.fieldLink mi.1 index "PaneOrderModel" "panes" "I" ∈ lwG) (hd : decode mi.2.1 pc = .ok (.putfield index, 3)) (h : RR en Ex mi ev (pc + 3) lv rest (uI σ 21 0 0 10 x) o) : RR en Ex mi ev pc lv (.int x :: .ref (ad en 21 0 0) :: rest) σ o :=
  r_putI (ty := .int) 10 o21 rfl rfl inG8 tyX8_ok nmX8 (by decide) hw rfl (by decide +kernel) rfl rfl (Nat.le_of_ble_eq_true rfl) rfl hd h
theorem g_X8_place {en : En} {Ex : (Nat → Prop) → State → Prop} {mi : Mi} {α : Type} {ev : α → Option Value × Sg} {pc index : Nat} {lv : List (Nat × Value)} {rest : List Value} {σ : Sg} {o : Option α} (hw : Cond.fieldLink mi.1 index "PaneOrderModel" "place" "I" ∈ lwG) (hd : decode mi.2.1 pc = .ok (.getfield index, 3)) (h : RR en Ex mi ev (pc + 3) lv (.int (rI σ 21 0 0 27) :: rest) σ o) : RR en Ex mi ev pc lv (.ref (ad en 21 0 0) :: rest) σ o :=
  r_get 27 o21 rfl rfl inG8 (by decide) hw rfl hd h
theorem p_X8_place {en : En} {Ex : (Nat → Prop) → State → Prop} {mi : Mi} {α : Type} {ev : α → Option Value × Sg} {pc index : Nat} {lv : List (Nat × Value)} {rest : List Value} {σ : Sg} {o : Option α} {x : Int32} (hw : Cond.fieldLink mi.1 index "PaneOrderModel" "place" "I" ∈ lwG) (hd : decode mi.2.1 pc = .ok (.putfield index, 3)) (h : RR en Ex mi ev (pc + 3) lv rest (uI σ 21 0 0 27 x) o) : RR en Ex mi ev pc lv (.int x :: .ref (ad en 21 0 0) :: rest) σ o :=
  r_putI (ty := .int) 27 o21 rfl rfl inG8 tyX8_ok nmX8 (by decide) hw rfl (by decide +kernel) rfl rfl (Nat.le_of_ble_eq_true rfl) rfl hd h
theorem g_X8_rowSize {en : En} {Ex : (Nat → Prop) → State → Prop} {mi : Mi} {α : Type} {ev : α → Option Value × Sg} {pc index : Nat} {lv : List (Nat × Value)} {rest : List Value} {σ : Sg} {o : Option α} (hw : Cond.fieldLink mi.1 index "PaneOrderModel" "rowSize" "[I" ∈ lwG) (hd : decode mi.2.1 pc = .ok (.getfield index, 3)) (h : RR en Ex mi ev (pc + 3) lv (.ref (ad en 22 7 0) :: rest) σ o) : RR en Ex mi ev pc lv (.ref (ad en 21 0 0) :: rest) σ o :=
  r_get 7 o21 rfl rfl inG8 (by decide) hw rfl hd h
theorem g_X8_rows {en : En} {Ex : (Nat → Prop) → State → Prop} {mi : Mi} {α : Type} {ev : α → Option Value × Sg} {pc index : Nat} {lv : List (Nat × Value)} {rest : List Value} {σ : Sg} {o : Option α} (hw : Cond.fieldLink mi.1 index "PaneOrderModel" "rows" "[I" ∈ lwG) (hd : decode mi.2.1 pc = .ok (.getfield index, 3)) (h : RR en Ex mi ev (pc + 3) lv (.ref (ad en 22 6 0) :: rest) σ o) : RR en Ex mi ev pc lv (.ref (ad en 21 0 0) :: rest) σ o :=
  r_get 6 o21 rfl rfl inG8 (by decide) hw rfl hd h
theorem g_X8_s {en : En} {Ex : (Nat → Prop) → State → Prop} {mi : Mi} {α : Type} {ev : α → Option Value × Sg} {pc index : Nat} {lv : List (Nat × Value)} {rest : List Value} {σ : Sg} {o : Option α} (hw : Cond.fieldLink mi.1 index "PaneOrderModel" "s" "[I" ∈ lwG) (hd : decode mi.2.1 pc = .ok (.getfield index, 3)) (h : RR en Ex mi ev (pc + 3) lv (.ref (ad en 22 14 0) :: rest) σ o) : RR en Ex mi ev pc lv (.ref (ad en 21 0 0) :: rest) σ o :=
  r_get 14 o21 rfl rfl inG8 (by decide) hw rfl hd h
theorem g_X8_seenHigh {en : En} {Ex : (Nat → Prop) → State → Prop} {mi : Mi} {α : Type} {ev : α → Option Value × Sg} {pc index : Nat} {lv : List (Nat × Value)} {rest : List Value} {σ : Sg} {o : Option α} (hw : Cond.fieldLink mi.1 index "PaneOrderModel" "seenHigh" "[J" ∈ lwG) (hd : decode mi.2.1 pc = .ok (.getfield index, 3)) (h : RR en Ex mi ev (pc + 3) lv (.ref (ad en 23 25 0) :: rest) σ o) : RR en Ex mi ev pc lv (.ref (ad en 21 0 0) :: rest) σ o :=
  r_get 25 o21 rfl rfl inG8 (by decide) hw rfl hd h
theorem g_X8_seenLow {en : En} {Ex : (Nat → Prop) → State → Prop} {mi : Mi} {α : Type} {ev : α → Option Value × Sg} {pc index : Nat} {lv : List (Nat × Value)} {rest : List Value} {σ : Sg} {o : Option α} (hw : Cond.fieldLink mi.1 index "PaneOrderModel" "seenLow" "[J" ∈ lwG) (hd : decode mi.2.1 pc = .ok (.getfield index, 3)) (h : RR en Ex mi ev (pc + 3) lv (.ref (ad en 23 24 0) :: rest) σ o) : RR en Ex mi ev pc lv (.ref (ad en 21 0 0) :: rest) σ o :=
  r_get 24 o21 rfl rfl inG8 (by decide) hw rfl hd h
theorem p_X8_thrown {en : En} {Ex : (Nat → Prop) → State → Prop} {mi : Mi} {α : Type} {ev : α → Option Value × Sg} {pc index : Nat} {lv : List (Nat × Value)} {rest : List Value} {σ : Sg} {o : Option α} {x : Int32} (hw : Cond.fieldLink mi.1 index "PaneOrderModel" "thrown" "I" ∈ lwG) (hd : decode mi.2.1 pc = .ok (.putfield index, 3)) (h : RR en Ex mi ev (pc + 3) lv rest (uI σ 21 0 0 0 x) o) : RR en Ex mi ev pc lv (.int x :: .ref (ad en 21 0 0) :: rest) σ o :=
  r_putI (ty := .int) 0 o21 rfl rfl inG8 tyX8_ok nmX8 (by decide) hw rfl (by decide +kernel) rfl rfl (Nat.le_of_ble_eq_true rfl) rfl hd h
theorem g_X8_told {en : En} {Ex : (Nat → Prop) → State → Prop} {mi : Mi} {α : Type} {ev : α → Option Value × Sg} {pc index : Nat} {lv : List (Nat × Value)} {rest : List Value} {σ : Sg} {o : Option α} (hw : Cond.fieldLink mi.1 index "PaneOrderModel" "told" "[I" ∈ lwG) (hd : decode mi.2.1 pc = .ok (.getfield index, 3)) (h : RR en Ex mi ev (pc + 3) lv (.ref (ad en 22 31 0) :: rest) σ o) : RR en Ex mi ev pc lv (.ref (ad en 21 0 0) :: rest) σ o :=
  r_get 31 o21 rfl rfl inG8 (by decide) hw rfl hd h
theorem g_X8_value {en : En} {Ex : (Nat → Prop) → State → Prop} {mi : Mi} {α : Type} {ev : α → Option Value × Sg} {pc index : Nat} {lv : List (Nat × Value)} {rest : List Value} {σ : Sg} {o : Option α} (hw : Cond.fieldLink mi.1 index "PaneOrderModel" "value" "[I" ∈ lwG) (hd : decode mi.2.1 pc = .ok (.getfield index, 3)) (h : RR en Ex mi ev (pc + 3) lv (.ref (ad en 22 26 0) :: rest) σ o) : RR en Ex mi ev pc lv (.ref (ad en 21 0 0) :: rest) σ o :=
  r_get 26 o21 rfl rfl inG8 (by decide) hw rfl hd h
theorem g_X8_w {en : En} {Ex : (Nat → Prop) → State → Prop} {mi : Mi} {α : Type} {ev : α → Option Value × Sg} {pc index : Nat} {lv : List (Nat × Value)} {rest : List Value} {σ : Sg} {o : Option α} (hw : Cond.fieldLink mi.1 index "PaneOrderModel" "w" "[I" ∈ lwG) (hd : decode mi.2.1 pc = .ok (.getfield index, 3)) (h : RR en Ex mi ev (pc + 3) lv (.ref (ad en 22 21 0) :: rest) σ o) : RR en Ex mi ev pc lv (.ref (ad en 21 0 0) :: rest) σ o :=
  r_get 21 o21 rfl rfl inG8 (by decide) hw rfl hd h
theorem g_X8_whoBy {en : En} {Ex : (Nat → Prop) → State → Prop} {mi : Mi} {α : Type} {ev : α → Option Value × Sg} {pc index : Nat} {lv : List (Nat × Value)} {rest : List Value} {σ : Sg} {o : Option α} (hw : Cond.fieldLink mi.1 index "PaneOrderModel" "whoBy" "[I" ∈ lwG) (hd : decode mi.2.1 pc = .ok (.getfield index, 3)) (h : RR en Ex mi ev (pc + 3) lv (.ref (ad en 22 32 0) :: rest) σ o) : RR en Ex mi ev pc lv (.ref (ad en 21 0 0) :: rest) σ o :=
  r_get 32 o21 rfl rfl inG8 (by decide) hw rfl hd h
theorem g_X8_wide {en : En} {Ex : (Nat → Prop) → State → Prop} {mi : Mi} {α : Type} {ev : α → Option Value × Sg} {pc index : Nat} {lv : List (Nat × Value)} {rest : List Value} {σ : Sg} {o : Option α} (hw : Cond.fieldLink mi.1 index "PaneOrderModel" "wide" "[I" ∈ lwG) (hd : decode mi.2.1 pc = .ok (.getfield index, 3)) (h : RR en Ex mi ev (pc + 3) lv (.ref (ad en 22 12 0) :: rest) σ o) : RR en Ex mi ev pc lv (.ref (ad en 21 0 0) :: rest) σ o :=
  r_get 12 o21 rfl rfl inG8 (by decide) hw rfl hd h
