set_option maxHeartbeats 4000000 in
theorem R_X7_asked (en : En) (N : Nat)  (σ : Sg) : RR en ExT mi_X7_asked evI 0 [(0, .ref (ad en 0 0 0))] [] σ (f_X7_asked N σ) := by
  unfold f_X7_asked
  refine r_aload_n (pc := 0) 0 dX7_asked_0 rfl rfl ?_
  refine g_X7_told (pc := 1)  lf_RX7_73 dX7_asked_1 ?_
  exact r_iret (pc := 4) rfl dX7_asked_4
theorem ok_X7_asked : yOk yX7_asked cX7_asked 1 (some .int) := ⟨in_lwG (by decide +kernel) rfl, in_lwG (by decide +kernel) rfl, by decide, by decide, by decide⟩
theorem k_X7_asked {en : En} {Ex : (Nat → Prop) → State → Prop} {mi : Mi} {α : Type} {ev : α → Option Value × Sg} {pc index : Nat} {lv : List (Nat × Value)} {rest : List Value} {σ : Sg} {N : Nat} {k : (Int32 × Sg) → Option α}  (hlink : Cond.methodLink mi.1 index yX7_asked ∈ lwG) (hroom : 1 + 1 ≤ mi.2.2.2.2) (hcat : (rest.map fun v => v.category).sum ≤ 8) (hd : decode mi.2.1 pc = .ok (.invokevirtual index, 3))  (h : ∀ w : Int32 × Sg, f_X7_asked N  σ = some w → RR en Ex mi ev (pc + 3) lv (.int w.1 :: rest) w.2 (k w)) : RR en Ex mi ev pc lv (.ref (ad en 0 0 0) :: rest) σ ((f_X7_asked N  σ).bind k) :=
  r_callV (n := 0) [] ok_X7_asked hlink (in_lwG (by decide +kernel) rfl) (in_lwG (by decide +kernel) rfl) (by decide +kernel) rfl hroom (by decide) o0 rfl rfl hcat (R_X7_asked en N   σ) (Nat.le_of_ble_eq_true rfl) hd h
set_option maxHeartbeats 4000000 in
theorem R_X7_isRow (en : En) (N : Nat) (p0 : Int32)  (σ : Sg) : RR en ExT mi_X7_isRow evI 0 [(0, .int p0)] [] σ (f_X7_isRow N p0 σ) := by
  unfold f_X7_isRow
  refine r_iload_n (pc := 0) 0 dX7_isRow_0 rfl rfl ?_
  refine r_if_lt (pc := 1) 14 dX7_isRow_1 (by decide) (fun h1 => ?_) (fun h1 => ?_)
  · refine r_iconst (pc := 14) dX7_isRow_14 kc_iconst_0 ?_
    exact r_zret (pc := 15) rfl rfl dX7_isRow_15
  · refine r_iload_n (pc := 4) 0 dX7_isRow_4 rfl rfl ?_
    refine r_bipush (pc := 5) dX7_isRow_5 kc_bipush_6 ?_
    refine r_icmp_ge (pc := 7) 14 dX7_isRow_7 (by decide) (fun h2 => ?_) (fun h2 => ?_)
    · refine r_iconst (pc := 14) dX7_isRow_14 kc_iconst_0 ?_
      exact r_zret (pc := 15) rfl rfl dX7_isRow_15
    · refine r_iconst (pc := 10) dX7_isRow_10 kc_iconst_1 ?_
      refine r_goto (pc := 11) 15 dX7_isRow_11 (by decide) ?_
      exact r_zret (pc := 15) rfl rfl dX7_isRow_15
theorem ok_X7_isRow : yOk yX7_isRow cX7_isRow 1 (some .boolean) := ⟨in_lwG (by decide +kernel) rfl, in_lwG (by decide +kernel) rfl, by decide, by decide, by decide⟩
theorem k_X7_isRow {en : En} {Ex : (Nat → Prop) → State → Prop} {mi : Mi} {α : Type} {ev : α → Option Value × Sg} {pc index : Nat} {lv : List (Nat × Value)} {rest : List Value} {σ : Sg} {N : Nat} {k : (Int32 × Sg) → Option α} {p0 : Int32} (hlink : Cond.methodLink mi.1 index yX7_isRow ∈ lwG) (hroom : 1 + 1 ≤ mi.2.2.2.2) (hcat : (rest.map fun v => v.category).sum ≤ 8) (hd : decode mi.2.1 pc = .ok (.invokestatic index, 3))  (h : ∀ w : Int32 × Sg, f_X7_isRow N p0 σ = some w → RR en Ex mi ev (pc + 3) lv (.int w.1 :: rest) w.2 (k w)) : RR en Ex mi ev pc lv (.int p0 :: rest) σ ((f_X7_isRow N p0 σ).bind k) :=
  r_callS (n := 1) [.int p0] ok_X7_isRow hlink (in_lwG (by decide +kernel) rfl) (by decide +kernel) rfl hroom (by decide) hcat (R_X7_isRow en N p0  σ) (Nat.le_of_ble_eq_true rfl) hd h
set_option maxHeartbeats 4000000 in
theorem R_X7_found (en : En) (N : Nat) (p0 : Int32)  (σ : Sg) : RR en ExT mi_X7_found evI 0 [(0, .ref (ad en 0 0 0)), (1, .int p0)] [] σ (f_X7_found N p0 σ) := by
  unfold f_X7_found
  refine r_aload_n (pc := 0) 0 dX7_found_0 rfl rfl ?_
  refine r_iload_n (pc := 1) 1 dX7_found_1 rfl rfl ?_
  refine p_X7_latestFinding (pc := 2)  lf_RX7_69 dX7_found_2 ?_
  refine r_aload_n (pc := 5) 0 dX7_found_5 rfl rfl ?_
  refine g_X7_foundTimes (pc := 6)  lf_RX7_65 dX7_found_6 ?_
  refine r_iload_n (pc := 9) 1 dX7_found_9 rfl rfl ?_
  refine r_dup2 (pc := 10) dX7_found_10 rfl rfl ?_
  refine r_iald (pc := 11) (n := 6) o20 rfl dX7_found_11 (fun h1 => ?_)
  refine r_iconst (pc := 12) dX7_found_12 kc_iconst_1 ?_
  refine r_iadd (pc := 13) dX7_found_13 ?_
  refine r_iast (pc := 14) (n := 6) o20 rfl rfl dX7_found_14 (fun h2 => ?_)
  refine r_bipush (pc := 15) dX7_found_15 kc_bipush_m3 ?_
  exact r_iret (pc := 17) rfl dX7_found_17
theorem ok_X7_found : yOk yX7_found cX7_found 2 (some .int) := ⟨in_lwG (by decide +kernel) rfl, in_lwG (by decide +kernel) rfl, by decide, by decide, by decide⟩
theorem k_X7_found {en : En} {Ex : (Nat → Prop) → State → Prop} {mi : Mi} {α : Type} {ev : α → Option Value × Sg} {pc index : Nat} {lv : List (Nat × Value)} {rest : List Value} {σ : Sg} {N : Nat} {k : (Int32 × Sg) → Option α} {p0 : Int32} (hlink : Cond.methodLink mi.1 index yX7_found ∈ lwG) (hroom : 1 + 1 ≤ mi.2.2.2.2) (hcat : (rest.map fun v => v.category).sum ≤ 8) (hd : decode mi.2.1 pc = .ok (.invokevirtual index, 3))  (h : ∀ w : Int32 × Sg, f_X7_found N p0 σ = some w → RR en Ex mi ev (pc + 3) lv (.int w.1 :: rest) w.2 (k w)) : RR en Ex mi ev pc lv (.int p0 :: .ref (ad en 0 0 0) :: rest) σ ((f_X7_found N p0 σ).bind k) :=
  r_callV (n := 1) [.int p0] ok_X7_found hlink (in_lwG (by decide +kernel) rfl) (in_lwG (by decide +kernel) rfl) (by decide +kernel) rfl hroom (by decide) o0 rfl rfl hcat (R_X7_found en N p0  σ) (Nat.le_of_ble_eq_true rfl) hd h
set_option maxHeartbeats 4000000 in
theorem R_X7_refusalOfPlace (en : En) (N : Nat) (p0 : Int32) (p1 : Int32)  (σ : Sg) : RR en ExT mi_X7_refusalOfPlace evI 0 [(0, .ref (ad en 0 0 0)), (1, .int p0), (2, .int p1)] [] σ (f_X7_refusalOfPlace N p0 p1 σ) := by
  unfold f_X7_refusalOfPlace
  refine r_iload_n (pc := 0) 1 dX7_refusalOfPlace_0 rfl rfl ?_
  refine k_X7_isRow (pc := 1) lm_RX7_88  (by decide) (Nat.le_of_ble_eq_true rfl) dX7_refusalOfPlace_1 (fun w1 h1 => ?_)
  refine r_if_ne (pc := 4) 9 dX7_refusalOfPlace_4 (by decide) (fun h2 => ?_) (fun h2 => ?_)
  · refine r_iconst (pc := 7) dX7_refusalOfPlace_7 kc_iconst_m1 ?_
    exact r_iret (pc := 8) rfl dX7_refusalOfPlace_8
  · refine r_aload_n (pc := 9) 0 dX7_refusalOfPlace_9 rfl rfl ?_
    refine g_X7_rows (pc := 10)  lf_RX7_11 dX7_refusalOfPlace_10 ?_
    refine r_iload_n (pc := 13) 1 dX7_refusalOfPlace_13 rfl rfl ?_
    refine r_aald (pc := 14) (n := 6) (k := 3) o1 rfl rfl rfl dX7_refusalOfPlace_14 (fun h3 => ?_)
    refine g_X3_size (pc := 15) (ib_lt h3) lf_RX7_107 dX7_refusalOfPlace_15 ?_
    refine r_iconst (pc := 18) dX7_refusalOfPlace_18 kc_iconst_m1 ?_
    refine r_icmp_ne (pc := 19) 28 dX7_refusalOfPlace_19 (by decide) (fun h4 => ?_) (fun h4 => ?_)
    · refine r_aload_n (pc := 22) 0 dX7_refusalOfPlace_22 rfl rfl ?_
      refine r_iconst (pc := 23) dX7_refusalOfPlace_23 kc_iconst_1 ?_
      refine k_X7_found (pc := 24) lm_RX7_92  (by decide) (Nat.le_of_ble_eq_true rfl) dX7_refusalOfPlace_24 (fun w2 h5 => ?_)
      exact r_iret (pc := 27) rfl dX7_refusalOfPlace_27
    · refine r_aload_n (pc := 28) 0 dX7_refusalOfPlace_28 rfl rfl ?_
      refine g_X7_rows (pc := 29)  lf_RX7_11 dX7_refusalOfPlace_29 ?_
      refine r_iload_n (pc := 32) 1 dX7_refusalOfPlace_32 rfl rfl ?_
      refine r_aald (pc := 33) (n := 6) (k := 3) o1 rfl rfl rfl dX7_refusalOfPlace_33 (fun h6 => ?_)
      refine r_iload_n (pc := 34) 2 dX7_refusalOfPlace_34 rfl rfl ?_
      refine r_iconst (pc := 35) dX7_refusalOfPlace_35 kc_iconst_1 ?_
      refine k_X3_hasPlaces (pc := 36) lm_RX7_108  (by decide) (Nat.le_of_ble_eq_true rfl) dX7_refusalOfPlace_36 (ib_lt h6) (fun w3 h7 => ?_)
      refine r_if_eq (pc := 39) 46 dX7_refusalOfPlace_39 (by decide) (fun h8 => ?_) (fun h8 => ?_)
      · refine r_aload_n (pc := 46) 0 dX7_refusalOfPlace_46 rfl rfl ?_
        refine r_iconst (pc := 47) dX7_refusalOfPlace_47 kc_iconst_2 ?_
        refine k_X7_found (pc := 48) lm_RX7_92  (by decide) (Nat.le_of_ble_eq_true rfl) dX7_refusalOfPlace_48 (fun w4 h9 => ?_)
        exact r_iret (pc := 51) rfl dX7_refusalOfPlace_51
      · refine r_iconst (pc := 42) dX7_refusalOfPlace_42 kc_iconst_0 ?_
        refine r_goto (pc := 43) 51 dX7_refusalOfPlace_43 (by decide) ?_
        exact r_iret (pc := 51) rfl dX7_refusalOfPlace_51
theorem ok_X7_refusalOfPlace : yOk yX7_refusalOfPlace cX7_refusalOfPlace 3 (some .int) := ⟨in_lwG (by decide +kernel) rfl, in_lwG (by decide +kernel) rfl, by decide, by decide, by decide⟩
theorem k_X7_refusalOfPlace {en : En} {Ex : (Nat → Prop) → State → Prop} {mi : Mi} {α : Type} {ev : α → Option Value × Sg} {pc index : Nat} {lv : List (Nat × Value)} {rest : List Value} {σ : Sg} {N : Nat} {k : (Int32 × Sg) → Option α} {p0 : Int32} {p1 : Int32} (hlink : Cond.methodLink mi.1 index yX7_refusalOfPlace ∈ lwG) (hroom : 2 + 1 ≤ mi.2.2.2.2) (hcat : (rest.map fun v => v.category).sum ≤ 8) (hd : decode mi.2.1 pc = .ok (.invokevirtual index, 3))  (h : ∀ w : Int32 × Sg, f_X7_refusalOfPlace N p0 p1 σ = some w → RR en Ex mi ev (pc + 3) lv (.int w.1 :: rest) w.2 (k w)) : RR en Ex mi ev pc lv (.int p1 :: .int p0 :: .ref (ad en 0 0 0) :: rest) σ ((f_X7_refusalOfPlace N p0 p1 σ).bind k) :=
  r_callV (n := 2) [.int p0, .int p1] ok_X7_refusalOfPlace hlink (in_lwG (by decide +kernel) rfl) (in_lwG (by decide +kernel) rfl) (by decide +kernel) rfl hroom (by decide) o0 rfl rfl hcat (R_X7_refusalOfPlace en N p0 p1  σ) (Nat.le_of_ble_eq_true rfl) hd h
set_option maxHeartbeats 4000000 in
theorem R_X7_at (en : En) (N : Nat) (p0 : Int32) (p1 : Int32)  (σ : Sg) : RR en ExT mi_X7_at evI 0 [(0, .ref (ad en 0 0 0)), (1, .int p0), (2, .int p1)] [] σ (f_X7_at N p0 p1 σ) := by
  unfold f_X7_at
  refine r_aload_n (pc := 0) 0 dX7_at_0 rfl rfl ?_
  refine r_iload_n (pc := 1) 1 dX7_at_1 rfl rfl ?_
  refine r_iload_n (pc := 2) 2 dX7_at_2 rfl rfl ?_
  refine k_X7_refusalOfPlace (pc := 3) lm_RX7_100  (by decide) (Nat.le_of_ble_eq_true rfl) dX7_at_3 (fun w1 h1 => ?_)
  refine r_istore_n (pc := 6) [(3, .int w1.1), (0, .ref (ad en 0 0 0)), (1, .int p0), (2, .int p1)] dX7_at_6 rfl (by decide) rfl ?_
  refine r_iload_n (pc := 7) 0 dX7_at_7 rfl rfl ?_
  refine r_if_eq (pc := 8) 13 dX7_at_8 (by decide) (fun h2 => ?_) (fun h2 => ?_)
  · refine r_aload_n (pc := 13) 1 dX7_at_13 rfl rfl ?_
    refine r_aload_n (pc := 14) 1 dX7_at_14 rfl rfl ?_
    refine g_X7_rows (pc := 15)  lf_RX7_11 dX7_at_15 ?_
    refine r_iload_n (pc := 18) 2 dX7_at_18 rfl rfl ?_
    refine r_aald (pc := 19) (n := 6) (k := 3) o1 rfl rfl rfl dX7_at_19 (fun h3 => ?_)
    refine g_X3_ints (pc := 20) (ib_lt h3) lf_RX7_104 dX7_at_20 ?_
    refine r_iload_n (pc := 23) 3 dX7_at_23 rfl rfl ?_
    refine r_iald (pc := 24) (n := 40) (o3 (ib_lt h3)) rfl dX7_at_24 (fun h4 => ?_)
    refine p_X7_told (pc := 25)  lf_RX7_73 dX7_at_25 ?_
    refine r_iconst (pc := 28) dX7_at_28 kc_iconst_1 ?_
    exact r_iret (pc := 29) rfl dX7_at_29
  · refine r_iload_n (pc := 11) 0 dX7_at_11 rfl rfl ?_
    exact r_iret (pc := 12) rfl dX7_at_12
theorem ok_X7_at : yOk yX7_at cX7_at 4 (some .int) := ⟨in_lwG (by decide +kernel) rfl, in_lwG (by decide +kernel) rfl, by decide, by decide, by decide⟩
theorem k_X7_at {en : En} {Ex : (Nat → Prop) → State → Prop} {mi : Mi} {α : Type} {ev : α → Option Value × Sg} {pc index : Nat} {lv : List (Nat × Value)} {rest : List Value} {σ : Sg} {N : Nat} {k : (Int32 × Sg) → Option α} {p0 : Int32} {p1 : Int32} (hlink : Cond.methodLink mi.1 index yX7_at ∈ lwG) (hroom : 3 + 1 ≤ mi.2.2.2.2) (hcat : (rest.map fun v => v.category).sum ≤ 8) (hd : decode mi.2.1 pc = .ok (.invokevirtual index, 3))  (h : ∀ w : Int32 × Sg, f_X7_at N p0 p1 σ = some w → RR en Ex mi ev (pc + 3) lv (.int w.1 :: rest) w.2 (k w)) : RR en Ex mi ev pc lv (.int p1 :: .int p0 :: .ref (ad en 0 0 0) :: rest) σ ((f_X7_at N p0 p1 σ).bind k) :=
  r_callV (n := 2) [.int p0, .int p1] ok_X7_at hlink (in_lwG (by decide +kernel) rfl) (in_lwG (by decide +kernel) rfl) (by decide +kernel) rfl hroom (by decide) o0 rfl rfl hcat (R_X7_at en N p0 p1  σ) (Nat.le_of_ble_eq_true rfl) hd h
set_option maxHeartbeats 4000000 in
theorem R_X7_both (en : En) (N : Nat) (p0 : Int32) (p1 : Int32)  (σ : Sg) : RR en ExT mi_X7_both evI 0 [(0, .ref (ad en 0 0 0)), (1, .int p0), (2, .int p1)] [] σ (f_X7_both N p0 p1 σ) := by
  unfold f_X7_both
  refine r_aload_n (pc := 0) 0 dX7_both_0 rfl rfl ?_
  refine g_X7_screen (pc := 1)  lf_RX7_24 dX7_both_1 ?_
  refine r_iload_n (pc := 4) 1 dX7_both_4 rfl rfl ?_
  refine k_X4_has (pc := 5) lm_RX7_140  (by decide) (Nat.le_of_ble_eq_true rfl) dX7_both_5 (by decide) (fun w1 h1 => ?_)
  refine r_if_eq (pc := 8) 27 dX7_both_8 (by decide) (fun h2 => ?_) (fun h2 => ?_)
  · refine r_iconst (pc := 27) dX7_both_27 kc_iconst_m1 ?_
    exact r_iret (pc := 28) rfl dX7_both_28
  · refine r_aload_n (pc := 11) 0 dX7_both_11 rfl rfl ?_
    refine g_X7_screen (pc := 12)  lf_RX7_24 dX7_both_12 ?_
    refine r_iload_n (pc := 15) 2 dX7_both_15 rfl rfl ?_
    refine k_X4_has (pc := 16) lm_RX7_140  (by decide) (Nat.le_of_ble_eq_true rfl) dX7_both_16 (by decide) (fun w2 h3 => ?_)
    refine r_if_eq (pc := 19) 27 dX7_both_19 (by decide) (fun h4 => ?_) (fun h4 => ?_)
    · refine r_iconst (pc := 27) dX7_both_27 kc_iconst_m1 ?_
      exact r_iret (pc := 28) rfl dX7_both_28
    · refine r_iload_n (pc := 22) 1 dX7_both_22 rfl rfl ?_
      refine r_iload_n (pc := 23) 2 dX7_both_23 rfl rfl ?_
      refine r_icmp_ne (pc := 24) 29 dX7_both_24 (by decide) (fun h5 => ?_) (fun h5 => ?_)
      · refine r_iconst (pc := 27) dX7_both_27 kc_iconst_m1 ?_
        exact r_iret (pc := 28) rfl dX7_both_28
      · refine r_aload_n (pc := 29) 0 dX7_both_29 rfl rfl ?_
        refine g_X7_screen (pc := 30)  lf_RX7_24 dX7_both_30 ?_
        refine g_X4_panes (pc := 33) (by decide) lf_RX7_146 dX7_both_33 ?_
        refine r_iload_n (pc := 36) 1 dX7_both_36 rfl rfl ?_
        refine r_aald (pc := 37) (n := 7) (k := 7) (o8 (by decide)) rfl rfl rfl dX7_both_37 (fun h6 => ?_)
        refine r_astore_n (pc := 38) [(3, .ref (ad en 9 0 p0.toNatClampNeg)), (0, .ref (ad en 0 0 0)), (1, .int p0), (2, .int p1)] dX7_both_38 rfl (by decide) rfl ?_
        refine r_aload_n (pc := 39) 1 dX7_both_39 rfl rfl ?_
        refine g_X7_screen (pc := 40)  lf_RX7_24 dX7_both_40 ?_
        refine g_X4_panes (pc := 43) (by decide) lf_RX7_146 dX7_both_43 ?_
        refine r_iload_n (pc := 46) 3 dX7_both_46 rfl rfl ?_
        refine r_aald (pc := 47) (n := 7) (k := 7) (o8 (by decide)) rfl rfl rfl dX7_both_47 (fun h7 => ?_)
        refine r_astore (pc := 48) [(4, .ref (ad en 9 0 p1.toNatClampNeg)), (3, .ref (ad en 9 0 p0.toNatClampNeg)), (0, .ref (ad en 0 0 0)), (1, .int p0), (2, .int p1)] dX7_both_48 (by decide) rfl ?_
        refine r_aload_n (pc := 50) 2 dX7_both_50 rfl rfl ?_
        refine r_aload_n (pc := 51) 1 dX7_both_51 rfl rfl ?_
        refine k_X2_rank (pc := 52) lm_RX7_234  (by decide) (Nat.le_of_ble_eq_true rfl) dX7_both_52 (by decide) (ib_lt h6) (fun w3 h8 => ?_)
        refine r_aload (pc := 55) 0 dX7_both_55 rfl ?_
        refine k_X2_rank (pc := 57) lm_RX7_234  (by decide) (Nat.le_of_ble_eq_true rfl) dX7_both_57 (by decide) (ib_lt h7) (fun w4 h9 => ?_)
        refine r_icmp_le (pc := 60) 67 dX7_both_60 (by decide) (fun h10 => ?_) (fun h10 => ?_)
        · refine r_iload_n (pc := 67) 4 dX7_both_67 rfl rfl ?_
          refine p_X7_told (pc := 68)  lf_RX7_73 dX7_both_68 ?_
          refine r_aload_n (pc := 71) 1 dX7_both_71 rfl rfl ?_
          refine r_aload (pc := 72) 0 dX7_both_72 rfl ?_
          refine k_X2_cellsShared (pc := 74) lm_RX7_237  (by decide) (Nat.le_of_ble_eq_true rfl) dX7_both_74 (by decide) (ib_lt h6) (by decide) (ib_lt h7) (fun w5 h11 => ?_)
          exact r_iret (pc := 77) rfl dX7_both_77
        · refine r_iload_n (pc := 63) 3 dX7_both_63 rfl rfl ?_
          refine r_goto (pc := 64) 68 dX7_both_64 (by decide) ?_
          refine p_X7_told (pc := 68)  lf_RX7_73 dX7_both_68 ?_
          refine r_aload_n (pc := 71) 1 dX7_both_71 rfl rfl ?_
          refine r_aload (pc := 72) 0 dX7_both_72 rfl ?_
          refine k_X2_cellsShared (pc := 74) lm_RX7_237  (by decide) (Nat.le_of_ble_eq_true rfl) dX7_both_74 (by decide) (ib_lt h6) (by decide) (ib_lt h7) (fun w6 h12 => ?_)
          exact r_iret (pc := 77) rfl dX7_both_77
theorem ok_X7_both : yOk yX7_both cX7_both 5 (some .int) := ⟨in_lwG (by decide +kernel) rfl, in_lwG (by decide +kernel) rfl, by decide, by decide, by decide⟩
theorem k_X7_both {en : En} {Ex : (Nat → Prop) → State → Prop} {mi : Mi} {α : Type} {ev : α → Option Value × Sg} {pc index : Nat} {lv : List (Nat × Value)} {rest : List Value} {σ : Sg} {N : Nat} {k : (Int32 × Sg) → Option α} {p0 : Int32} {p1 : Int32} (hlink : Cond.methodLink mi.1 index yX7_both ∈ lwG) (hroom : 3 + 1 ≤ mi.2.2.2.2) (hcat : (rest.map fun v => v.category).sum ≤ 8) (hd : decode mi.2.1 pc = .ok (.invokevirtual index, 3))  (h : ∀ w : Int32 × Sg, f_X7_both N p0 p1 σ = some w → RR en Ex mi ev (pc + 3) lv (.int w.1 :: rest) w.2 (k w)) : RR en Ex mi ev pc lv (.int p1 :: .int p0 :: .ref (ad en 0 0 0) :: rest) σ ((f_X7_both N p0 p1 σ).bind k) :=
  r_callV (n := 2) [.int p0, .int p1] ok_X7_both hlink (in_lwG (by decide +kernel) rfl) (in_lwG (by decide +kernel) rfl) (by decide +kernel) rfl hroom (by decide) o0 rfl rfl hcat (R_X7_both en N p0 p1  σ) (Nat.le_of_ble_eq_true rfl) hd h
set_option maxHeartbeats 4000000 in
theorem R_X7_buried (en : En) (N : Nat)  (σ : Sg) : RR en ExT mi_X7_buried evI 0 [(0, .ref (ad en 0 0 0))] [] σ (f_X7_buried N σ) := by
  unfold f_X7_buried
  refine r_aload_n (pc := 0) 0 dX7_buried_0 rfl rfl ?_
  refine r_bipush (pc := 1) dX7_buried_1 kc_bipush_96 ?_
  refine r_aload_n (pc := 3) 0 dX7_buried_3 rfl rfl ?_
  refine g_X7_screen (pc := 4)  lf_RX7_24 dX7_buried_4 ?_
  refine k_X4_cellsThatShowOne (pc := 7) lm_RX7_228  (by decide) (Nat.le_of_ble_eq_true rfl) dX7_buried_7 (by decide) (fun w1 h1 => ?_)
  refine r_isub (pc := 10) dX7_buried_10 ?_
  refine p_X7_told (pc := 11)  lf_RX7_73 dX7_buried_11 ?_
  refine r_aload_n (pc := 14) 0 dX7_buried_14 rfl rfl ?_
  refine g_X7_screen (pc := 15)  lf_RX7_24 dX7_buried_15 ?_
  refine k_X4_unseenOpenOnes (pc := 18) lm_RX7_231  (by decide) (Nat.le_of_ble_eq_true rfl) dX7_buried_18 (by decide) (fun w2 h2 => ?_)
  exact r_iret (pc := 21) rfl dX7_buried_21
theorem ok_X7_buried : yOk yX7_buried cX7_buried 1 (some .int) := ⟨in_lwG (by decide +kernel) rfl, in_lwG (by decide +kernel) rfl, by decide, by decide, by decide⟩
theorem k_X7_buried {en : En} {Ex : (Nat → Prop) → State → Prop} {mi : Mi} {α : Type} {ev : α → Option Value × Sg} {pc index : Nat} {lv : List (Nat × Value)} {rest : List Value} {σ : Sg} {N : Nat} {k : (Int32 × Sg) → Option α}  (hlink : Cond.methodLink mi.1 index yX7_buried ∈ lwG) (hroom : 5 + 1 ≤ mi.2.2.2.2) (hcat : (rest.map fun v => v.category).sum ≤ 8) (hd : decode mi.2.1 pc = .ok (.invokevirtual index, 3))  (h : ∀ w : Int32 × Sg, f_X7_buried N  σ = some w → RR en Ex mi ev (pc + 3) lv (.int w.1 :: rest) w.2 (k w)) : RR en Ex mi ev pc lv (.ref (ad en 0 0 0) :: rest) σ ((f_X7_buried N  σ).bind k) :=
  r_callV (n := 0) [] ok_X7_buried hlink (in_lwG (by decide +kernel) rfl) (in_lwG (by decide +kernel) rfl) (by decide +kernel) rfl hroom (by decide) o0 rfl rfl hcat (R_X7_buried en N   σ) (Nat.le_of_ble_eq_true rfl) hd h
set_option maxHeartbeats 4000000 in
theorem R_X7_copy (en : En) (N : Nat) (p0 : Int32) (p1 : Int32) (p2 : Int32) (p3 : Int32) (p4 : Int32)  (σ : Sg) : RR en ExT mi_X7_copy evI 0 [(0, .ref (ad en 0 0 0)), (1, .int p0), (2, .int p1), (3, .int p2), (4, .int p3), (5, .int p4)] [] σ (f_X7_copy N p0 p1 p2 p3 p4 σ) := by
  unfold f_X7_copy
  refine r_iload_n (pc := 0) 1 dX7_copy_0 rfl rfl ?_
  refine k_X7_isRow (pc := 1) lm_RX7_88  (by decide) (Nat.le_of_ble_eq_true rfl) dX7_copy_1 (fun w1 h1 => ?_)
  refine r_if_eq (pc := 4) 14 dX7_copy_4 (by decide) (fun h2 => ?_) (fun h2 => ?_)
  · refine r_iconst (pc := 14) dX7_copy_14 kc_iconst_m1 ?_
    exact r_iret (pc := 15) rfl dX7_copy_15
  · refine r_iload_n (pc := 7) 3 dX7_copy_7 rfl rfl ?_
    refine k_X7_isRow (pc := 8) lm_RX7_88  (by decide) (Nat.le_of_ble_eq_true rfl) dX7_copy_8 (fun w2 h3 => ?_)
    refine r_if_ne (pc := 11) 16 dX7_copy_11 (by decide) (fun h4 => ?_) (fun h4 => ?_)
    · refine r_iconst (pc := 14) dX7_copy_14 kc_iconst_m1 ?_
      exact r_iret (pc := 15) rfl dX7_copy_15
    · refine r_iload (pc := 16) 5 dX7_copy_16 rfl ?_
      refine r_if_ge (pc := 18) 27 dX7_copy_18 (by decide) (fun h5 => ?_) (fun h5 => ?_)
      · refine r_aload_n (pc := 27) 0 dX7_copy_27 rfl rfl ?_
        refine g_X7_rows (pc := 28)  lf_RX7_11 dX7_copy_28 ?_
        refine r_iload_n (pc := 31) 1 dX7_copy_31 rfl rfl ?_
        refine r_aald (pc := 32) (n := 6) (k := 3) o1 rfl rfl rfl dX7_copy_32 (fun h6 => ?_)
        refine g_X3_size (pc := 33) (ib_lt h6) lf_RX7_107 dX7_copy_33 ?_
        refine r_iconst (pc := 36) dX7_copy_36 kc_iconst_m1 ?_
        refine r_icmp_eq (pc := 37) 53 dX7_copy_37 (by decide) (fun h7 => ?_) (fun h7 => ?_)
        · refine r_aload_n (pc := 53) 0 dX7_copy_53 rfl rfl ?_
          refine r_iconst (pc := 54) dX7_copy_54 kc_iconst_1 ?_
          refine k_X7_found (pc := 55) lm_RX7_92  (by decide) (Nat.le_of_ble_eq_true rfl) dX7_copy_55 (fun w3 h8 => ?_)
          exact r_iret (pc := 58) rfl dX7_copy_58
        · refine r_aload_n (pc := 40) 0 dX7_copy_40 rfl rfl ?_
          refine g_X7_rows (pc := 41)  lf_RX7_11 dX7_copy_41 ?_
          refine r_iload_n (pc := 44) 3 dX7_copy_44 rfl rfl ?_
          refine r_aald (pc := 45) (n := 6) (k := 3) o1 rfl rfl rfl dX7_copy_45 (fun h9 => ?_)
          refine g_X3_size (pc := 46) (ib_lt h9) lf_RX7_107 dX7_copy_46 ?_
          refine r_iconst (pc := 49) dX7_copy_49 kc_iconst_m1 ?_
          refine r_icmp_ne (pc := 50) 59 dX7_copy_50 (by decide) (fun h10 => ?_) (fun h10 => ?_)
          · refine r_aload_n (pc := 53) 0 dX7_copy_53 rfl rfl ?_
            refine r_iconst (pc := 54) dX7_copy_54 kc_iconst_1 ?_
            refine k_X7_found (pc := 55) lm_RX7_92  (by decide) (Nat.le_of_ble_eq_true rfl) dX7_copy_55 (fun w4 h11 => ?_)
            exact r_iret (pc := 58) rfl dX7_copy_58
          · refine r_aload_n (pc := 59) 0 dX7_copy_59 rfl rfl ?_
            refine g_X7_rows (pc := 60)  lf_RX7_11 dX7_copy_60 ?_
            refine r_iload_n (pc := 63) 1 dX7_copy_63 rfl rfl ?_
            refine r_aald (pc := 64) (n := 6) (k := 3) o1 rfl rfl rfl dX7_copy_64 (fun h12 => ?_)
            refine r_iload_n (pc := 65) 2 dX7_copy_65 rfl rfl ?_
            refine r_iload (pc := 66) 5 dX7_copy_66 rfl ?_
            refine k_X3_hasPlaces (pc := 68) lm_RX7_108  (by decide) (Nat.le_of_ble_eq_true rfl) dX7_copy_68 (ib_lt h12) (fun w5 h13 => ?_)
            refine r_if_eq (pc := 71) 90 dX7_copy_71 (by decide) (fun h14 => ?_) (fun h14 => ?_)
            · refine r_aload_n (pc := 90) 0 dX7_copy_90 rfl rfl ?_
              refine r_iconst (pc := 91) dX7_copy_91 kc_iconst_2 ?_
              refine k_X7_found (pc := 92) lm_RX7_92  (by decide) (Nat.le_of_ble_eq_true rfl) dX7_copy_92 (fun w6 h15 => ?_)
              exact r_iret (pc := 95) rfl dX7_copy_95
            · refine r_aload_n (pc := 74) 0 dX7_copy_74 rfl rfl ?_
              refine g_X7_rows (pc := 75)  lf_RX7_11 dX7_copy_75 ?_
              refine r_iload_n (pc := 78) 3 dX7_copy_78 rfl rfl ?_
              refine r_aald (pc := 79) (n := 6) (k := 3) o1 rfl rfl rfl dX7_copy_79 (fun h16 => ?_)
              refine r_iload (pc := 80) 4 dX7_copy_80 rfl ?_
              refine r_iload (pc := 82) 5 dX7_copy_82 rfl ?_
              refine k_X3_hasPlaces (pc := 84) lm_RX7_108  (by decide) (Nat.le_of_ble_eq_true rfl) dX7_copy_84 (ib_lt h16) (fun w7 h17 => ?_)
              refine r_if_ne (pc := 87) 96 dX7_copy_87 (by decide) (fun h18 => ?_) (fun h18 => ?_)
              · refine r_aload_n (pc := 90) 0 dX7_copy_90 rfl rfl ?_
                refine r_iconst (pc := 91) dX7_copy_91 kc_iconst_2 ?_
                refine k_X7_found (pc := 92) lm_RX7_92  (by decide) (Nat.le_of_ble_eq_true rfl) dX7_copy_92 (fun w8 h19 => ?_)
                exact r_iret (pc := 95) rfl dX7_copy_95
              · refine r_aload_n (pc := 96) 0 dX7_copy_96 rfl rfl ?_
                refine g_X7_rows (pc := 97)  lf_RX7_11 dX7_copy_97 ?_
                refine r_iload_n (pc := 100) 1 dX7_copy_100 rfl rfl ?_
                refine r_aald (pc := 101) (n := 6) (k := 3) o1 rfl rfl rfl dX7_copy_101 (fun h20 => ?_)
                refine g_X3_ints (pc := 102) (ib_lt h20) lf_RX7_104 dX7_copy_102 ?_
                refine r_iload_n (pc := 105) 2 dX7_copy_105 rfl rfl ?_
                refine r_aload_n (pc := 106) 0 dX7_copy_106 rfl rfl ?_
                refine g_X7_rows (pc := 107)  lf_RX7_11 dX7_copy_107 ?_
                refine r_iload_n (pc := 110) 3 dX7_copy_110 rfl rfl ?_
                refine r_aald (pc := 111) (n := 6) (k := 3) o1 rfl rfl rfl dX7_copy_111 (fun h21 => ?_)
                refine g_X3_ints (pc := 112) (ib_lt h21) lf_RX7_104 dX7_copy_112 ?_
                refine r_iload (pc := 115) 4 dX7_copy_115 rfl ?_
                refine r_iload (pc := 117) 5 dX7_copy_117 rfl ?_
                refine r_copy (pc := 119) (o3 (ib_lt h20)) (o3 (ib_lt h21)) lm_RX7_112 (by decide) (Nat.le_of_ble_eq_true rfl) dX7_copy_119 ?_
                refine r_iconst (pc := 122) dX7_copy_122 kc_iconst_1 ?_
                exact r_iret (pc := 123) rfl dX7_copy_123
      · refine r_aload_n (pc := 21) 0 dX7_copy_21 rfl rfl ?_
        refine r_iconst (pc := 22) dX7_copy_22 kc_iconst_5 ?_
        refine k_X7_found (pc := 23) lm_RX7_92  (by decide) (Nat.le_of_ble_eq_true rfl) dX7_copy_23 (fun w9 h23 => ?_)
        exact r_iret (pc := 26) rfl dX7_copy_26
theorem ok_X7_copy : yOk yX7_copy cX7_copy 6 (some .int) := ⟨in_lwG (by decide +kernel) rfl, in_lwG (by decide +kernel) rfl, by decide, by decide, by decide⟩
theorem k_X7_copy {en : En} {Ex : (Nat → Prop) → State → Prop} {mi : Mi} {α : Type} {ev : α → Option Value × Sg} {pc index : Nat} {lv : List (Nat × Value)} {rest : List Value} {σ : Sg} {N : Nat} {k : (Int32 × Sg) → Option α} {p0 : Int32} {p1 : Int32} {p2 : Int32} {p3 : Int32} {p4 : Int32} (hlink : Cond.methodLink mi.1 index yX7_copy ∈ lwG) (hroom : 2 + 1 ≤ mi.2.2.2.2) (hcat : (rest.map fun v => v.category).sum ≤ 8) (hd : decode mi.2.1 pc = .ok (.invokevirtual index, 3))  (h : ∀ w : Int32 × Sg, f_X7_copy N p0 p1 p2 p3 p4 σ = some w → RR en Ex mi ev (pc + 3) lv (.int w.1 :: rest) w.2 (k w)) : RR en Ex mi ev pc lv (.int p4 :: .int p3 :: .int p2 :: .int p1 :: .int p0 :: .ref (ad en 0 0 0) :: rest) σ ((f_X7_copy N p0 p1 p2 p3 p4 σ).bind k) :=
  r_callV (n := 5) [.int p0, .int p1, .int p2, .int p3, .int p4] ok_X7_copy hlink (in_lwG (by decide +kernel) rfl) (in_lwG (by decide +kernel) rfl) (by decide +kernel) rfl hroom (by decide) o0 rfl rfl hcat (R_X7_copy en N p0 p1 p2 p3 p4  σ) (Nat.le_of_ble_eq_true rfl) hd h
set_option maxHeartbeats 4000000 in
theorem RL_X7_rowsThere_4 (en : En) (N : Nat) {k : Int32 → Int32 → Option (Int32 × Sg)} (σ : Sg)  (hk : ∀ (v1 : Int32) (v2 : Int32), RR en ExT mi_X7_rowsThere evI 37 [(1, .int v1)] [] σ (k v1 v2)) : ∀ (n : Nat) (v1 : Int32) (v2 : Int32), RR en ExT mi_X7_rowsThere evI 4 [(0, .ref (ad en 0 0 0)), (1, .int v1), (2, .int v2)] [] σ (L_X7_rowsThere_4 N k σ n v1 v2) := by
  intro n
  induction n with
  | zero => intro v1 v2; exact r_none
  | succ n ih =>
    intro v1 v2
    rw [L_X7_rowsThere_4_s]
    refine r_iload_n (pc := 4) 2 dX7_rowsThere_4 rfl rfl ?_
    refine r_bipush (pc := 5) dX7_rowsThere_5 kc_bipush_6 ?_
    refine r_icmp_ge (pc := 7) 37 dX7_rowsThere_7 (by decide) (fun h1 => ?_) (fun h1 => ?_)
    · exact r_sub [1] rfl (hk v1 v2)
    · refine r_iload_n (pc := 10) 1 dX7_rowsThere_10 rfl rfl ?_
      refine r_aload_n (pc := 11) 0 dX7_rowsThere_11 rfl rfl ?_
      refine g_X7_rows (pc := 12)  lf_RX7_11 dX7_rowsThere_12 ?_
      refine r_iload_n (pc := 15) 2 dX7_rowsThere_15 rfl rfl ?_
      refine r_aald (pc := 16) (n := 6) (k := 3) o1 rfl rfl rfl dX7_rowsThere_16 (fun h2 => ?_)
      refine g_X3_size (pc := 17) (ib_lt h2) lf_RX7_107 dX7_rowsThere_17 ?_
      refine r_iconst (pc := 20) dX7_rowsThere_20 kc_iconst_m1 ?_
      refine r_icmp_ne (pc := 21) 28 dX7_rowsThere_21 (by decide) (fun h3 => ?_) (fun h3 => ?_)
      · refine r_iconst (pc := 24) dX7_rowsThere_24 kc_iconst_0 ?_
        refine r_goto (pc := 25) 29 dX7_rowsThere_25 (by decide) ?_
        refine r_iadd (pc := 29) dX7_rowsThere_29 ?_
        refine r_istore_n (pc := 30) [(1, .int (v1 + (0 : Int32))), (0, .ref (ad en 0 0 0)), (2, .int v2)] dX7_rowsThere_30 rfl (by decide) rfl ?_
        refine r_iinc (pc := 31) 2 [(2, .int (v2 + (1 : Int32))), (1, .int (v1 + (0 : Int32))), (0, .ref (ad en 0 0 0))] dX7_rowsThere_31 rfl rfl (by decide) rfl ?_
        refine r_goto (pc := 34) 4 dX7_rowsThere_34 (by decide) ?_
        exact r_sub [2, 1, 0] rfl (ih (v1 + (0 : Int32)) (v2 + (1 : Int32)))
      · refine r_iconst (pc := 28) dX7_rowsThere_28 kc_iconst_1 ?_
        refine r_iadd (pc := 29) dX7_rowsThere_29 ?_
        refine r_istore_n (pc := 30) [(1, .int (v1 + (1 : Int32))), (0, .ref (ad en 0 0 0)), (2, .int v2)] dX7_rowsThere_30 rfl (by decide) rfl ?_
        refine r_iinc (pc := 31) 2 [(2, .int (v2 + (1 : Int32))), (1, .int (v1 + (1 : Int32))), (0, .ref (ad en 0 0 0))] dX7_rowsThere_31 rfl rfl (by decide) rfl ?_
        refine r_goto (pc := 34) 4 dX7_rowsThere_34 (by decide) ?_
        exact r_sub [2, 1, 0] rfl (ih (v1 + (1 : Int32)) (v2 + (1 : Int32)))
set_option maxHeartbeats 4000000 in
theorem R_X7_rowsThere (en : En) (N : Nat)  (σ : Sg) : RR en ExT mi_X7_rowsThere evI 0 [(0, .ref (ad en 0 0 0))] [] σ (f_X7_rowsThere N σ) := by
  unfold f_X7_rowsThere
  refine r_iconst (pc := 0) dX7_rowsThere_0 kc_iconst_0 ?_
  refine r_istore_n (pc := 1) [(1, .int (0 : Int32)), (0, .ref (ad en 0 0 0))] dX7_rowsThere_1 rfl (by decide) rfl ?_
  refine r_iconst (pc := 2) dX7_rowsThere_2 kc_iconst_0 ?_
  refine r_istore_n (pc := 3) [(2, .int (0 : Int32)), (1, .int (0 : Int32)), (0, .ref (ad en 0 0 0))] dX7_rowsThere_3 rfl (by decide) rfl ?_
  refine r_sub [2, 1, 0] rfl (RL_X7_rowsThere_4 en N σ  (fun v1_1 v2_1 => ?_) N (0 : Int32) (0 : Int32))
  refine r_iload_n (pc := 37) 0 dX7_rowsThere_37 rfl rfl ?_
  exact r_iret (pc := 38) rfl dX7_rowsThere_38
theorem ok_X7_rowsThere : yOk yX7_rowsThere cX7_rowsThere 3 (some .int) := ⟨in_lwG (by decide +kernel) rfl, in_lwG (by decide +kernel) rfl, by decide, by decide, by decide⟩
theorem k_X7_rowsThere {en : En} {Ex : (Nat → Prop) → State → Prop} {mi : Mi} {α : Type} {ev : α → Option Value × Sg} {pc index : Nat} {lv : List (Nat × Value)} {rest : List Value} {σ : Sg} {N : Nat} {k : (Int32 × Sg) → Option α}  (hlink : Cond.methodLink mi.1 index yX7_rowsThere ∈ lwG) (hroom : 1 + 1 ≤ mi.2.2.2.2) (hcat : (rest.map fun v => v.category).sum ≤ 8) (hd : decode mi.2.1 pc = .ok (.invokevirtual index, 3))  (h : ∀ w : Int32 × Sg, f_X7_rowsThere N  σ = some w → RR en Ex mi ev (pc + 3) lv (.int w.1 :: rest) w.2 (k w)) : RR en Ex mi ev pc lv (.ref (ad en 0 0 0) :: rest) σ ((f_X7_rowsThere N  σ).bind k) :=
  r_callV (n := 0) [] ok_X7_rowsThere hlink (in_lwG (by decide +kernel) rfl) (in_lwG (by decide +kernel) rfl) (by decide +kernel) rfl hroom (by decide) o0 rfl rfl hcat (R_X7_rowsThere en N   σ) (Nat.le_of_ble_eq_true rfl) hd h
set_option maxHeartbeats 4000000 in
theorem RL_X7_textsThere_4 (en : En) (N : Nat) {k : Int32 → Int32 → Option (Int32 × Sg)} (σ : Sg)  (hk : ∀ (v1 : Int32) (v2 : Int32), RR en ExT mi_X7_textsThere evI 36 [(1, .int v1)] [] σ (k v1 v2)) : ∀ (n : Nat) (v1 : Int32) (v2 : Int32), RR en ExT mi_X7_textsThere evI 4 [(0, .ref (ad en 0 0 0)), (1, .int v1), (2, .int v2)] [] σ (L_X7_textsThere_4 N k σ n v1 v2) := by
  intro n
  induction n with
  | zero => intro v1 v2; exact r_none
  | succ n ih =>
    intro v1 v2
    rw [L_X7_textsThere_4_s]
    refine r_iload_n (pc := 4) 2 dX7_textsThere_4 rfl rfl ?_
    refine r_iconst (pc := 5) dX7_textsThere_5 kc_iconst_4 ?_
    refine r_icmp_ge (pc := 6) 36 dX7_textsThere_6 (by decide) (fun h1 => ?_) (fun h1 => ?_)
    · exact r_sub [1] rfl (hk v1 v2)
    · refine r_iload_n (pc := 9) 1 dX7_textsThere_9 rfl rfl ?_
      refine r_aload_n (pc := 10) 0 dX7_textsThere_10 rfl rfl ?_
      refine g_X7_texts (pc := 11)  lf_RX7_17 dX7_textsThere_11 ?_
      refine r_iload_n (pc := 14) 2 dX7_textsThere_14 rfl rfl ?_
      refine r_aald (pc := 15) (n := 4) (k := 4) o4 rfl rfl rfl dX7_textsThere_15 (fun h2 => ?_)
      refine g_X5_size (pc := 16) (ib_lt h2) lf_RX7_126 dX7_textsThere_16 ?_
      refine r_iconst (pc := 19) dX7_textsThere_19 kc_iconst_m1 ?_
      refine r_icmp_ne (pc := 20) 27 dX7_textsThere_20 (by decide) (fun h3 => ?_) (fun h3 => ?_)
      · refine r_iconst (pc := 23) dX7_textsThere_23 kc_iconst_0 ?_
        refine r_goto (pc := 24) 28 dX7_textsThere_24 (by decide) ?_
        refine r_iadd (pc := 28) dX7_textsThere_28 ?_
        refine r_istore_n (pc := 29) [(1, .int (v1 + (0 : Int32))), (0, .ref (ad en 0 0 0)), (2, .int v2)] dX7_textsThere_29 rfl (by decide) rfl ?_
        refine r_iinc (pc := 30) 2 [(2, .int (v2 + (1 : Int32))), (1, .int (v1 + (0 : Int32))), (0, .ref (ad en 0 0 0))] dX7_textsThere_30 rfl rfl (by decide) rfl ?_
        refine r_goto (pc := 33) 4 dX7_textsThere_33 (by decide) ?_
        exact r_sub [2, 1, 0] rfl (ih (v1 + (0 : Int32)) (v2 + (1 : Int32)))
      · refine r_iconst (pc := 27) dX7_textsThere_27 kc_iconst_1 ?_
        refine r_iadd (pc := 28) dX7_textsThere_28 ?_
        refine r_istore_n (pc := 29) [(1, .int (v1 + (1 : Int32))), (0, .ref (ad en 0 0 0)), (2, .int v2)] dX7_textsThere_29 rfl (by decide) rfl ?_
        refine r_iinc (pc := 30) 2 [(2, .int (v2 + (1 : Int32))), (1, .int (v1 + (1 : Int32))), (0, .ref (ad en 0 0 0))] dX7_textsThere_30 rfl rfl (by decide) rfl ?_
        refine r_goto (pc := 33) 4 dX7_textsThere_33 (by decide) ?_
        exact r_sub [2, 1, 0] rfl (ih (v1 + (1 : Int32)) (v2 + (1 : Int32)))
set_option maxHeartbeats 4000000 in
theorem R_X7_textsThere (en : En) (N : Nat)  (σ : Sg) : RR en ExT mi_X7_textsThere evI 0 [(0, .ref (ad en 0 0 0))] [] σ (f_X7_textsThere N σ) := by
  unfold f_X7_textsThere
  refine r_iconst (pc := 0) dX7_textsThere_0 kc_iconst_0 ?_
  refine r_istore_n (pc := 1) [(1, .int (0 : Int32)), (0, .ref (ad en 0 0 0))] dX7_textsThere_1 rfl (by decide) rfl ?_
  refine r_iconst (pc := 2) dX7_textsThere_2 kc_iconst_0 ?_
  refine r_istore_n (pc := 3) [(2, .int (0 : Int32)), (1, .int (0 : Int32)), (0, .ref (ad en 0 0 0))] dX7_textsThere_3 rfl (by decide) rfl ?_
  refine r_sub [2, 1, 0] rfl (RL_X7_textsThere_4 en N σ  (fun v1_1 v2_1 => ?_) N (0 : Int32) (0 : Int32))
  refine r_iload_n (pc := 36) 0 dX7_textsThere_36 rfl rfl ?_
  exact r_iret (pc := 37) rfl dX7_textsThere_37
theorem ok_X7_textsThere : yOk yX7_textsThere cX7_textsThere 3 (some .int) := ⟨in_lwG (by decide +kernel) rfl, in_lwG (by decide +kernel) rfl, by decide, by decide, by decide⟩
theorem k_X7_textsThere {en : En} {Ex : (Nat → Prop) → State → Prop} {mi : Mi} {α : Type} {ev : α → Option Value × Sg} {pc index : Nat} {lv : List (Nat × Value)} {rest : List Value} {σ : Sg} {N : Nat} {k : (Int32 × Sg) → Option α}  (hlink : Cond.methodLink mi.1 index yX7_textsThere ∈ lwG) (hroom : 1 + 1 ≤ mi.2.2.2.2) (hcat : (rest.map fun v => v.category).sum ≤ 8) (hd : decode mi.2.1 pc = .ok (.invokevirtual index, 3))  (h : ∀ w : Int32 × Sg, f_X7_textsThere N  σ = some w → RR en Ex mi ev (pc + 3) lv (.int w.1 :: rest) w.2 (k w)) : RR en Ex mi ev pc lv (.ref (ad en 0 0 0) :: rest) σ ((f_X7_textsThere N  σ).bind k) :=
  r_callV (n := 0) [] ok_X7_textsThere hlink (in_lwG (by decide +kernel) rfl) (in_lwG (by decide +kernel) rfl) (by decide +kernel) rfl hroom (by decide) o0 rfl rfl hcat (R_X7_textsThere en N   σ) (Nat.le_of_ble_eq_true rfl) hd h
set_option maxHeartbeats 4000000 in
theorem RL_X7_keptThere_4 (en : En) (N : Nat) {k : Int32 → Int32 → Option (Int32 × Sg)} (σ : Sg)  (hk : ∀ (v1 : Int32) (v2 : Int32), RR en ExT mi_X7_keptThere evI 36 [(1, .int v1)] [] σ (k v1 v2)) : ∀ (n : Nat) (v1 : Int32) (v2 : Int32), RR en ExT mi_X7_keptThere evI 4 [(0, .ref (ad en 0 0 0)), (1, .int v1), (2, .int v2)] [] σ (L_X7_keptThere_4 N k σ n v1 v2) := by
  intro n
  induction n with
  | zero => intro v1 v2; exact r_none
  | succ n ih =>
    intro v1 v2
    rw [L_X7_keptThere_4_s]
    refine r_iload_n (pc := 4) 2 dX7_keptThere_4 rfl rfl ?_
    refine r_iconst (pc := 5) dX7_keptThere_5 kc_iconst_3 ?_
    refine r_icmp_ge (pc := 6) 36 dX7_keptThere_6 (by decide) (fun h1 => ?_) (fun h1 => ?_)
    · exact r_sub [1] rfl (hk v1 v2)
    · refine r_iload_n (pc := 9) 1 dX7_keptThere_9 rfl rfl ?_
      refine r_aload_n (pc := 10) 0 dX7_keptThere_10 rfl rfl ?_
      refine g_X7_keptDeeds (pc := 11)  lf_RX7_39 dX7_keptThere_11 ?_
      refine r_iload_n (pc := 14) 2 dX7_keptThere_14 rfl rfl ?_
      refine r_aald (pc := 15) (n := 3) (k := 6) o13 rfl rfl rfl dX7_keptThere_15 (fun h2 => ?_)
      refine g_X1_size (pc := 16) (lt1 (ib_lt h2)) lf_RX7_85 dX7_keptThere_16 ?_
      refine r_iconst (pc := 19) dX7_keptThere_19 kc_iconst_m1 ?_
      refine r_icmp_ne (pc := 20) 27 dX7_keptThere_20 (by decide) (fun h3 => ?_) (fun h3 => ?_)
      · refine r_iconst (pc := 23) dX7_keptThere_23 kc_iconst_0 ?_
        refine r_goto (pc := 24) 28 dX7_keptThere_24 (by decide) ?_
        refine r_iadd (pc := 28) dX7_keptThere_28 ?_
        refine r_istore_n (pc := 29) [(1, .int (v1 + (0 : Int32))), (0, .ref (ad en 0 0 0)), (2, .int v2)] dX7_keptThere_29 rfl (by decide) rfl ?_
        refine r_iinc (pc := 30) 2 [(2, .int (v2 + (1 : Int32))), (1, .int (v1 + (0 : Int32))), (0, .ref (ad en 0 0 0))] dX7_keptThere_30 rfl rfl (by decide) rfl ?_
        refine r_goto (pc := 33) 4 dX7_keptThere_33 (by decide) ?_
        exact r_sub [2, 1, 0] rfl (ih (v1 + (0 : Int32)) (v2 + (1 : Int32)))
      · refine r_iconst (pc := 27) dX7_keptThere_27 kc_iconst_1 ?_
        refine r_iadd (pc := 28) dX7_keptThere_28 ?_
        refine r_istore_n (pc := 29) [(1, .int (v1 + (1 : Int32))), (0, .ref (ad en 0 0 0)), (2, .int v2)] dX7_keptThere_29 rfl (by decide) rfl ?_
        refine r_iinc (pc := 30) 2 [(2, .int (v2 + (1 : Int32))), (1, .int (v1 + (1 : Int32))), (0, .ref (ad en 0 0 0))] dX7_keptThere_30 rfl rfl (by decide) rfl ?_
        refine r_goto (pc := 33) 4 dX7_keptThere_33 (by decide) ?_
        exact r_sub [2, 1, 0] rfl (ih (v1 + (1 : Int32)) (v2 + (1 : Int32)))
set_option maxHeartbeats 4000000 in
theorem R_X7_keptThere (en : En) (N : Nat)  (σ : Sg) : RR en ExT mi_X7_keptThere evI 0 [(0, .ref (ad en 0 0 0))] [] σ (f_X7_keptThere N σ) := by
  unfold f_X7_keptThere
  refine r_iconst (pc := 0) dX7_keptThere_0 kc_iconst_0 ?_
  refine r_istore_n (pc := 1) [(1, .int (0 : Int32)), (0, .ref (ad en 0 0 0))] dX7_keptThere_1 rfl (by decide) rfl ?_
  refine r_iconst (pc := 2) dX7_keptThere_2 kc_iconst_0 ?_
  refine r_istore_n (pc := 3) [(2, .int (0 : Int32)), (1, .int (0 : Int32)), (0, .ref (ad en 0 0 0))] dX7_keptThere_3 rfl (by decide) rfl ?_
  refine r_sub [2, 1, 0] rfl (RL_X7_keptThere_4 en N σ  (fun v1_1 v2_1 => ?_) N (0 : Int32) (0 : Int32))
  refine r_iload_n (pc := 36) 0 dX7_keptThere_36 rfl rfl ?_
  exact r_iret (pc := 37) rfl dX7_keptThere_37
theorem ok_X7_keptThere : yOk yX7_keptThere cX7_keptThere 3 (some .int) := ⟨in_lwG (by decide +kernel) rfl, in_lwG (by decide +kernel) rfl, by decide, by decide, by decide⟩
theorem k_X7_keptThere {en : En} {Ex : (Nat → Prop) → State → Prop} {mi : Mi} {α : Type} {ev : α → Option Value × Sg} {pc index : Nat} {lv : List (Nat × Value)} {rest : List Value} {σ : Sg} {N : Nat} {k : (Int32 × Sg) → Option α}  (hlink : Cond.methodLink mi.1 index yX7_keptThere ∈ lwG) (hroom : 1 + 1 ≤ mi.2.2.2.2) (hcat : (rest.map fun v => v.category).sum ≤ 8) (hd : decode mi.2.1 pc = .ok (.invokevirtual index, 3))  (h : ∀ w : Int32 × Sg, f_X7_keptThere N  σ = some w → RR en Ex mi ev (pc + 3) lv (.int w.1 :: rest) w.2 (k w)) : RR en Ex mi ev pc lv (.ref (ad en 0 0 0) :: rest) σ ((f_X7_keptThere N  σ).bind k) :=
  r_callV (n := 0) [] ok_X7_keptThere hlink (in_lwG (by decide +kernel) rfl) (in_lwG (by decide +kernel) rfl) (by decide +kernel) rfl hroom (by decide) o0 rfl rfl hcat (R_X7_keptThere en N   σ) (Nat.le_of_ble_eq_true rfl) hd h
set_option maxHeartbeats 4000000 in
theorem R_X7_ofAll (en : En) (N : Nat) (p0 : Int32)  (σ : Sg) : RR en ExT mi_X7_ofAll evI 0 [(0, .ref (ad en 0 0 0)), (1, .int p0)] [] σ (f_X7_ofAll N p0 σ) := by
  unfold f_X7_ofAll
  refine r_iload_n (pc := 0) 1 dX7_ofAll_0 rfl rfl ?_
  refine r_ite (fun h1 => ?_) (fun h1 => ?_)
  · refine r_tableIn (pc := 1) 56 dX7_ofAll_1 (by rw [h1]; decide) (by rw [h1]; decide) (by rw [h1]; rfl) (by decide) ?_
    refine r_aload_n (pc := 56) 0 dX7_ofAll_56 rfl rfl ?_
    refine g_X7_screen (pc := 57)  lf_RX7_24 dX7_ofAll_57 ?_
    refine g_X4_size (pc := 60) (by decide) lf_RX7_139 dX7_ofAll_60 ?_
    exact r_iret (pc := 63) rfl dX7_ofAll_63
  refine r_ite (fun h2 => ?_) (fun h2 => ?_)
  · refine r_tableIn (pc := 1) 64 dX7_ofAll_1 (by rw [h2]; decide) (by rw [h2]; decide) (by rw [h2]; rfl) (by decide) ?_
    refine r_aload_n (pc := 64) 0 dX7_ofAll_64 rfl rfl ?_
    refine g_X7_screen (pc := 65)  lf_RX7_24 dX7_ofAll_65 ?_
    refine k_X4_howManyOpen (pc := 68) lm_RX7_210  (by decide) (Nat.le_of_ble_eq_true rfl) dX7_ofAll_68 (by decide) (fun w1 h3 => ?_)
    exact r_iret (pc := 71) rfl dX7_ofAll_71
  refine r_ite (fun h4 => ?_) (fun h4 => ?_)
  · refine r_tableIn (pc := 1) 72 dX7_ofAll_1 (by rw [h4]; decide) (by rw [h4]; decide) (by rw [h4]; rfl) (by decide) ?_
    refine r_aload_n (pc := 72) 0 dX7_ofAll_72 rfl rfl ?_
    refine g_X7_deeds (pc := 73)  lf_RX7_31 dX7_ofAll_73 ?_
    refine g_X1_size (pc := 76) (by decide) lf_RX7_85 dX7_ofAll_76 ?_
    exact r_iret (pc := 79) rfl dX7_ofAll_79
  refine r_ite (fun h5 => ?_) (fun h5 => ?_)
  · refine r_tableIn (pc := 1) 80 dX7_ofAll_1 (by rw [h5]; decide) (by rw [h5]; decide) (by rw [h5]; rfl) (by decide) ?_
    refine r_aload_n (pc := 80) 0 dX7_ofAll_80 rfl rfl ?_
    refine g_X7_screen (pc := 81)  lf_RX7_24 dX7_ofAll_81 ?_
    refine k_X4_howManySeen (pc := 84) lm_RX7_301  (by decide) (Nat.le_of_ble_eq_true rfl) dX7_ofAll_84 (by decide) (fun w2 h6 => ?_)
    exact r_iret (pc := 87) rfl dX7_ofAll_87
  refine r_ite (fun h7 => ?_) (fun h7 => ?_)
  · refine r_tableIn (pc := 1) 88 dX7_ofAll_1 (by rw [h7]; decide) (by rw [h7]; decide) (by rw [h7]; rfl) (by decide) ?_
    refine r_aload_n (pc := 88) 0 dX7_ofAll_88 rfl rfl ?_
    refine g_X7_screen (pc := 89)  lf_RX7_24 dX7_ofAll_89 ?_
    refine k_X4_cellsThatShowOne (pc := 92) lm_RX7_228  (by decide) (Nat.le_of_ble_eq_true rfl) dX7_ofAll_92 (by decide) (fun w3 h8 => ?_)
    exact r_iret (pc := 95) rfl dX7_ofAll_95
  refine r_ite (fun h9 => ?_) (fun h9 => ?_)
  · refine r_tableIn (pc := 1) 96 dX7_ofAll_1 (by rw [h9]; decide) (by rw [h9]; decide) (by rw [h9]; rfl) (by decide) ?_
    refine r_aload_n (pc := 96) 0 dX7_ofAll_96 rfl rfl ?_
    refine g_X7_screen (pc := 97)  lf_RX7_24 dX7_ofAll_97 ?_
    refine k_X4_shutOnes (pc := 100) lm_RX7_319  (by decide) (Nat.le_of_ble_eq_true rfl) dX7_ofAll_100 (by decide) (fun w4 h10 => ?_)
    exact r_iret (pc := 103) rfl dX7_ofAll_103
  refine r_ite (fun h11 => ?_) (fun h11 => ?_)
  · refine r_tableIn (pc := 1) 104 dX7_ofAll_1 (by rw [h11]; decide) (by rw [h11]; decide) (by rw [h11]; rfl) (by decide) ?_
    refine r_aload_n (pc := 104) 0 dX7_ofAll_104 rfl rfl ?_
    refine k_X7_rowsThere (pc := 105) lm_RX7_322  (by decide) (Nat.le_of_ble_eq_true rfl) dX7_ofAll_105 (fun w5 h12 => ?_)
    exact r_iret (pc := 108) rfl dX7_ofAll_108
  refine r_ite (fun h13 => ?_) (fun h13 => ?_)
  · refine r_tableIn (pc := 1) 109 dX7_ofAll_1 (by rw [h13]; decide) (by rw [h13]; decide) (by rw [h13]; rfl) (by decide) ?_
    refine r_aload_n (pc := 109) 0 dX7_ofAll_109 rfl rfl ?_
    refine k_X7_textsThere (pc := 110) lm_RX7_325  (by decide) (Nat.le_of_ble_eq_true rfl) dX7_ofAll_110 (fun w6 h14 => ?_)
    exact r_iret (pc := 113) rfl dX7_ofAll_113
  refine r_ite (fun h15 => ?_) (fun h15 => ?_)
  · refine r_tableIn (pc := 1) 114 dX7_ofAll_1 (by rw [h15]; decide) (by rw [h15]; decide) (by rw [h15]; rfl) (by decide) ?_
    refine r_aload_n (pc := 114) 0 dX7_ofAll_114 rfl rfl ?_
    refine k_X7_keptThere (pc := 115) lm_RX7_328  (by decide) (Nat.le_of_ble_eq_true rfl) dX7_ofAll_115 (fun w7 h16 => ?_)
    exact r_iret (pc := 118) rfl dX7_ofAll_118
  refine r_ite (fun h17 => ?_) (fun h17 => ?_)
  · refine r_tableIn (pc := 1) 119 dX7_ofAll_1 (by rw [h17]; decide) (by rw [h17]; decide) (by rw [h17]; rfl) (by decide) ?_
    refine r_aload_n (pc := 119) 0 dX7_ofAll_119 rfl rfl ?_
    refine g_X7_screen (pc := 120)  lf_RX7_24 dX7_ofAll_120 ?_
    refine r_iconst (pc := 123) dX7_ofAll_123 kc_iconst_1 ?_
    refine k_X4_howManyAre (pc := 124) lm_RX7_331  (by decide) (Nat.le_of_ble_eq_true rfl) dX7_ofAll_124 (by decide) (fun w8 h18 => ?_)
    exact r_iret (pc := 127) rfl dX7_ofAll_127
  refine r_tableOut (pc := 1) 128 dX7_ofAll_1 (sw_out (0) 10 (fun v hv => by rcases (show v = 0 ∨ v = 1 ∨ v = 2 ∨ v = 3 ∨ v = 4 ∨ v = 5 ∨ v = 6 ∨ v = 7 ∨ v = 8 ∨ v = 9 by omega) with rfl | rfl | rfl | rfl | rfl | rfl | rfl | rfl | rfl | rfl <;> assumption)) (by decide) ?_
  refine r_aload_n (pc := 128) 0 dX7_ofAll_128 rfl rfl ?_
  refine g_X7_screen (pc := 129)  lf_RX7_24 dX7_ofAll_129 ?_
  refine r_iconst (pc := 132) dX7_ofAll_132 kc_iconst_2 ?_
  refine k_X4_howManyAre (pc := 133) lm_RX7_331  (by decide) (Nat.le_of_ble_eq_true rfl) dX7_ofAll_133 (by decide) (fun w9 h19 => ?_)
  exact r_iret (pc := 136) rfl dX7_ofAll_136
theorem ok_X7_ofAll : yOk yX7_ofAll cX7_ofAll 2 (some .int) := ⟨in_lwG (by decide +kernel) rfl, in_lwG (by decide +kernel) rfl, by decide, by decide, by decide⟩
theorem k_X7_ofAll {en : En} {Ex : (Nat → Prop) → State → Prop} {mi : Mi} {α : Type} {ev : α → Option Value × Sg} {pc index : Nat} {lv : List (Nat × Value)} {rest : List Value} {σ : Sg} {N : Nat} {k : (Int32 × Sg) → Option α} {p0 : Int32} (hlink : Cond.methodLink mi.1 index yX7_ofAll ∈ lwG) (hroom : 6 + 1 ≤ mi.2.2.2.2) (hcat : (rest.map fun v => v.category).sum ≤ 8) (hd : decode mi.2.1 pc = .ok (.invokevirtual index, 3))  (h : ∀ w : Int32 × Sg, f_X7_ofAll N p0 σ = some w → RR en Ex mi ev (pc + 3) lv (.int w.1 :: rest) w.2 (k w)) : RR en Ex mi ev pc lv (.int p0 :: .ref (ad en 0 0 0) :: rest) σ ((f_X7_ofAll N p0 σ).bind k) :=
  r_callV (n := 1) [.int p0] ok_X7_ofAll hlink (in_lwG (by decide +kernel) rfl) (in_lwG (by decide +kernel) rfl) (by decide +kernel) rfl hroom (by decide) o0 rfl rfl hcat (R_X7_ofAll en N p0  σ) (Nat.le_of_ble_eq_true rfl) hd h
set_option maxHeartbeats 4000000 in
theorem R_X7_count (en : En) (N : Nat) (p0 : Int32)  (σ : Sg) : RR en ExT mi_X7_count evI 0 [(0, .ref (ad en 0 0 0)), (1, .int p0)] [] σ (f_X7_count N p0 σ) := by
  unfold f_X7_count
  refine r_iload_n (pc := 0) 1 dX7_count_0 rfl rfl ?_
  refine r_if_lt (pc := 1) 10 dX7_count_1 (by decide) (fun h1 => ?_) (fun h1 => ?_)
  · refine r_iconst (pc := 10) dX7_count_10 kc_iconst_m1 ?_
    refine r_goto (pc := 11) 19 dX7_count_11 (by decide) ?_
    exact r_iret (pc := 19) rfl dX7_count_19
  · refine r_iload_n (pc := 4) 1 dX7_count_4 rfl rfl ?_
    refine r_bipush (pc := 5) dX7_count_5 kc_bipush_10 ?_
    refine r_icmp_le (pc := 7) 14 dX7_count_7 (by decide) (fun h2 => ?_) (fun h2 => ?_)
    · refine r_aload_n (pc := 14) 0 dX7_count_14 rfl rfl ?_
      refine r_iload_n (pc := 15) 1 dX7_count_15 rfl rfl ?_
      refine k_X7_ofAll (pc := 16) lm_RX7_304  (by decide) (Nat.le_of_ble_eq_true rfl) dX7_count_16 (fun w1 h3 => ?_)
      exact r_iret (pc := 19) rfl dX7_count_19
    · refine r_iconst (pc := 10) dX7_count_10 kc_iconst_m1 ?_
      refine r_goto (pc := 11) 19 dX7_count_11 (by decide) ?_
      exact r_iret (pc := 19) rfl dX7_count_19
theorem ok_X7_count : yOk yX7_count cX7_count 2 (some .int) := ⟨in_lwG (by decide +kernel) rfl, in_lwG (by decide +kernel) rfl, by decide, by decide, by decide⟩
theorem k_X7_count {en : En} {Ex : (Nat → Prop) → State → Prop} {mi : Mi} {α : Type} {ev : α → Option Value × Sg} {pc index : Nat} {lv : List (Nat × Value)} {rest : List Value} {σ : Sg} {N : Nat} {k : (Int32 × Sg) → Option α} {p0 : Int32} (hlink : Cond.methodLink mi.1 index yX7_count ∈ lwG) (hroom : 7 + 1 ≤ mi.2.2.2.2) (hcat : (rest.map fun v => v.category).sum ≤ 8) (hd : decode mi.2.1 pc = .ok (.invokevirtual index, 3))  (h : ∀ w : Int32 × Sg, f_X7_count N p0 σ = some w → RR en Ex mi ev (pc + 3) lv (.int w.1 :: rest) w.2 (k w)) : RR en Ex mi ev pc lv (.int p0 :: .ref (ad en 0 0 0) :: rest) σ ((f_X7_count N p0 σ).bind k) :=
  r_callV (n := 1) [.int p0] ok_X7_count hlink (in_lwG (by decide +kernel) rfl) (in_lwG (by decide +kernel) rfl) (by decide +kernel) rfl hroom (by decide) o0 rfl rfl hcat (R_X7_count en N p0  σ) (Nat.le_of_ble_eq_true rfl) hd h
set_option maxHeartbeats 4000000 in
theorem R_X7_isCell (en : En) (N : Nat) (p0 : Int32)  (σ : Sg) : RR en ExT mi_X7_isCell evI 0 [(0, .int p0)] [] σ (f_X7_isCell N p0 σ) := by
  unfold f_X7_isCell
  refine r_iload_n (pc := 0) 0 dX7_isCell_0 rfl rfl ?_
  refine r_if_lt (pc := 1) 14 dX7_isCell_1 (by decide) (fun h1 => ?_) (fun h1 => ?_)
  · refine r_iconst (pc := 14) dX7_isCell_14 kc_iconst_0 ?_
    exact r_zret (pc := 15) rfl rfl dX7_isCell_15
  · refine r_iload_n (pc := 4) 0 dX7_isCell_4 rfl rfl ?_
    refine r_bipush (pc := 5) dX7_isCell_5 kc_bipush_96 ?_
    refine r_icmp_ge (pc := 7) 14 dX7_isCell_7 (by decide) (fun h2 => ?_) (fun h2 => ?_)
    · refine r_iconst (pc := 14) dX7_isCell_14 kc_iconst_0 ?_
      exact r_zret (pc := 15) rfl rfl dX7_isCell_15
    · refine r_iconst (pc := 10) dX7_isCell_10 kc_iconst_1 ?_
      refine r_goto (pc := 11) 15 dX7_isCell_11 (by decide) ?_
      exact r_zret (pc := 15) rfl rfl dX7_isCell_15
theorem ok_X7_isCell : yOk yX7_isCell cX7_isCell 1 (some .boolean) := ⟨in_lwG (by decide +kernel) rfl, in_lwG (by decide +kernel) rfl, by decide, by decide, by decide⟩
theorem k_X7_isCell {en : En} {Ex : (Nat → Prop) → State → Prop} {mi : Mi} {α : Type} {ev : α → Option Value × Sg} {pc index : Nat} {lv : List (Nat × Value)} {rest : List Value} {σ : Sg} {N : Nat} {k : (Int32 × Sg) → Option α} {p0 : Int32} (hlink : Cond.methodLink mi.1 index yX7_isCell ∈ lwG) (hroom : 1 + 1 ≤ mi.2.2.2.2) (hcat : (rest.map fun v => v.category).sum ≤ 8) (hd : decode mi.2.1 pc = .ok (.invokestatic index, 3))  (h : ∀ w : Int32 × Sg, f_X7_isCell N p0 σ = some w → RR en Ex mi ev (pc + 3) lv (.int w.1 :: rest) w.2 (k w)) : RR en Ex mi ev pc lv (.int p0 :: rest) σ ((f_X7_isCell N p0 σ).bind k) :=
  r_callS (n := 1) [.int p0] ok_X7_isCell hlink (in_lwG (by decide +kernel) rfl) (by decide +kernel) rfl hroom (by decide) hcat (R_X7_isCell en N p0  σ) (Nat.le_of_ble_eq_true rfl) hd h
set_option maxHeartbeats 4000000 in
theorem R_X7_covers (en : En) (N : Nat) (p0 : Int32) (p1 : Int32)  (σ : Sg) : RR en ExT mi_X7_covers evI 0 [(0, .ref (ad en 0 0 0)), (1, .int p0), (2, .int p1)] [] σ (f_X7_covers N p0 p1 σ) := by
  unfold f_X7_covers
  refine r_aload_n (pc := 0) 0 dX7_covers_0 rfl rfl ?_
  refine g_X7_screen (pc := 1)  lf_RX7_24 dX7_covers_1 ?_
  refine r_iload_n (pc := 4) 1 dX7_covers_4 rfl rfl ?_
  refine k_X4_has (pc := 5) lm_RX7_140  (by decide) (Nat.le_of_ble_eq_true rfl) dX7_covers_5 (by decide) (fun w1 h1 => ?_)
  refine r_if_eq (pc := 8) 18 dX7_covers_8 (by decide) (fun h2 => ?_) (fun h2 => ?_)
  · refine r_iconst (pc := 18) dX7_covers_18 kc_iconst_m1 ?_
    exact r_iret (pc := 19) rfl dX7_covers_19
  · refine r_iload_n (pc := 11) 2 dX7_covers_11 rfl rfl ?_
    refine k_X7_isCell (pc := 12) lm_RX7_174  (by decide) (Nat.le_of_ble_eq_true rfl) dX7_covers_12 (fun w2 h3 => ?_)
    refine r_if_ne (pc := 15) 20 dX7_covers_15 (by decide) (fun h4 => ?_) (fun h4 => ?_)
    · refine r_iconst (pc := 18) dX7_covers_18 kc_iconst_m1 ?_
      exact r_iret (pc := 19) rfl dX7_covers_19
    · refine r_aload_n (pc := 20) 0 dX7_covers_20 rfl rfl ?_
      refine g_X7_screen (pc := 21)  lf_RX7_24 dX7_covers_21 ?_
      refine g_X4_panes (pc := 24) (by decide) lf_RX7_146 dX7_covers_24 ?_
      refine r_iload_n (pc := 27) 1 dX7_covers_27 rfl rfl ?_
      refine r_aald (pc := 28) (n := 7) (k := 7) (o8 (by decide)) rfl rfl rfl dX7_covers_28 (fun h5 => ?_)
      refine r_iload_n (pc := 29) 2 dX7_covers_29 rfl rfl ?_
      refine k_X2_hasCell (pc := 30) lm_RX7_177  (by decide) (Nat.le_of_ble_eq_true rfl) dX7_covers_30 (by decide) (ib_lt h5) (fun w3 h6 => ?_)
      refine r_if_eq (pc := 33) 40 dX7_covers_33 (by decide) (fun h7 => ?_) (fun h7 => ?_)
      · refine r_iconst (pc := 40) dX7_covers_40 kc_iconst_0 ?_
        exact r_iret (pc := 41) rfl dX7_covers_41
      · refine r_iconst (pc := 36) dX7_covers_36 kc_iconst_1 ?_
        refine r_goto (pc := 37) 41 dX7_covers_37 (by decide) ?_
        exact r_iret (pc := 41) rfl dX7_covers_41
theorem ok_X7_covers : yOk yX7_covers cX7_covers 3 (some .int) := ⟨in_lwG (by decide +kernel) rfl, in_lwG (by decide +kernel) rfl, by decide, by decide, by decide⟩
theorem k_X7_covers {en : En} {Ex : (Nat → Prop) → State → Prop} {mi : Mi} {α : Type} {ev : α → Option Value × Sg} {pc index : Nat} {lv : List (Nat × Value)} {rest : List Value} {σ : Sg} {N : Nat} {k : (Int32 × Sg) → Option α} {p0 : Int32} {p1 : Int32} (hlink : Cond.methodLink mi.1 index yX7_covers ∈ lwG) (hroom : 2 + 1 ≤ mi.2.2.2.2) (hcat : (rest.map fun v => v.category).sum ≤ 8) (hd : decode mi.2.1 pc = .ok (.invokevirtual index, 3))  (h : ∀ w : Int32 × Sg, f_X7_covers N p0 p1 σ = some w → RR en Ex mi ev (pc + 3) lv (.int w.1 :: rest) w.2 (k w)) : RR en Ex mi ev pc lv (.int p1 :: .int p0 :: .ref (ad en 0 0 0) :: rest) σ ((f_X7_covers N p0 p1 σ).bind k) :=
  r_callV (n := 2) [.int p0, .int p1] ok_X7_covers hlink (in_lwG (by decide +kernel) rfl) (in_lwG (by decide +kernel) rfl) (by decide +kernel) rfl hroom (by decide) o0 rfl rfl hcat (R_X7_covers en N p0 p1  σ) (Nat.le_of_ble_eq_true rfl) hd h
set_option maxHeartbeats 4000000 in
theorem R_X7_ofPane (en : En) (N : Nat) (p0 : Int32) (p1 : Int32)  (σ : Sg) : RR en ExT mi_X7_ofPane evI 0 [(0, .ref (ad en 0 0 0)), (1, .int p0), (2, .int p1)] [] σ (f_X7_ofPane N p0 p1 σ) := by
  unfold f_X7_ofPane
  refine r_aload_n (pc := 0) 0 dX7_ofPane_0 rfl rfl ?_
  refine g_X7_screen (pc := 1)  lf_RX7_24 dX7_ofPane_1 ?_
  refine g_X4_panes (pc := 4) (by decide) lf_RX7_146 dX7_ofPane_4 ?_
  refine r_iload_n (pc := 7) 1 dX7_ofPane_7 rfl rfl ?_
  refine r_aald (pc := 8) (n := 7) (k := 7) (o8 (by decide)) rfl rfl rfl dX7_ofPane_8 (fun h1 => ?_)
  refine r_astore_n (pc := 9) [(3, .ref (ad en 9 0 p0.toNatClampNeg)), (0, .ref (ad en 0 0 0)), (1, .int p0), (2, .int p1)] dX7_ofPane_9 rfl (by decide) rfl ?_
  refine r_iload_n (pc := 10) 3 dX7_ofPane_10 rfl rfl ?_
  refine r_ite (fun h2 => ?_) (fun h2 => ?_)
  · refine r_tableIn (pc := 11) 52 dX7_ofPane_11 (by rw [h2]; decide) (by rw [h2]; decide) (by rw [h2]; rfl) (by decide) ?_
    refine r_aload_n (pc := 52) 0 dX7_ofPane_52 rfl rfl ?_
    refine g_X2_kind (pc := 53) (by decide) (ib_lt h1) lf_RX7_150 dX7_ofPane_53 ?_
    exact r_iret (pc := 56) rfl dX7_ofPane_56
  refine r_ite (fun h3 => ?_) (fun h3 => ?_)
  · refine r_tableIn (pc := 11) 57 dX7_ofPane_11 (by rw [h3]; decide) (by rw [h3]; decide) (by rw [h3]; rfl) (by decide) ?_
    refine r_aload_n (pc := 57) 0 dX7_ofPane_57 rfl rfl ?_
    refine g_X2_left (pc := 58) (by decide) (ib_lt h1) lf_RX7_186 dX7_ofPane_58 ?_
    exact r_iret (pc := 61) rfl dX7_ofPane_61
  refine r_ite (fun h4 => ?_) (fun h4 => ?_)
  · refine r_tableIn (pc := 11) 62 dX7_ofPane_11 (by rw [h4]; decide) (by rw [h4]; decide) (by rw [h4]; rfl) (by decide) ?_
    refine r_aload_n (pc := 62) 0 dX7_ofPane_62 rfl rfl ?_
    refine g_X2_top (pc := 63) (by decide) (ib_lt h1) lf_RX7_189 dX7_ofPane_63 ?_
    exact r_iret (pc := 66) rfl dX7_ofPane_66
  refine r_ite (fun h5 => ?_) (fun h5 => ?_)
  · refine r_tableIn (pc := 11) 67 dX7_ofPane_11 (by rw [h5]; decide) (by rw [h5]; decide) (by rw [h5]; rfl) (by decide) ?_
    refine r_aload_n (pc := 67) 0 dX7_ofPane_67 rfl rfl ?_
    refine g_X2_wide (pc := 68) (by decide) (ib_lt h1) lf_RX7_168 dX7_ofPane_68 ?_
    exact r_iret (pc := 71) rfl dX7_ofPane_71
  refine r_ite (fun h6 => ?_) (fun h6 => ?_)
  · refine r_tableIn (pc := 11) 72 dX7_ofPane_11 (by rw [h6]; decide) (by rw [h6]; decide) (by rw [h6]; rfl) (by decide) ?_
    refine r_aload_n (pc := 72) 0 dX7_ofPane_72 rfl rfl ?_
    refine g_X2_high (pc := 73) (by decide) (ib_lt h1) lf_RX7_171 dX7_ofPane_73 ?_
    exact r_iret (pc := 76) rfl dX7_ofPane_76
  refine r_ite (fun h7 => ?_) (fun h7 => ?_)
  · refine r_tableIn (pc := 11) 77 dX7_ofPane_11 (by rw [h7]; decide) (by rw [h7]; decide) (by rw [h7]; rfl) (by decide) ?_
    refine r_aload_n (pc := 77) 0 dX7_ofPane_77 rfl rfl ?_
    refine g_X2_place (pc := 78) (by decide) (ib_lt h1) lf_RX7_316 dX7_ofPane_78 ?_
    exact r_iret (pc := 81) rfl dX7_ofPane_81
  refine r_ite (fun h8 => ?_) (fun h8 => ?_)
  · refine r_tableIn (pc := 11) 82 dX7_ofPane_11 (by rw [h8]; decide) (by rw [h8]; decide) (by rw [h8]; rfl) (by decide) ?_
    refine r_aload_n (pc := 82) 0 dX7_ofPane_82 rfl rfl ?_
    refine g_X2_open (pc := 83) (by decide) (ib_lt h1) lf_RX7_206 dX7_ofPane_83 ?_
    refine r_if_eq (pc := 86) 93 dX7_ofPane_86 (by decide) (fun h9 => ?_) (fun h9 => ?_)
    · refine r_iconst (pc := 93) dX7_ofPane_93 kc_iconst_0 ?_
      exact r_iret (pc := 94) rfl dX7_ofPane_94
    · refine r_iconst (pc := 89) dX7_ofPane_89 kc_iconst_1 ?_
      refine r_goto (pc := 90) 94 dX7_ofPane_90 (by decide) ?_
      exact r_iret (pc := 94) rfl dX7_ofPane_94
  refine r_tableOut (pc := 11) 95 dX7_ofPane_11 (sw_out (0) 7 (fun v hv => by rcases (show v = 0 ∨ v = 1 ∨ v = 2 ∨ v = 3 ∨ v = 4 ∨ v = 5 ∨ v = 6 by omega) with rfl | rfl | rfl | rfl | rfl | rfl | rfl <;> assumption)) (by decide) ?_
  refine r_aload_n (pc := 95) 1 dX7_ofPane_95 rfl rfl ?_
  refine g_X7_screen (pc := 96)  lf_RX7_24 dX7_ofPane_96 ?_
  refine r_iload_n (pc := 99) 2 dX7_ofPane_99 rfl rfl ?_
  refine k_X4_shownNow (pc := 100) lm_RX7_252  (by decide) (Nat.le_of_ble_eq_true rfl) dX7_ofPane_100 (by decide) (fun w1 h10 => ?_)
  exact r_iret (pc := 103) rfl dX7_ofPane_103
theorem ok_X7_ofPane : yOk yX7_ofPane cX7_ofPane 4 (some .int) := ⟨in_lwG (by decide +kernel) rfl, in_lwG (by decide +kernel) rfl, by decide, by decide, by decide⟩
theorem k_X7_ofPane {en : En} {Ex : (Nat → Prop) → State → Prop} {mi : Mi} {α : Type} {ev : α → Option Value × Sg} {pc index : Nat} {lv : List (Nat × Value)} {rest : List Value} {σ : Sg} {N : Nat} {k : (Int32 × Sg) → Option α} {p0 : Int32} {p1 : Int32} (hlink : Cond.methodLink mi.1 index yX7_ofPane ∈ lwG) (hroom : 4 + 1 ≤ mi.2.2.2.2) (hcat : (rest.map fun v => v.category).sum ≤ 8) (hd : decode mi.2.1 pc = .ok (.invokevirtual index, 3))  (h : ∀ w : Int32 × Sg, f_X7_ofPane N p0 p1 σ = some w → RR en Ex mi ev (pc + 3) lv (.int w.1 :: rest) w.2 (k w)) : RR en Ex mi ev pc lv (.int p1 :: .int p0 :: .ref (ad en 0 0 0) :: rest) σ ((f_X7_ofPane N p0 p1 σ).bind k) :=
  r_callV (n := 2) [.int p0, .int p1] ok_X7_ofPane hlink (in_lwG (by decide +kernel) rfl) (in_lwG (by decide +kernel) rfl) (by decide +kernel) rfl hroom (by decide) o0 rfl rfl hcat (R_X7_ofPane en N p0 p1  σ) (Nat.le_of_ble_eq_true rfl) hd h
set_option maxHeartbeats 4000000 in
theorem RL_X7_digest_6 (en : En) (N : Nat) {k : Int64 → Int32 → Sg → Option (Int64 × Sg)}   (hk : ∀ (v1 : Int64) (v3 : Int32) (σ : Sg), RR en ExT mi_X7_digest evL 31 [(0, .ref (ad en 0 0 0)), (1, .long v1)] [] σ (k v1 v3 σ)) : ∀ (n : Nat) (v1 : Int64) (v3 : Int32) (σ : Sg), RR en ExT mi_X7_digest evL 6 [(0, .ref (ad en 0 0 0)), (1, .long v1), (3, .int v3)] [] σ (L_X7_digest_6 N k  n v1 v3 σ) := by
  intro n
  induction n with
  | zero => intro v1 v3 σ; exact r_none
  | succ n ih =>
    intro v1 v3 σ
    rw [L_X7_digest_6_s]
    refine r_iload_n (pc := 6) 2 dX7_digest_6 rfl rfl ?_
    refine r_bipush (pc := 7) dX7_digest_7 kc_bipush_10 ?_
    refine r_icmp_gt (pc := 9) 31 dX7_digest_9 (by decide) (fun h1 => ?_) (fun h1 => ?_)
    · exact r_sub [0, 1] rfl (hk v1 v3 σ)
    · refine r_ldc2 (pc := 12) lj_RX7_309 dX7_digest_12 ?_
      refine r_lload_n (pc := 15) 1 dX7_digest_15 rfl rfl ?_
      refine r_lmul (pc := 16) dX7_digest_16 ?_
      refine r_aload_n (pc := 17) 0 dX7_digest_17 rfl rfl ?_
      refine r_iload_n (pc := 18) 2 dX7_digest_18 rfl rfl ?_
      refine k_X7_ofAll (pc := 19) lm_RX7_304  (by decide) (Nat.le_of_ble_eq_true rfl) dX7_digest_19 (fun w1 h2 => ?_)
      refine r_i2l (pc := 22) dX7_digest_22 ?_
      refine r_ladd (pc := 23) dX7_digest_23 ?_
      refine r_lstore_n (pc := 24) [(1, .long (((31 : Int64) * v1) + w1.1.toInt64)), (0, .ref (ad en 0 0 0)), (3, .int v3)] dX7_digest_24 rfl (by decide) rfl ?_
      refine r_iinc (pc := 25) 2 [(3, .int (v3 + (1 : Int32))), (1, .long (((31 : Int64) * v1) + w1.1.toInt64)), (0, .ref (ad en 0 0 0))] dX7_digest_25 rfl rfl (by decide) rfl ?_
      refine r_goto (pc := 28) 6 dX7_digest_28 (by decide) ?_
      exact r_sub [2, 1, 0] rfl (ih (((31 : Int64) * v1) + w1.1.toInt64) (v3 + (1 : Int32)) w1.2)
set_option maxHeartbeats 4000000 in
theorem RL_X7_digest_47 (en : En) (N : Nat) {k : Int64 → Int32 → Sg → Option (Int64 × Sg)} (a3 : Int32)  (hk : ∀ (v1 : Int64) (v4 : Int32) (σ : Sg), RR en ExT mi_X7_digest evL 75 [(0, .ref (ad en 0 0 0)), (1, .long v1), (3, .int a3)] [] σ (k v1 v4 σ)) : ∀ (n : Nat) (v1 : Int64) (v4 : Int32) (σ : Sg), RR en ExT mi_X7_digest evL 47 [(0, .ref (ad en 0 0 0)), (1, .long v1), (3, .int a3), (4, .int v4)] [] σ (L_X7_digest_47 N k a3 n v1 v4 σ) := by
  intro n
  induction n with
  | zero => intro v1 v4 σ; exact r_none
  | succ n ih =>
    intro v1 v4 σ
    rw [L_X7_digest_47_s]
    refine r_iload (pc := 47) 3 dX7_digest_47 rfl ?_
    refine r_bipush (pc := 49) dX7_digest_49 kc_bipush_7 ?_
    refine r_icmp_gt (pc := 51) 75 dX7_digest_51 (by decide) (fun h4 => ?_) (fun h4 => ?_)
    · exact r_sub [0, 1, 2] rfl (hk v1 v4 σ)
    · refine r_ldc2 (pc := 54) lj_RX7_309 dX7_digest_54 ?_
      refine r_lload_n (pc := 57) 1 dX7_digest_57 rfl rfl ?_
      refine r_lmul (pc := 58) dX7_digest_58 ?_
      refine r_aload_n (pc := 59) 0 dX7_digest_59 rfl rfl ?_
      refine r_iload_n (pc := 60) 2 dX7_digest_60 rfl rfl ?_
      refine r_iload (pc := 61) 3 dX7_digest_61 rfl ?_
      refine k_X7_ofPane (pc := 63) lm_RX7_143  (by decide) (Nat.le_of_ble_eq_true rfl) dX7_digest_63 (fun w3 h5 => ?_)
      refine r_i2l (pc := 66) dX7_digest_66 ?_
      refine r_ladd (pc := 67) dX7_digest_67 ?_
      refine r_lstore_n (pc := 68) [(1, .long (((31 : Int64) * v1) + w3.1.toInt64)), (0, .ref (ad en 0 0 0)), (3, .int a3), (4, .int v4)] dX7_digest_68 rfl (by decide) rfl ?_
      refine r_iinc (pc := 69) 3 [(4, .int (v4 + (1 : Int32))), (1, .long (((31 : Int64) * v1) + w3.1.toInt64)), (0, .ref (ad en 0 0 0)), (3, .int a3)] dX7_digest_69 rfl rfl (by decide) rfl ?_
      refine r_goto (pc := 72) 47 dX7_digest_72 (by decide) ?_
      exact r_sub [2, 1, 3, 0] rfl (ih (((31 : Int64) * v1) + w3.1.toInt64) (v4 + (1 : Int32)) w3.2)
set_option maxHeartbeats 4000000 in
theorem RL_X7_digest_33 (en : En) (N : Nat) {k : Int64 → Int32 → Sg → Option (Int64 × Sg)}   (hk : ∀ (v1 : Int64) (v3 : Int32) (σ : Sg), RR en ExT mi_X7_digest evL 81 [(0, .ref (ad en 0 0 0)), (1, .long v1)] [] σ (k v1 v3 σ)) : ∀ (n : Nat) (v1 : Int64) (v3 : Int32) (σ : Sg), RR en ExT mi_X7_digest evL 33 [(0, .ref (ad en 0 0 0)), (1, .long v1), (3, .int v3)] [] σ (L_X7_digest_33 N k  n v1 v3 σ) := by
  intro n
  induction n with
  | zero => intro v1 v3 σ; exact r_none
  | succ n ih =>
    intro v1 v3 σ
    rw [L_X7_digest_33_s]
    refine r_iload_n (pc := 33) 2 dX7_digest_33 rfl rfl ?_
    refine r_aload_n (pc := 34) 0 dX7_digest_34 rfl rfl ?_
    refine g_X7_screen (pc := 35)  lf_RX7_24 dX7_digest_35 ?_
    refine g_X4_size (pc := 38) (by decide) lf_RX7_139 dX7_digest_38 ?_
    refine r_icmp_ge (pc := 41) 81 dX7_digest_41 (by decide) (fun h3 => ?_) (fun h3 => ?_)
    · exact r_sub [0, 1] rfl (hk v1 v3 σ)
    · refine r_iconst (pc := 44) dX7_digest_44 kc_iconst_0 ?_
      refine r_istore (pc := 45) [(4, .int (0 : Int32)), (0, .ref (ad en 0 0 0)), (1, .long v1), (3, .int v3)] dX7_digest_45 (by decide) rfl ?_
      refine r_sub [1, 2, 3, 0] rfl (RL_X7_digest_47 en N v3  (fun v1_4 v4_4 σ_4 => ?_) N v1 (0 : Int32) σ)
      refine r_iinc (pc := 75) 2 [(3, .int (v3 + (1 : Int32))), (0, .ref (ad en 0 0 0)), (1, .long v1_4)] dX7_digest_75 rfl rfl (by decide) rfl ?_
      refine r_goto (pc := 78) 33 dX7_digest_78 (by decide) ?_
      exact r_sub [1, 2, 0] rfl (ih v1_4 (v3 + (1 : Int32)) σ_4)
set_option maxHeartbeats 4000000 in
theorem RL_X7_digest_83 (en : En) (N : Nat) {k : Int64 → Int32 → Option (Int64 × Sg)} (σ : Sg)  (hk : ∀ (v1 : Int64) (v3 : Int32), RR en ExT mi_X7_digest evL 111 [(0, .ref (ad en 0 0 0)), (1, .long v1)] [] σ (k v1 v3)) : ∀ (n : Nat) (v1 : Int64) (v3 : Int32), RR en ExT mi_X7_digest evL 83 [(0, .ref (ad en 0 0 0)), (1, .long v1), (3, .int v3)] [] σ (L_X7_digest_83 N k σ n v1 v3) := by
  intro n
  induction n with
  | zero => intro v1 v3; exact r_none
  | succ n ih =>
    intro v1 v3
    rw [L_X7_digest_83_s]
    refine r_iload_n (pc := 83) 2 dX7_digest_83 rfl rfl ?_
    refine r_iconst (pc := 84) dX7_digest_84 kc_iconst_3 ?_
    refine r_icmp_ge (pc := 85) 111 dX7_digest_85 (by decide) (fun h6 => ?_) (fun h6 => ?_)
    · exact r_sub [0, 1] rfl (hk v1 v3)
    · refine r_ldc2 (pc := 88) lj_RX7_309 dX7_digest_88 ?_
      refine r_lload_n (pc := 91) 1 dX7_digest_91 rfl rfl ?_
      refine r_lmul (pc := 92) dX7_digest_92 ?_
      refine r_aload_n (pc := 93) 0 dX7_digest_93 rfl rfl ?_
      refine g_X7_keptDeeds (pc := 94)  lf_RX7_39 dX7_digest_94 ?_
      refine r_iload_n (pc := 97) 2 dX7_digest_97 rfl rfl ?_
      refine r_aald (pc := 98) (n := 3) (k := 6) o13 rfl rfl rfl dX7_digest_98 (fun h7 => ?_)
      refine g_X1_size (pc := 99) (lt1 (ib_lt h7)) lf_RX7_85 dX7_digest_99 ?_
      refine r_i2l (pc := 102) dX7_digest_102 ?_
      refine r_ladd (pc := 103) dX7_digest_103 ?_
      refine r_lstore_n (pc := 104) [(1, .long (((31 : Int64) * v1) + ((rI σ 10 (v3.toNatClampNeg + 1) 0 4).toInt64))), (0, .ref (ad en 0 0 0)), (3, .int v3)] dX7_digest_104 rfl (by decide) rfl ?_
      refine r_iinc (pc := 105) 2 [(3, .int (v3 + (1 : Int32))), (1, .long (((31 : Int64) * v1) + ((rI σ 10 (v3.toNatClampNeg + 1) 0 4).toInt64))), (0, .ref (ad en 0 0 0))] dX7_digest_105 rfl rfl (by decide) rfl ?_
      refine r_goto (pc := 108) 83 dX7_digest_108 (by decide) ?_
      exact r_sub [2, 1, 0] rfl (ih (((31 : Int64) * v1) + ((rI σ 10 (v3.toNatClampNeg + 1) 0 4).toInt64)) (v3 + (1 : Int32)))
set_option maxHeartbeats 4000000 in
theorem RL_X7_digest_113 (en : En) (N : Nat) {k : Int64 → Int32 → Sg → Option (Int64 × Sg)}   (hk : ∀ (v1 : Int64) (v3 : Int32) (σ : Sg), RR en ExT mi_X7_digest evL 136 [(0, .ref (ad en 0 0 0)), (1, .long v1)] [] σ (k v1 v3 σ)) : ∀ (n : Nat) (v1 : Int64) (v3 : Int32) (σ : Sg), RR en ExT mi_X7_digest evL 113 [(0, .ref (ad en 0 0 0)), (1, .long v1), (3, .int v3)] [] σ (L_X7_digest_113 N k  n v1 v3 σ) := by
  intro n
  induction n with
  | zero => intro v1 v3 σ; exact r_none
  | succ n ih =>
    intro v1 v3 σ
    rw [L_X7_digest_113_s]
    refine r_iload_n (pc := 113) 2 dX7_digest_113 rfl rfl ?_
    refine r_bipush (pc := 114) dX7_digest_114 kc_bipush_6 ?_
    refine r_icmp_ge (pc := 116) 136 dX7_digest_116 (by decide) (fun h8 => ?_) (fun h8 => ?_)
    · exact r_sub [0, 1] rfl (hk v1 v3 σ)
    · refine r_aload_n (pc := 119) 0 dX7_digest_119 rfl rfl ?_
      refine g_X7_rows (pc := 120)  lf_RX7_11 dX7_digest_120 ?_
      refine r_iload_n (pc := 123) 2 dX7_digest_123 rfl rfl ?_
      refine r_aald (pc := 124) (n := 6) (k := 3) o1 rfl rfl rfl dX7_digest_124 (fun h9 => ?_)
      refine r_lload_n (pc := 125) 1 dX7_digest_125 rfl rfl ?_
      refine k_X3_digestFrom (pc := 126) lm_RX7_311  (by decide) (Nat.le_of_ble_eq_true rfl) dX7_digest_126 (ib_lt h9) (fun w7 h10 => ?_)
      refine r_lstore_n (pc := 129) [(1, .long w7.1), (0, .ref (ad en 0 0 0)), (3, .int v3)] dX7_digest_129 rfl (by decide) rfl ?_
      refine r_iinc (pc := 130) 2 [(3, .int (v3 + (1 : Int32))), (1, .long w7.1), (0, .ref (ad en 0 0 0))] dX7_digest_130 rfl rfl (by decide) rfl ?_
      refine r_goto (pc := 133) 113 dX7_digest_133 (by decide) ?_
      exact r_sub [2, 1, 0] rfl (ih w7.1 (v3 + (1 : Int32)) w7.2)
set_option maxHeartbeats 4000000 in
theorem RL_X7_digest_138 (en : En) (N : Nat) {k : Int64 → Int32 → Sg → Option (Int64 × Sg)}   (hk : ∀ (v1 : Int64) (v3 : Int32) (σ : Sg), RR en ExT mi_X7_digest evL 160 [(1, .long v1)] [] σ (k v1 v3 σ)) : ∀ (n : Nat) (v1 : Int64) (v3 : Int32) (σ : Sg), RR en ExT mi_X7_digest evL 138 [(0, .ref (ad en 0 0 0)), (1, .long v1), (3, .int v3)] [] σ (L_X7_digest_138 N k  n v1 v3 σ) := by
  intro n
  induction n with
  | zero => intro v1 v3 σ; exact r_none
  | succ n ih =>
    intro v1 v3 σ
    rw [L_X7_digest_138_s]
    refine r_iload_n (pc := 138) 2 dX7_digest_138 rfl rfl ?_
    refine r_iconst (pc := 139) dX7_digest_139 kc_iconst_4 ?_
    refine r_icmp_ge (pc := 140) 160 dX7_digest_140 (by decide) (fun h11 => ?_) (fun h11 => ?_)
    · exact r_sub [1] rfl (hk v1 v3 σ)
    · refine r_aload_n (pc := 143) 0 dX7_digest_143 rfl rfl ?_
      refine g_X7_texts (pc := 144)  lf_RX7_17 dX7_digest_144 ?_
      refine r_iload_n (pc := 147) 2 dX7_digest_147 rfl rfl ?_
      refine r_aald (pc := 148) (n := 4) (k := 4) o4 rfl rfl rfl dX7_digest_148 (fun h12 => ?_)
      refine r_lload_n (pc := 149) 1 dX7_digest_149 rfl rfl ?_
      refine k_X5_digestFrom (pc := 150) lm_RX7_315  (by decide) (Nat.le_of_ble_eq_true rfl) dX7_digest_150 (ib_lt h12) (fun w9 h13 => ?_)
      refine r_lstore_n (pc := 153) [(1, .long w9.1), (0, .ref (ad en 0 0 0)), (3, .int v3)] dX7_digest_153 rfl (by decide) rfl ?_
      refine r_iinc (pc := 154) 2 [(3, .int (v3 + (1 : Int32))), (1, .long w9.1), (0, .ref (ad en 0 0 0))] dX7_digest_154 rfl rfl (by decide) rfl ?_
      refine r_goto (pc := 157) 138 dX7_digest_157 (by decide) ?_
      exact r_sub [2, 1, 0] rfl (ih w9.1 (v3 + (1 : Int32)) w9.2)
set_option maxHeartbeats 4000000 in
theorem R_X7_digest (en : En) (N : Nat)  (σ : Sg) : RR en ExT mi_X7_digest evL 0 [(0, .ref (ad en 0 0 0))] [] σ (f_X7_digest N σ) := by
  unfold f_X7_digest
  refine r_ldc2 (pc := 0) lj_RX7_307 dX7_digest_0 ?_
  refine r_lstore_n (pc := 3) [(1, .long (17 : Int64)), (0, .ref (ad en 0 0 0))] dX7_digest_3 rfl (by decide) rfl ?_
  refine r_iconst (pc := 4) dX7_digest_4 kc_iconst_0 ?_
  refine r_istore_n (pc := 5) [(3, .int (0 : Int32)), (1, .long (17 : Int64)), (0, .ref (ad en 0 0 0))] dX7_digest_5 rfl (by decide) rfl ?_
  refine r_sub [2, 1, 0] rfl (RL_X7_digest_6 en N   (fun v1_2 v3_2 σ_2 => ?_) N (17 : Int64) (0 : Int32) σ)
  refine r_iconst (pc := 31) dX7_digest_31 kc_iconst_0 ?_
  refine r_istore_n (pc := 32) [(3, .int (0 : Int32)), (0, .ref (ad en 0 0 0)), (1, .long v1_2)] dX7_digest_32 rfl (by decide) rfl ?_
  refine r_sub [1, 2, 0] rfl (RL_X7_digest_33 en N   (fun v1_5 v3_5 σ_5 => ?_) N v1_2 (0 : Int32) σ_2)
  refine r_iconst (pc := 81) dX7_digest_81 kc_iconst_0 ?_
  refine r_istore_n (pc := 82) [(3, .int (0 : Int32)), (0, .ref (ad en 0 0 0)), (1, .long v1_5)] dX7_digest_82 rfl (by decide) rfl ?_
  refine r_sub [1, 2, 0] rfl (RL_X7_digest_83 en N σ_5  (fun v1_6 v3_6 => ?_) N v1_5 (0 : Int32))
  refine r_iconst (pc := 111) dX7_digest_111 kc_iconst_0 ?_
  refine r_istore_n (pc := 112) [(3, .int (0 : Int32)), (0, .ref (ad en 0 0 0)), (1, .long v1_6)] dX7_digest_112 rfl (by decide) rfl ?_
  refine r_sub [1, 2, 0] rfl (RL_X7_digest_113 en N   (fun v1_8 v3_8 σ_8 => ?_) N v1_6 (0 : Int32) σ_5)
  refine r_iconst (pc := 136) dX7_digest_136 kc_iconst_0 ?_
  refine r_istore_n (pc := 137) [(3, .int (0 : Int32)), (0, .ref (ad en 0 0 0)), (1, .long v1_8)] dX7_digest_137 rfl (by decide) rfl ?_
  refine r_sub [1, 2, 0] rfl (RL_X7_digest_138 en N   (fun v1_10 v3_10 σ_10 => ?_) N v1_8 (0 : Int32) σ_8)
  refine r_lload_n (pc := 160) 0 dX7_digest_160 rfl rfl ?_
  exact r_lret (pc := 161) rfl dX7_digest_161
theorem ok_X7_digest : yOk yX7_digest cX7_digest 5 (some .long) := ⟨in_lwG (by decide +kernel) rfl, in_lwG (by decide +kernel) rfl, by decide, by decide, by decide⟩
theorem k_X7_digest {en : En} {Ex : (Nat → Prop) → State → Prop} {mi : Mi} {α : Type} {ev : α → Option Value × Sg} {pc index : Nat} {lv : List (Nat × Value)} {rest : List Value} {σ : Sg} {N : Nat} {k : (Int64 × Sg) → Option α}  (hlink : Cond.methodLink mi.1 index yX7_digest ∈ lwG) (hroom : 7 + 1 ≤ mi.2.2.2.2) (hcat : (rest.map fun v => v.category).sum ≤ 8) (hd : decode mi.2.1 pc = .ok (.invokevirtual index, 3))  (h : ∀ w : Int64 × Sg, f_X7_digest N  σ = some w → RR en Ex mi ev (pc + 3) lv (.long w.1 :: rest) w.2 (k w)) : RR en Ex mi ev pc lv (.ref (ad en 0 0 0) :: rest) σ ((f_X7_digest N  σ).bind k) :=
  r_callV (n := 0) [] ok_X7_digest hlink (in_lwG (by decide +kernel) rfl) (in_lwG (by decide +kernel) rfl) (by decide +kernel) rfl hroom (by decide) o0 rfl rfl hcat (R_X7_digest en N   σ) (Nat.le_of_ble_eq_true rfl) hd h
set_option maxHeartbeats 4000000 in
theorem R_X7_reorder (en : En) (N : Nat) (p0 : Int32) (p1 : Int32)  (σ : Sg) : RR en ExT mi_X7_reorder evI 0 [(0, .ref (ad en 0 0 0)), (1, .int p0), (2, .int p1)] [] σ (f_X7_reorder N p0 p1 σ) := by
  unfold f_X7_reorder
  refine r_aload_n (pc := 0) 0 dX7_reorder_0 rfl rfl ?_
  refine g_X7_screen (pc := 1)  lf_RX7_24 dX7_reorder_1 ?_
  refine r_iload_n (pc := 4) 1 dX7_reorder_4 rfl rfl ?_
  refine k_X4_has (pc := 5) lm_RX7_140  (by decide) (Nat.le_of_ble_eq_true rfl) dX7_reorder_5 (by decide) (fun w1 h1 => ?_)
  refine r_if_ne (pc := 8) 13 dX7_reorder_8 (by decide) (fun h2 => ?_) (fun h2 => ?_)
  · refine r_iconst (pc := 11) dX7_reorder_11 kc_iconst_m1 ?_
    exact r_iret (pc := 12) rfl dX7_reorder_12
  · refine r_aload_n (pc := 13) 0 dX7_reorder_13 rfl rfl ?_
    refine g_X7_screen (pc := 14)  lf_RX7_24 dX7_reorder_14 ?_
    refine g_X4_panes (pc := 17) (by decide) lf_RX7_146 dX7_reorder_17 ?_
    refine r_iload_n (pc := 20) 1 dX7_reorder_20 rfl rfl ?_
    refine r_aald (pc := 21) (n := 7) (k := 7) (o8 (by decide)) rfl rfl rfl dX7_reorder_21 (fun h3 => ?_)
    refine g_X2_place (pc := 22) (by decide) (ib_lt h3) lf_RX7_316 dX7_reorder_22 ?_
    refine r_istore_n (pc := 25) [(3, .int (rI w1.2 9 0 p0.toNatClampNeg 5)), (0, .ref (ad en 0 0 0)), (1, .int p0), (2, .int p1)] dX7_reorder_25 rfl (by decide) rfl ?_
    refine r_iload_n (pc := 26) 0 dX7_reorder_26 rfl rfl ?_
    refine r_iload_n (pc := 27) 3 dX7_reorder_27 rfl rfl ?_
    refine r_icmp_ne (pc := 28) 34 dX7_reorder_28 (by decide) (fun h4 => ?_) (fun h4 => ?_)
    · refine r_bipush (pc := 31) dX7_reorder_31 kc_bipush_m4 ?_
      exact r_iret (pc := 33) rfl dX7_reorder_33
    · refine r_aload_n (pc := 34) 1 dX7_reorder_34 rfl rfl ?_
      refine g_X7_deeds (pc := 35)  lf_RX7_31 dX7_reorder_35 ?_
      refine r_iconst (pc := 38) dX7_reorder_38 kc_iconst_1 ?_
      refine k_X1_hasRoomFor (pc := 39) lm_RX7_195  (by decide) (Nat.le_of_ble_eq_true rfl) dX7_reorder_39 (by decide) (fun w2 h5 => ?_)
      refine r_if_ne (pc := 42) 48 dX7_reorder_42 (by decide) (fun h6 => ?_) (fun h6 => ?_)
      · refine r_bipush (pc := 45) dX7_reorder_45 kc_bipush_m2 ?_
        exact r_iret (pc := 47) rfl dX7_reorder_47
      · refine r_aload_n (pc := 48) 1 dX7_reorder_48 rfl rfl ?_
        refine g_X7_screen (pc := 49)  lf_RX7_24 dX7_reorder_49 ?_
        refine r_iload_n (pc := 52) 2 dX7_reorder_52 rfl rfl ?_
        refine r_iload_n (pc := 53) 3 dX7_reorder_53 rfl rfl ?_
        refine k_X4_placeAt (pc := 54) lm_RX7_334  (by decide) (Nat.le_of_ble_eq_true rfl) dX7_reorder_54 (by decide) (fun w3 h7 => ?_)
        refine r_aload_n (pc := 57) 1 dX7_reorder_57 rfl rfl ?_
        refine g_X7_deeds (pc := 58)  lf_RX7_31 dX7_reorder_58 ?_
        refine r_iconst (pc := 61) dX7_reorder_61 kc_iconst_0 ?_
        refine r_iload_n (pc := 62) 2 dX7_reorder_62 rfl rfl ?_
        refine r_iload_n (pc := 63) 0 dX7_reorder_63 rfl rfl ?_
        refine r_iconst (pc := 64) dX7_reorder_64 kc_iconst_0 ?_
        refine k_X1_note (pc := 65) lm_RX7_202  (by decide) (Nat.le_of_ble_eq_true rfl) dX7_reorder_65 (by decide) (fun w4 h8 => ?_)
        refine r_iload_n (pc := 68) 0 dX7_reorder_68 rfl rfl ?_
        exact r_iret (pc := 69) rfl dX7_reorder_69
theorem ok_X7_reorder : yOk yX7_reorder cX7_reorder 4 (some .int) := ⟨in_lwG (by decide +kernel) rfl, in_lwG (by decide +kernel) rfl, by decide, by decide, by decide⟩
theorem k_X7_reorder {en : En} {Ex : (Nat → Prop) → State → Prop} {mi : Mi} {α : Type} {ev : α → Option Value × Sg} {pc index : Nat} {lv : List (Nat × Value)} {rest : List Value} {σ : Sg} {N : Nat} {k : (Int32 × Sg) → Option α} {p0 : Int32} {p1 : Int32} (hlink : Cond.methodLink mi.1 index yX7_reorder ∈ lwG) (hroom : 3 + 1 ≤ mi.2.2.2.2) (hcat : (rest.map fun v => v.category).sum ≤ 8) (hd : decode mi.2.1 pc = .ok (.invokevirtual index, 3))  (h : ∀ w : Int32 × Sg, f_X7_reorder N p0 p1 σ = some w → RR en Ex mi ev (pc + 3) lv (.int w.1 :: rest) w.2 (k w)) : RR en Ex mi ev pc lv (.int p1 :: .int p0 :: .ref (ad en 0 0 0) :: rest) σ ((f_X7_reorder N p0 p1 σ).bind k) :=
  r_callV (n := 2) [.int p0, .int p1] ok_X7_reorder hlink (in_lwG (by decide +kernel) rfl) (in_lwG (by decide +kernel) rfl) (by decide +kernel) rfl hroom (by decide) o0 rfl rfl hcat (R_X7_reorder en N p0 p1  σ) (Nat.le_of_ble_eq_true rfl) hd h
set_option maxHeartbeats 4000000 in
theorem R_X7_raise (en : En) (N : Nat) (p0 : Int32)  (σ : Sg) : RR en ExT mi_X7_raise evI 0 [(0, .ref (ad en 0 0 0)), (1, .int p0)] [] σ (f_X7_raise N p0 σ) := by
  unfold f_X7_raise
  refine r_aload_n (pc := 0) 0 dX7_raise_0 rfl rfl ?_
  refine r_iload_n (pc := 1) 1 dX7_raise_1 rfl rfl ?_
  refine r_aload_n (pc := 2) 0 dX7_raise_2 rfl rfl ?_
  refine g_X7_screen (pc := 3)  lf_RX7_24 dX7_raise_3 ?_
  refine g_X4_size (pc := 6) (by decide) lf_RX7_139 dX7_raise_6 ?_
  refine r_iconst (pc := 9) dX7_raise_9 kc_iconst_1 ?_
  refine r_isub (pc := 10) dX7_raise_10 ?_
  refine k_X7_reorder (pc := 11) lm_RX7_180  (by decide) (Nat.le_of_ble_eq_true rfl) dX7_raise_11 (fun w1 h1 => ?_)
  exact r_iret (pc := 14) rfl dX7_raise_14
theorem ok_X7_raise : yOk yX7_raise cX7_raise 2 (some .int) := ⟨in_lwG (by decide +kernel) rfl, in_lwG (by decide +kernel) rfl, by decide, by decide, by decide⟩
theorem k_X7_raise {en : En} {Ex : (Nat → Prop) → State → Prop} {mi : Mi} {α : Type} {ev : α → Option Value × Sg} {pc index : Nat} {lv : List (Nat × Value)} {rest : List Value} {σ : Sg} {N : Nat} {k : (Int32 × Sg) → Option α} {p0 : Int32} (hlink : Cond.methodLink mi.1 index yX7_raise ∈ lwG) (hroom : 4 + 1 ≤ mi.2.2.2.2) (hcat : (rest.map fun v => v.category).sum ≤ 8) (hd : decode mi.2.1 pc = .ok (.invokevirtual index, 3))  (h : ∀ w : Int32 × Sg, f_X7_raise N p0 σ = some w → RR en Ex mi ev (pc + 3) lv (.int w.1 :: rest) w.2 (k w)) : RR en Ex mi ev pc lv (.int p0 :: .ref (ad en 0 0 0) :: rest) σ ((f_X7_raise N p0 σ).bind k) :=
  r_callV (n := 1) [.int p0] ok_X7_raise hlink (in_lwG (by decide +kernel) rfl) (in_lwG (by decide +kernel) rfl) (by decide +kernel) rfl hroom (by decide) o0 rfl rfl hcat (R_X7_raise en N p0  σ) (Nat.le_of_ble_eq_true rfl) hd h
set_option maxHeartbeats 4000000 in
theorem R_X7_sink (en : En) (N : Nat) (p0 : Int32)  (σ : Sg) : RR en ExT mi_X7_sink evI 0 [(0, .ref (ad en 0 0 0)), (1, .int p0)] [] σ (f_X7_sink N p0 σ) := by
  unfold f_X7_sink
  refine r_aload_n (pc := 0) 0 dX7_sink_0 rfl rfl ?_
  refine r_iload_n (pc := 1) 1 dX7_sink_1 rfl rfl ?_
  refine r_iconst (pc := 2) dX7_sink_2 kc_iconst_0 ?_
  refine k_X7_reorder (pc := 3) lm_RX7_180  (by decide) (Nat.le_of_ble_eq_true rfl) dX7_sink_3 (fun w1 h1 => ?_)
  exact r_iret (pc := 6) rfl dX7_sink_6
theorem ok_X7_sink : yOk yX7_sink cX7_sink 2 (some .int) := ⟨in_lwG (by decide +kernel) rfl, in_lwG (by decide +kernel) rfl, by decide, by decide, by decide⟩
theorem k_X7_sink {en : En} {Ex : (Nat → Prop) → State → Prop} {mi : Mi} {α : Type} {ev : α → Option Value × Sg} {pc index : Nat} {lv : List (Nat × Value)} {rest : List Value} {σ : Sg} {N : Nat} {k : (Int32 × Sg) → Option α} {p0 : Int32} (hlink : Cond.methodLink mi.1 index yX7_sink ∈ lwG) (hroom : 4 + 1 ≤ mi.2.2.2.2) (hcat : (rest.map fun v => v.category).sum ≤ 8) (hd : decode mi.2.1 pc = .ok (.invokevirtual index, 3))  (h : ∀ w : Int32 × Sg, f_X7_sink N p0 σ = some w → RR en Ex mi ev (pc + 3) lv (.int w.1 :: rest) w.2 (k w)) : RR en Ex mi ev pc lv (.int p0 :: .ref (ad en 0 0 0) :: rest) σ ((f_X7_sink N p0 σ).bind k) :=
  r_callV (n := 1) [.int p0] ok_X7_sink hlink (in_lwG (by decide +kernel) rfl) (in_lwG (by decide +kernel) rfl) (by decide +kernel) rfl hroom (by decide) o0 rfl rfl hcat (R_X7_sink en N p0  σ) (Nat.le_of_ble_eq_true rfl) hd h
set_option maxHeartbeats 4000000 in
theorem R_X7_isNear (en : En) (N : Nat) (p0 : Int32)  (σ : Sg) : RR en ExT mi_X7_isNear evI 0 [(0, .int p0)] [] σ (f_X7_isNear N p0 σ) := by
  unfold f_X7_isNear
  refine r_iload_n (pc := 0) 0 dX7_isNear_0 rfl rfl ?_
  refine r_bipush (pc := 1) dX7_isNear_1 kc_bipush_m3 ?_
  refine r_icmp_lt (pc := 3) 15 dX7_isNear_3 (by decide) (fun h1 => ?_) (fun h1 => ?_)
  · refine r_iconst (pc := 15) dX7_isNear_15 kc_iconst_0 ?_
    exact r_zret (pc := 16) rfl rfl dX7_isNear_16
  · refine r_iload_n (pc := 6) 0 dX7_isNear_6 rfl rfl ?_
    refine r_iconst (pc := 7) dX7_isNear_7 kc_iconst_3 ?_
    refine r_icmp_gt (pc := 8) 15 dX7_isNear_8 (by decide) (fun h2 => ?_) (fun h2 => ?_)
    · refine r_iconst (pc := 15) dX7_isNear_15 kc_iconst_0 ?_
      exact r_zret (pc := 16) rfl rfl dX7_isNear_16
    · refine r_iconst (pc := 11) dX7_isNear_11 kc_iconst_1 ?_
      refine r_goto (pc := 12) 16 dX7_isNear_12 (by decide) ?_
      exact r_zret (pc := 16) rfl rfl dX7_isNear_16
theorem ok_X7_isNear : yOk yX7_isNear cX7_isNear 1 (some .boolean) := ⟨in_lwG (by decide +kernel) rfl, in_lwG (by decide +kernel) rfl, by decide, by decide, by decide⟩
theorem k_X7_isNear {en : En} {Ex : (Nat → Prop) → State → Prop} {mi : Mi} {α : Type} {ev : α → Option Value × Sg} {pc index : Nat} {lv : List (Nat × Value)} {rest : List Value} {σ : Sg} {N : Nat} {k : (Int32 × Sg) → Option α} {p0 : Int32} (hlink : Cond.methodLink mi.1 index yX7_isNear ∈ lwG) (hroom : 1 + 1 ≤ mi.2.2.2.2) (hcat : (rest.map fun v => v.category).sum ≤ 8) (hd : decode mi.2.1 pc = .ok (.invokestatic index, 3))  (h : ∀ w : Int32 × Sg, f_X7_isNear N p0 σ = some w → RR en Ex mi ev (pc + 3) lv (.int w.1 :: rest) w.2 (k w)) : RR en Ex mi ev pc lv (.int p0 :: rest) σ ((f_X7_isNear N p0 σ).bind k) :=
  r_callS (n := 1) [.int p0] ok_X7_isNear hlink (in_lwG (by decide +kernel) rfl) (by decide +kernel) rfl hroom (by decide) hcat (R_X7_isNear en N p0  σ) (Nat.le_of_ble_eq_true rfl) hd h
set_option maxHeartbeats 4000000 in
theorem R_X7_move (en : En) (N : Nat) (p0 : Int32) (p1 : Int32) (p2 : Int32)  (σ : Sg) : RR en ExT mi_X7_move evI 0 [(0, .ref (ad en 0 0 0)), (1, .int p0), (2, .int p1), (3, .int p2)] [] σ (f_X7_move N p0 p1 p2 σ) := by
  unfold f_X7_move
  refine r_aload_n (pc := 0) 0 dX7_move_0 rfl rfl ?_
  refine g_X7_screen (pc := 1)  lf_RX7_24 dX7_move_1 ?_
  refine r_iload_n (pc := 4) 1 dX7_move_4 rfl rfl ?_
  refine k_X4_has (pc := 5) lm_RX7_140  (by decide) (Nat.le_of_ble_eq_true rfl) dX7_move_5 (by decide) (fun w1 h1 => ?_)
  refine r_if_eq (pc := 8) 33 dX7_move_8 (by decide) (fun h2 => ?_) (fun h2 => ?_)
  · refine r_iconst (pc := 33) dX7_move_33 kc_iconst_m1 ?_
    exact r_iret (pc := 34) rfl dX7_move_34
  · refine r_iload_n (pc := 11) 2 dX7_move_11 rfl rfl ?_
    refine k_X7_isNear (pc := 12) lm_RX7_183  (by decide) (Nat.le_of_ble_eq_true rfl) dX7_move_12 (fun w2 h3 => ?_)
    refine r_if_eq (pc := 15) 33 dX7_move_15 (by decide) (fun h4 => ?_) (fun h4 => ?_)
    · refine r_iconst (pc := 33) dX7_move_33 kc_iconst_m1 ?_
      exact r_iret (pc := 34) rfl dX7_move_34
    · refine r_iload_n (pc := 18) 3 dX7_move_18 rfl rfl ?_
      refine k_X7_isNear (pc := 19) lm_RX7_183  (by decide) (Nat.le_of_ble_eq_true rfl) dX7_move_19 (fun w3 h5 => ?_)
      refine r_if_eq (pc := 22) 33 dX7_move_22 (by decide) (fun h6 => ?_) (fun h6 => ?_)
      · refine r_iconst (pc := 33) dX7_move_33 kc_iconst_m1 ?_
        exact r_iret (pc := 34) rfl dX7_move_34
      · refine r_iload_n (pc := 25) 2 dX7_move_25 rfl rfl ?_
        refine r_if_ne (pc := 26) 35 dX7_move_26 (by decide) (fun h7 => ?_) (fun h7 => ?_)
        · refine r_iload_n (pc := 29) 3 dX7_move_29 rfl rfl ?_
          refine r_if_ne (pc := 30) 35 dX7_move_30 (by decide) (fun h8 => ?_) (fun h8 => ?_)
          · refine r_iconst (pc := 33) dX7_move_33 kc_iconst_m1 ?_
            exact r_iret (pc := 34) rfl dX7_move_34
          · refine r_aload_n (pc := 35) 0 dX7_move_35 rfl rfl ?_
            refine g_X7_screen (pc := 36)  lf_RX7_24 dX7_move_36 ?_
            refine g_X4_panes (pc := 39) (by decide) lf_RX7_146 dX7_move_39 ?_
            refine r_iload_n (pc := 42) 1 dX7_move_42 rfl rfl ?_
            refine r_aald (pc := 43) (n := 7) (k := 7) (o8 (by decide)) rfl rfl rfl dX7_move_43 (fun h9 => ?_)
            refine r_astore (pc := 44) [(4, .ref (ad en 9 0 p0.toNatClampNeg)), (0, .ref (ad en 0 0 0)), (1, .int p0), (2, .int p1), (3, .int p2)] dX7_move_44 (by decide) rfl ?_
            refine r_aload (pc := 46) 0 dX7_move_46 rfl ?_
            refine r_aload (pc := 48) 0 dX7_move_48 rfl ?_
            refine g_X2_left (pc := 50) (by decide) (ib_lt h9) lf_RX7_186 dX7_move_50 ?_
            refine r_iload_n (pc := 53) 3 dX7_move_53 rfl rfl ?_
            refine r_iadd (pc := 54) dX7_move_54 ?_
            refine r_aload (pc := 55) 0 dX7_move_55 rfl ?_
            refine g_X2_top (pc := 57) (by decide) (ib_lt h9) lf_RX7_189 dX7_move_57 ?_
            refine r_iload_n (pc := 60) 4 dX7_move_60 rfl rfl ?_
            refine r_iadd (pc := 61) dX7_move_61 ?_
            refine k_X2_fitsAt (pc := 62) lm_RX7_192  (by decide) (Nat.le_of_ble_eq_true rfl) dX7_move_62 (by decide) (ib_lt h9) (fun w4 h10 => ?_)
            refine r_if_ne (pc := 65) 71 dX7_move_65 (by decide) (fun h11 => ?_) (fun h11 => ?_)
            · refine r_bipush (pc := 68) dX7_move_68 kc_bipush_m4 ?_
              exact r_iret (pc := 70) rfl dX7_move_70
            · refine r_aload_n (pc := 71) 1 dX7_move_71 rfl rfl ?_
              refine g_X7_deeds (pc := 72)  lf_RX7_31 dX7_move_72 ?_
              refine r_iconst (pc := 75) dX7_move_75 kc_iconst_1 ?_
              refine k_X1_hasRoomFor (pc := 76) lm_RX7_195  (by decide) (Nat.le_of_ble_eq_true rfl) dX7_move_76 (by decide) (fun w5 h12 => ?_)
              refine r_if_ne (pc := 79) 85 dX7_move_79 (by decide) (fun h13 => ?_) (fun h13 => ?_)
              · refine r_bipush (pc := 82) dX7_move_82 kc_bipush_m2 ?_
                exact r_iret (pc := 84) rfl dX7_move_84
              · refine r_aload (pc := 85) 0 dX7_move_85 rfl ?_
                refine r_aload (pc := 87) 0 dX7_move_87 rfl ?_
                refine g_X2_left (pc := 89) (by decide) (ib_lt h9) lf_RX7_186 dX7_move_89 ?_
                refine r_iload_n (pc := 92) 3 dX7_move_92 rfl rfl ?_
                refine r_iadd (pc := 93) dX7_move_93 ?_
                refine r_aload (pc := 94) 0 dX7_move_94 rfl ?_
                refine g_X2_top (pc := 96) (by decide) (ib_lt h9) lf_RX7_189 dX7_move_96 ?_
                refine r_iload_n (pc := 99) 4 dX7_move_99 rfl rfl ?_
                refine r_iadd (pc := 100) dX7_move_100 ?_
                refine k_X2_lieAt (pc := 101) lm_RX7_198  (by decide) (Nat.le_of_ble_eq_true rfl) dX7_move_101 (by decide) (ib_lt h9) (fun w6 h14 => ?_)
                refine r_aload_n (pc := 104) 1 dX7_move_104 rfl rfl ?_
                refine g_X7_deeds (pc := 105)  lf_RX7_31 dX7_move_105 ?_
                refine r_iconst (pc := 108) dX7_move_108 kc_iconst_1 ?_
                refine r_iload_n (pc := 109) 2 dX7_move_109 rfl rfl ?_
                refine r_iload_n (pc := 110) 3 dX7_move_110 rfl rfl ?_
                refine r_iload_n (pc := 111) 4 dX7_move_111 rfl rfl ?_
                refine k_X1_note (pc := 112) lm_RX7_202  (by decide) (Nat.le_of_ble_eq_true rfl) dX7_move_112 (by decide) (fun w7 h15 => ?_)
                refine r_aload (pc := 115) 0 dX7_move_115 rfl ?_
                refine g_X2_top (pc := 117) (by decide) (ib_lt h9) lf_RX7_189 dX7_move_117 ?_
                refine r_bipush (pc := 120) dX7_move_120 kc_bipush_12 ?_
                refine r_imul (pc := 122) dX7_move_122 ?_
                refine r_aload (pc := 123) 0 dX7_move_123 rfl ?_
                refine g_X2_left (pc := 125) (by decide) (ib_lt h9) lf_RX7_186 dX7_move_125 ?_
                refine r_iadd (pc := 128) dX7_move_128 ?_
                exact r_iret (pc := 129) rfl dX7_move_129
        · refine r_aload_n (pc := 35) 0 dX7_move_35 rfl rfl ?_
          refine g_X7_screen (pc := 36)  lf_RX7_24 dX7_move_36 ?_
          refine g_X4_panes (pc := 39) (by decide) lf_RX7_146 dX7_move_39 ?_
          refine r_iload_n (pc := 42) 1 dX7_move_42 rfl rfl ?_
          refine r_aald (pc := 43) (n := 7) (k := 7) (o8 (by decide)) rfl rfl rfl dX7_move_43 (fun h16 => ?_)
          refine r_astore (pc := 44) [(4, .ref (ad en 9 0 p0.toNatClampNeg)), (0, .ref (ad en 0 0 0)), (1, .int p0), (2, .int p1), (3, .int p2)] dX7_move_44 (by decide) rfl ?_
          refine r_aload (pc := 46) 0 dX7_move_46 rfl ?_
          refine r_aload (pc := 48) 0 dX7_move_48 rfl ?_
          refine g_X2_left (pc := 50) (by decide) (ib_lt h16) lf_RX7_186 dX7_move_50 ?_
          refine r_iload_n (pc := 53) 3 dX7_move_53 rfl rfl ?_
          refine r_iadd (pc := 54) dX7_move_54 ?_
          refine r_aload (pc := 55) 0 dX7_move_55 rfl ?_
          refine g_X2_top (pc := 57) (by decide) (ib_lt h16) lf_RX7_189 dX7_move_57 ?_
          refine r_iload_n (pc := 60) 4 dX7_move_60 rfl rfl ?_
          refine r_iadd (pc := 61) dX7_move_61 ?_
          refine k_X2_fitsAt (pc := 62) lm_RX7_192  (by decide) (Nat.le_of_ble_eq_true rfl) dX7_move_62 (by decide) (ib_lt h16) (fun w8 h17 => ?_)
          refine r_if_ne (pc := 65) 71 dX7_move_65 (by decide) (fun h18 => ?_) (fun h18 => ?_)
          · refine r_bipush (pc := 68) dX7_move_68 kc_bipush_m4 ?_
            exact r_iret (pc := 70) rfl dX7_move_70
          · refine r_aload_n (pc := 71) 1 dX7_move_71 rfl rfl ?_
            refine g_X7_deeds (pc := 72)  lf_RX7_31 dX7_move_72 ?_
            refine r_iconst (pc := 75) dX7_move_75 kc_iconst_1 ?_
            refine k_X1_hasRoomFor (pc := 76) lm_RX7_195  (by decide) (Nat.le_of_ble_eq_true rfl) dX7_move_76 (by decide) (fun w9 h19 => ?_)
            refine r_if_ne (pc := 79) 85 dX7_move_79 (by decide) (fun h20 => ?_) (fun h20 => ?_)
            · refine r_bipush (pc := 82) dX7_move_82 kc_bipush_m2 ?_
              exact r_iret (pc := 84) rfl dX7_move_84
            · refine r_aload (pc := 85) 0 dX7_move_85 rfl ?_
              refine r_aload (pc := 87) 0 dX7_move_87 rfl ?_
              refine g_X2_left (pc := 89) (by decide) (ib_lt h16) lf_RX7_186 dX7_move_89 ?_
              refine r_iload_n (pc := 92) 3 dX7_move_92 rfl rfl ?_
              refine r_iadd (pc := 93) dX7_move_93 ?_
              refine r_aload (pc := 94) 0 dX7_move_94 rfl ?_
              refine g_X2_top (pc := 96) (by decide) (ib_lt h16) lf_RX7_189 dX7_move_96 ?_
              refine r_iload_n (pc := 99) 4 dX7_move_99 rfl rfl ?_
              refine r_iadd (pc := 100) dX7_move_100 ?_
              refine k_X2_lieAt (pc := 101) lm_RX7_198  (by decide) (Nat.le_of_ble_eq_true rfl) dX7_move_101 (by decide) (ib_lt h16) (fun w10 h21 => ?_)
              refine r_aload_n (pc := 104) 1 dX7_move_104 rfl rfl ?_
              refine g_X7_deeds (pc := 105)  lf_RX7_31 dX7_move_105 ?_
              refine r_iconst (pc := 108) dX7_move_108 kc_iconst_1 ?_
              refine r_iload_n (pc := 109) 2 dX7_move_109 rfl rfl ?_
              refine r_iload_n (pc := 110) 3 dX7_move_110 rfl rfl ?_
              refine r_iload_n (pc := 111) 4 dX7_move_111 rfl rfl ?_
              refine k_X1_note (pc := 112) lm_RX7_202  (by decide) (Nat.le_of_ble_eq_true rfl) dX7_move_112 (by decide) (fun w11 h22 => ?_)
              refine r_aload (pc := 115) 0 dX7_move_115 rfl ?_
              refine g_X2_top (pc := 117) (by decide) (ib_lt h16) lf_RX7_189 dX7_move_117 ?_
              refine r_bipush (pc := 120) dX7_move_120 kc_bipush_12 ?_
              refine r_imul (pc := 122) dX7_move_122 ?_
              refine r_aload (pc := 123) 0 dX7_move_123 rfl ?_
              refine g_X2_left (pc := 125) (by decide) (ib_lt h16) lf_RX7_186 dX7_move_125 ?_
              refine r_iadd (pc := 128) dX7_move_128 ?_
              exact r_iret (pc := 129) rfl dX7_move_129
theorem ok_X7_move : yOk yX7_move cX7_move 5 (some .int) := ⟨in_lwG (by decide +kernel) rfl, in_lwG (by decide +kernel) rfl, by decide, by decide, by decide⟩
theorem k_X7_move {en : En} {Ex : (Nat → Prop) → State → Prop} {mi : Mi} {α : Type} {ev : α → Option Value × Sg} {pc index : Nat} {lv : List (Nat × Value)} {rest : List Value} {σ : Sg} {N : Nat} {k : (Int32 × Sg) → Option α} {p0 : Int32} {p1 : Int32} {p2 : Int32} (hlink : Cond.methodLink mi.1 index yX7_move ∈ lwG) (hroom : 4 + 1 ≤ mi.2.2.2.2) (hcat : (rest.map fun v => v.category).sum ≤ 8) (hd : decode mi.2.1 pc = .ok (.invokevirtual index, 3))  (h : ∀ w : Int32 × Sg, f_X7_move N p0 p1 p2 σ = some w → RR en Ex mi ev (pc + 3) lv (.int w.1 :: rest) w.2 (k w)) : RR en Ex mi ev pc lv (.int p2 :: .int p1 :: .int p0 :: .ref (ad en 0 0 0) :: rest) σ ((f_X7_move N p0 p1 p2 σ).bind k) :=
  r_callV (n := 3) [.int p0, .int p1, .int p2] ok_X7_move hlink (in_lwG (by decide +kernel) rfl) (in_lwG (by decide +kernel) rfl) (by decide +kernel) rfl hroom (by decide) o0 rfl rfl hcat (R_X7_move en N p0 p1 p2  σ) (Nat.le_of_ble_eq_true rfl) hd h
set_option maxHeartbeats 4000000 in
theorem R_X7_shut (en : En) (N : Nat) (p0 : Int32)  (σ : Sg) : RR en ExT mi_X7_shut evI 0 [(0, .ref (ad en 0 0 0)), (1, .int p0)] [] σ (f_X7_shut N p0 σ) := by
  unfold f_X7_shut
  refine r_aload_n (pc := 0) 0 dX7_shut_0 rfl rfl ?_
  refine g_X7_screen (pc := 1)  lf_RX7_24 dX7_shut_1 ?_
  refine r_iload_n (pc := 4) 1 dX7_shut_4 rfl rfl ?_
  refine k_X4_has (pc := 5) lm_RX7_140  (by decide) (Nat.le_of_ble_eq_true rfl) dX7_shut_5 (by decide) (fun w1 h1 => ?_)
  refine r_if_ne (pc := 8) 13 dX7_shut_8 (by decide) (fun h2 => ?_) (fun h2 => ?_)
  · refine r_iconst (pc := 11) dX7_shut_11 kc_iconst_m1 ?_
    exact r_iret (pc := 12) rfl dX7_shut_12
  · refine r_aload_n (pc := 13) 0 dX7_shut_13 rfl rfl ?_
    refine g_X7_deeds (pc := 14)  lf_RX7_31 dX7_shut_14 ?_
    refine r_iconst (pc := 17) dX7_shut_17 kc_iconst_1 ?_
    refine k_X1_hasRoomFor (pc := 18) lm_RX7_195  (by decide) (Nat.le_of_ble_eq_true rfl) dX7_shut_18 (by decide) (fun w2 h3 => ?_)
    refine r_if_ne (pc := 21) 27 dX7_shut_21 (by decide) (fun h4 => ?_) (fun h4 => ?_)
    · refine r_bipush (pc := 24) dX7_shut_24 kc_bipush_m2 ?_
      exact r_iret (pc := 26) rfl dX7_shut_26
    · refine r_aload_n (pc := 27) 0 dX7_shut_27 rfl rfl ?_
      refine g_X7_screen (pc := 28)  lf_RX7_24 dX7_shut_28 ?_
      refine g_X4_panes (pc := 31) (by decide) lf_RX7_146 dX7_shut_31 ?_
      refine r_iload_n (pc := 34) 1 dX7_shut_34 rfl rfl ?_
      refine r_aald (pc := 35) (n := 7) (k := 7) (o8 (by decide)) rfl rfl rfl dX7_shut_35 (fun h5 => ?_)
      refine r_aload_n (pc := 36) 0 dX7_shut_36 rfl rfl ?_
      refine g_X7_screen (pc := 37)  lf_RX7_24 dX7_shut_37 ?_
      refine g_X4_panes (pc := 40) (by decide) lf_RX7_146 dX7_shut_40 ?_
      refine r_iload_n (pc := 43) 1 dX7_shut_43 rfl rfl ?_
      refine r_aald (pc := 44) (n := 7) (k := 7) (o8 (by decide)) rfl rfl rfl dX7_shut_44 (fun h6 => ?_)
      refine g_X2_open (pc := 45) (by decide) (ib_lt h6) lf_RX7_206 dX7_shut_45 ?_
      refine r_if_ne (pc := 48) 55 dX7_shut_48 (by decide) (fun h7 => ?_) (fun h7 => ?_)
      · refine r_iconst (pc := 51) dX7_shut_51 kc_iconst_1 ?_
        refine r_goto (pc := 52) 56 dX7_shut_52 (by decide) ?_
        refine p_X2_open (pc := 56) (by decide) (ib_lt h5) lf_RX7_206 rfl dX7_shut_56 ?_
        refine r_aload_n (pc := 59) 0 dX7_shut_59 rfl rfl ?_
        refine g_X7_deeds (pc := 60)  lf_RX7_31 dX7_shut_60 ?_
        refine r_iconst (pc := 63) dX7_shut_63 kc_iconst_2 ?_
        refine r_iload_n (pc := 64) 1 dX7_shut_64 rfl rfl ?_
        refine r_iconst (pc := 65) dX7_shut_65 kc_iconst_0 ?_
        refine r_iconst (pc := 66) dX7_shut_66 kc_iconst_0 ?_
        refine k_X1_note (pc := 67) lm_RX7_202  (by decide) (Nat.le_of_ble_eq_true rfl) dX7_shut_67 (by decide) (fun w3 h8 => ?_)
        refine r_aload_n (pc := 70) 0 dX7_shut_70 rfl rfl ?_
        refine g_X7_screen (pc := 71)  lf_RX7_24 dX7_shut_71 ?_
        refine k_X4_howManyOpen (pc := 74) lm_RX7_210  (by decide) (Nat.le_of_ble_eq_true rfl) dX7_shut_74 (by decide) (fun w4 h9 => ?_)
        exact r_iret (pc := 77) rfl dX7_shut_77
      · refine r_iconst (pc := 55) dX7_shut_55 kc_iconst_0 ?_
        refine p_X2_open (pc := 56) (by decide) (ib_lt h5) lf_RX7_206 rfl dX7_shut_56 ?_
        refine r_aload_n (pc := 59) 0 dX7_shut_59 rfl rfl ?_
        refine g_X7_deeds (pc := 60)  lf_RX7_31 dX7_shut_60 ?_
        refine r_iconst (pc := 63) dX7_shut_63 kc_iconst_2 ?_
        refine r_iload_n (pc := 64) 1 dX7_shut_64 rfl rfl ?_
        refine r_iconst (pc := 65) dX7_shut_65 kc_iconst_0 ?_
        refine r_iconst (pc := 66) dX7_shut_66 kc_iconst_0 ?_
        refine k_X1_note (pc := 67) lm_RX7_202  (by decide) (Nat.le_of_ble_eq_true rfl) dX7_shut_67 (by decide) (fun w5 h10 => ?_)
        refine r_aload_n (pc := 70) 0 dX7_shut_70 rfl rfl ?_
        refine g_X7_screen (pc := 71)  lf_RX7_24 dX7_shut_71 ?_
        refine k_X4_howManyOpen (pc := 74) lm_RX7_210  (by decide) (Nat.le_of_ble_eq_true rfl) dX7_shut_74 (by decide) (fun w6 h11 => ?_)
        exact r_iret (pc := 77) rfl dX7_shut_77
theorem ok_X7_shut : yOk yX7_shut cX7_shut 2 (some .int) := ⟨in_lwG (by decide +kernel) rfl, in_lwG (by decide +kernel) rfl, by decide, by decide, by decide⟩
theorem k_X7_shut {en : En} {Ex : (Nat → Prop) → State → Prop} {mi : Mi} {α : Type} {ev : α → Option Value × Sg} {pc index : Nat} {lv : List (Nat × Value)} {rest : List Value} {σ : Sg} {N : Nat} {k : (Int32 × Sg) → Option α} {p0 : Int32} (hlink : Cond.methodLink mi.1 index yX7_shut ∈ lwG) (hroom : 3 + 1 ≤ mi.2.2.2.2) (hcat : (rest.map fun v => v.category).sum ≤ 8) (hd : decode mi.2.1 pc = .ok (.invokevirtual index, 3))  (h : ∀ w : Int32 × Sg, f_X7_shut N p0 σ = some w → RR en Ex mi ev (pc + 3) lv (.int w.1 :: rest) w.2 (k w)) : RR en Ex mi ev pc lv (.int p0 :: .ref (ad en 0 0 0) :: rest) σ ((f_X7_shut N p0 σ).bind k) :=
  r_callV (n := 1) [.int p0] ok_X7_shut hlink (in_lwG (by decide +kernel) rfl) (in_lwG (by decide +kernel) rfl) (by decide +kernel) rfl hroom (by decide) o0 rfl rfl hcat (R_X7_shut en N p0  σ) (Nat.le_of_ble_eq_true rfl) hd h
set_option maxHeartbeats 4000000 in
theorem R_X7_doByLot (en : En) (N : Nat) (p0 : Int32)  (σ : Sg) : RR en ExT mi_X7_doByLot evV 0 [(0, .ref (ad en 0 0 0)), (1, .int p0)] [] σ (f_X7_doByLot N p0 σ) := by
  unfold f_X7_doByLot
  refine r_aload_n (pc := 0) 0 dX7_doByLot_0 rfl rfl ?_
  refine g_X7_screen (pc := 1)  lf_RX7_24 dX7_doByLot_1 ?_
  refine g_X4_size (pc := 4) (by decide) lf_RX7_139 dX7_doByLot_4 ?_
  refine r_if_ne (pc := 7) 14 dX7_doByLot_7 (by decide) (fun h1 => ?_) (fun h1 => ?_)
  · refine r_iconst (pc := 10) dX7_doByLot_10 kc_iconst_0 ?_
    refine r_goto (pc := 11) 26 dX7_doByLot_11 (by decide) ?_
    refine r_istore_n (pc := 26) [(2, .int (0 : Int32)), (0, .ref (ad en 0 0 0)), (1, .int p0)] dX7_doByLot_26 rfl (by decide) rfl ?_
    refine r_iload_n (pc := 27) 2 dX7_doByLot_27 rfl rfl ?_
    refine r_iconst (pc := 28) dX7_doByLot_28 kc_iconst_4 ?_
    refine r_irem (pc := 29) dX7_doByLot_29 (by decide) ?_
    refine r_ite (fun h2 => ?_) (fun h2 => ?_)
    · refine r_tableIn (pc := 30) 56 dX7_doByLot_30 (by rw [h2]; decide) (by rw [h2]; decide) (by rw [h2]; rfl) (by decide) ?_
      refine r_aload_n (pc := 56) 1 dX7_doByLot_56 rfl rfl ?_
      refine r_iload_n (pc := 57) 0 dX7_doByLot_57 rfl rfl ?_
      refine k_X7_raise (pc := 58) lm_RX7_337  (by decide) (Nat.le_of_ble_eq_true rfl) dX7_doByLot_58 (fun w1 h3 => ?_)
      refine r_istore_n (pc := 61) [(3, .int w1.1), (2, .int (0 : Int32)), (0, .ref (ad en 0 0 0)), (1, .int p0)] dX7_doByLot_61 rfl (by decide) rfl ?_
      refine r_goto (pc := 62) 109 dX7_doByLot_62 (by decide) ?_
      refine r_iload_n (pc := 109) 0 dX7_doByLot_109 rfl rfl ?_
      refine r_if_ge (pc := 110) 124 dX7_doByLot_110 (by decide) (fun h4 => ?_) (fun h4 => ?_)
      · exact r_vret (pc := 124) rfl dX7_doByLot_124
      · refine r_aload_n (pc := 113) 2 dX7_doByLot_113 rfl rfl ?_
        refine g_X7_deeds (pc := 114)  lf_RX7_31 dX7_doByLot_114 ?_
        refine r_iconst (pc := 117) dX7_doByLot_117 kc_iconst_3 ?_
        refine r_iload_n (pc := 118) 1 dX7_doByLot_118 rfl rfl ?_
        refine r_iconst (pc := 119) dX7_doByLot_119 kc_iconst_0 ?_
        refine r_iconst (pc := 120) dX7_doByLot_120 kc_iconst_0 ?_
        refine k_X1_note (pc := 121) lm_RX7_202  (by decide) (Nat.le_of_ble_eq_true rfl) dX7_doByLot_121 (by decide) (fun w2 h5 => ?_)
        exact r_vret (pc := 124) rfl dX7_doByLot_124
    refine r_ite (fun h6 => ?_) (fun h6 => ?_)
    · refine r_tableIn (pc := 30) 65 dX7_doByLot_30 (by rw [h6]; decide) (by rw [h6]; decide) (by rw [h6]; rfl) (by decide) ?_
      refine r_aload_n (pc := 65) 1 dX7_doByLot_65 rfl rfl ?_
      refine r_iload_n (pc := 66) 0 dX7_doByLot_66 rfl rfl ?_
      refine k_X7_sink (pc := 67) lm_RX7_340  (by decide) (Nat.le_of_ble_eq_true rfl) dX7_doByLot_67 (fun w3 h7 => ?_)
      refine r_istore_n (pc := 70) [(3, .int w3.1), (2, .int (0 : Int32)), (0, .ref (ad en 0 0 0)), (1, .int p0)] dX7_doByLot_70 rfl (by decide) rfl ?_
      refine r_goto (pc := 71) 109 dX7_doByLot_71 (by decide) ?_
      refine r_iload_n (pc := 109) 0 dX7_doByLot_109 rfl rfl ?_
      refine r_if_ge (pc := 110) 124 dX7_doByLot_110 (by decide) (fun h8 => ?_) (fun h8 => ?_)
      · exact r_vret (pc := 124) rfl dX7_doByLot_124
      · refine r_aload_n (pc := 113) 2 dX7_doByLot_113 rfl rfl ?_
        refine g_X7_deeds (pc := 114)  lf_RX7_31 dX7_doByLot_114 ?_
        refine r_iconst (pc := 117) dX7_doByLot_117 kc_iconst_3 ?_
        refine r_iload_n (pc := 118) 1 dX7_doByLot_118 rfl rfl ?_
        refine r_iconst (pc := 119) dX7_doByLot_119 kc_iconst_0 ?_
        refine r_iconst (pc := 120) dX7_doByLot_120 kc_iconst_0 ?_
        refine k_X1_note (pc := 121) lm_RX7_202  (by decide) (Nat.le_of_ble_eq_true rfl) dX7_doByLot_121 (by decide) (fun w4 h9 => ?_)
        exact r_vret (pc := 124) rfl dX7_doByLot_124
    refine r_ite (fun h10 => ?_) (fun h10 => ?_)
    · refine r_tableIn (pc := 30) 74 dX7_doByLot_30 (by rw [h10]; decide) (by rw [h10]; decide) (by rw [h10]; rfl) (by decide) ?_
      refine r_aload_n (pc := 74) 1 dX7_doByLot_74 rfl rfl ?_
      refine r_iload_n (pc := 75) 0 dX7_doByLot_75 rfl rfl ?_
      refine r_iload_n (pc := 76) 2 dX7_doByLot_76 rfl rfl ?_
      refine r_sipush (pc := 77) dX7_doByLot_77 kc_sipush_128 ?_
      refine r_idiv (pc := 80) dX7_doByLot_80 (by decide) ?_
      refine r_bipush (pc := 81) dX7_doByLot_81 kc_bipush_7 ?_
      refine r_irem (pc := 83) dX7_doByLot_83 (by decide) ?_
      refine r_iconst (pc := 84) dX7_doByLot_84 kc_iconst_3 ?_
      refine r_isub (pc := 85) dX7_doByLot_85 ?_
      refine r_iload_n (pc := 86) 2 dX7_doByLot_86 rfl rfl ?_
      refine r_sipush (pc := 87) dX7_doByLot_87 kc_sipush_1024 ?_
      refine r_idiv (pc := 90) dX7_doByLot_90 (by decide) ?_
      refine r_bipush (pc := 91) dX7_doByLot_91 kc_bipush_7 ?_
      refine r_irem (pc := 93) dX7_doByLot_93 (by decide) ?_
      refine r_iconst (pc := 94) dX7_doByLot_94 kc_iconst_3 ?_
      refine r_isub (pc := 95) dX7_doByLot_95 ?_
      refine k_X7_move (pc := 96) lm_RX7_343  (by decide) (Nat.le_of_ble_eq_true rfl) dX7_doByLot_96 (fun w5 h11 => ?_)
      refine r_istore_n (pc := 99) [(3, .int w5.1), (2, .int (0 : Int32)), (0, .ref (ad en 0 0 0)), (1, .int p0)] dX7_doByLot_99 rfl (by decide) rfl ?_
      refine r_goto (pc := 100) 109 dX7_doByLot_100 (by decide) ?_
      refine r_iload_n (pc := 109) 0 dX7_doByLot_109 rfl rfl ?_
      refine r_if_ge (pc := 110) 124 dX7_doByLot_110 (by decide) (fun h12 => ?_) (fun h12 => ?_)
      · exact r_vret (pc := 124) rfl dX7_doByLot_124
      · refine r_aload_n (pc := 113) 2 dX7_doByLot_113 rfl rfl ?_
        refine g_X7_deeds (pc := 114)  lf_RX7_31 dX7_doByLot_114 ?_
        refine r_iconst (pc := 117) dX7_doByLot_117 kc_iconst_3 ?_
        refine r_iload_n (pc := 118) 1 dX7_doByLot_118 rfl rfl ?_
        refine r_iconst (pc := 119) dX7_doByLot_119 kc_iconst_0 ?_
        refine r_iconst (pc := 120) dX7_doByLot_120 kc_iconst_0 ?_
        refine k_X1_note (pc := 121) lm_RX7_202  (by decide) (Nat.le_of_ble_eq_true rfl) dX7_doByLot_121 (by decide) (fun w6 h13 => ?_)
        exact r_vret (pc := 124) rfl dX7_doByLot_124
    refine r_tableOut (pc := 30) 103 dX7_doByLot_30 (sw_out (0) 3 (fun v hv => by rcases (show v = 0 ∨ v = 1 ∨ v = 2 by omega) with rfl | rfl | rfl <;> assumption)) (by decide) ?_
    refine r_aload_n (pc := 103) 1 dX7_doByLot_103 rfl rfl ?_
    refine r_iload_n (pc := 104) 0 dX7_doByLot_104 rfl rfl ?_
    refine k_X7_shut (pc := 105) lm_RX7_347  (by decide) (Nat.le_of_ble_eq_true rfl) dX7_doByLot_105 (fun w7 h14 => ?_)
    refine r_istore_n (pc := 108) [(3, .int w7.1), (2, .int (0 : Int32)), (0, .ref (ad en 0 0 0)), (1, .int p0)] dX7_doByLot_108 rfl (by decide) rfl ?_
    refine r_iload_n (pc := 109) 0 dX7_doByLot_109 rfl rfl ?_
    refine r_if_ge (pc := 110) 124 dX7_doByLot_110 (by decide) (fun h15 => ?_) (fun h15 => ?_)
    · exact r_vret (pc := 124) rfl dX7_doByLot_124
    · refine r_aload_n (pc := 113) 2 dX7_doByLot_113 rfl rfl ?_
      refine g_X7_deeds (pc := 114)  lf_RX7_31 dX7_doByLot_114 ?_
      refine r_iconst (pc := 117) dX7_doByLot_117 kc_iconst_3 ?_
      refine r_iload_n (pc := 118) 1 dX7_doByLot_118 rfl rfl ?_
      refine r_iconst (pc := 119) dX7_doByLot_119 kc_iconst_0 ?_
      refine r_iconst (pc := 120) dX7_doByLot_120 kc_iconst_0 ?_
      refine k_X1_note (pc := 121) lm_RX7_202  (by decide) (Nat.le_of_ble_eq_true rfl) dX7_doByLot_121 (by decide) (fun w8 h16 => ?_)
      exact r_vret (pc := 124) rfl dX7_doByLot_124
  · refine r_iload_n (pc := 14) 1 dX7_doByLot_14 rfl rfl ?_
    refine r_bipush (pc := 15) dX7_doByLot_15 kc_bipush_8 ?_
    refine r_idiv (pc := 17) dX7_doByLot_17 (by decide) ?_
    refine r_aload_n (pc := 18) 0 dX7_doByLot_18 rfl rfl ?_
    refine g_X7_screen (pc := 19)  lf_RX7_24 dX7_doByLot_19 ?_
    refine g_X4_size (pc := 22) (by decide) lf_RX7_139 dX7_doByLot_22 ?_
    refine r_irem (pc := 25) dX7_doByLot_25 h1 ?_
    refine r_istore_n (pc := 26) [(2, .int ((p0 / (8 : Int32)) - (p0 / (8 : Int32)) / (rI σ 7 0 0 1) * (rI σ 7 0 0 1))), (0, .ref (ad en 0 0 0)), (1, .int p0)] dX7_doByLot_26 rfl (by decide) rfl ?_
    refine r_iload_n (pc := 27) 2 dX7_doByLot_27 rfl rfl ?_
    refine r_iconst (pc := 28) dX7_doByLot_28 kc_iconst_4 ?_
    refine r_irem (pc := 29) dX7_doByLot_29 (by decide) ?_
    refine r_ite (fun h17 => ?_) (fun h17 => ?_)
    · refine r_tableIn (pc := 30) 56 dX7_doByLot_30 (by rw [h17]; decide) (by rw [h17]; decide) (by rw [h17]; rfl) (by decide) ?_
      refine r_aload_n (pc := 56) 1 dX7_doByLot_56 rfl rfl ?_
      refine r_iload_n (pc := 57) 0 dX7_doByLot_57 rfl rfl ?_
      refine k_X7_raise (pc := 58) lm_RX7_337  (by decide) (Nat.le_of_ble_eq_true rfl) dX7_doByLot_58 (fun w9 h18 => ?_)
      refine r_istore_n (pc := 61) [(3, .int w9.1), (2, .int ((p0 / (8 : Int32)) - (p0 / (8 : Int32)) / (rI σ 7 0 0 1) * (rI σ 7 0 0 1))), (0, .ref (ad en 0 0 0)), (1, .int p0)] dX7_doByLot_61 rfl (by decide) rfl ?_
      refine r_goto (pc := 62) 109 dX7_doByLot_62 (by decide) ?_
      refine r_iload_n (pc := 109) 0 dX7_doByLot_109 rfl rfl ?_
      refine r_if_ge (pc := 110) 124 dX7_doByLot_110 (by decide) (fun h19 => ?_) (fun h19 => ?_)
      · exact r_vret (pc := 124) rfl dX7_doByLot_124
      · refine r_aload_n (pc := 113) 2 dX7_doByLot_113 rfl rfl ?_
        refine g_X7_deeds (pc := 114)  lf_RX7_31 dX7_doByLot_114 ?_
        refine r_iconst (pc := 117) dX7_doByLot_117 kc_iconst_3 ?_
        refine r_iload_n (pc := 118) 1 dX7_doByLot_118 rfl rfl ?_
        refine r_iconst (pc := 119) dX7_doByLot_119 kc_iconst_0 ?_
        refine r_iconst (pc := 120) dX7_doByLot_120 kc_iconst_0 ?_
        refine k_X1_note (pc := 121) lm_RX7_202  (by decide) (Nat.le_of_ble_eq_true rfl) dX7_doByLot_121 (by decide) (fun w10 h20 => ?_)
        exact r_vret (pc := 124) rfl dX7_doByLot_124
    refine r_ite (fun h21 => ?_) (fun h21 => ?_)
    · refine r_tableIn (pc := 30) 65 dX7_doByLot_30 (by rw [h21]; decide) (by rw [h21]; decide) (by rw [h21]; rfl) (by decide) ?_
      refine r_aload_n (pc := 65) 1 dX7_doByLot_65 rfl rfl ?_
      refine r_iload_n (pc := 66) 0 dX7_doByLot_66 rfl rfl ?_
      refine k_X7_sink (pc := 67) lm_RX7_340  (by decide) (Nat.le_of_ble_eq_true rfl) dX7_doByLot_67 (fun w11 h22 => ?_)
      refine r_istore_n (pc := 70) [(3, .int w11.1), (2, .int ((p0 / (8 : Int32)) - (p0 / (8 : Int32)) / (rI σ 7 0 0 1) * (rI σ 7 0 0 1))), (0, .ref (ad en 0 0 0)), (1, .int p0)] dX7_doByLot_70 rfl (by decide) rfl ?_
      refine r_goto (pc := 71) 109 dX7_doByLot_71 (by decide) ?_
      refine r_iload_n (pc := 109) 0 dX7_doByLot_109 rfl rfl ?_
      refine r_if_ge (pc := 110) 124 dX7_doByLot_110 (by decide) (fun h23 => ?_) (fun h23 => ?_)
      · exact r_vret (pc := 124) rfl dX7_doByLot_124
      · refine r_aload_n (pc := 113) 2 dX7_doByLot_113 rfl rfl ?_
        refine g_X7_deeds (pc := 114)  lf_RX7_31 dX7_doByLot_114 ?_
        refine r_iconst (pc := 117) dX7_doByLot_117 kc_iconst_3 ?_
        refine r_iload_n (pc := 118) 1 dX7_doByLot_118 rfl rfl ?_
        refine r_iconst (pc := 119) dX7_doByLot_119 kc_iconst_0 ?_
        refine r_iconst (pc := 120) dX7_doByLot_120 kc_iconst_0 ?_
        refine k_X1_note (pc := 121) lm_RX7_202  (by decide) (Nat.le_of_ble_eq_true rfl) dX7_doByLot_121 (by decide) (fun w12 h24 => ?_)
        exact r_vret (pc := 124) rfl dX7_doByLot_124
    refine r_ite (fun h25 => ?_) (fun h25 => ?_)
    · refine r_tableIn (pc := 30) 74 dX7_doByLot_30 (by rw [h25]; decide) (by rw [h25]; decide) (by rw [h25]; rfl) (by decide) ?_
      refine r_aload_n (pc := 74) 1 dX7_doByLot_74 rfl rfl ?_
      refine r_iload_n (pc := 75) 0 dX7_doByLot_75 rfl rfl ?_
      refine r_iload_n (pc := 76) 2 dX7_doByLot_76 rfl rfl ?_
      refine r_sipush (pc := 77) dX7_doByLot_77 kc_sipush_128 ?_
      refine r_idiv (pc := 80) dX7_doByLot_80 (by decide) ?_
      refine r_bipush (pc := 81) dX7_doByLot_81 kc_bipush_7 ?_
      refine r_irem (pc := 83) dX7_doByLot_83 (by decide) ?_
      refine r_iconst (pc := 84) dX7_doByLot_84 kc_iconst_3 ?_
      refine r_isub (pc := 85) dX7_doByLot_85 ?_
      refine r_iload_n (pc := 86) 2 dX7_doByLot_86 rfl rfl ?_
      refine r_sipush (pc := 87) dX7_doByLot_87 kc_sipush_1024 ?_
      refine r_idiv (pc := 90) dX7_doByLot_90 (by decide) ?_
      refine r_bipush (pc := 91) dX7_doByLot_91 kc_bipush_7 ?_
      refine r_irem (pc := 93) dX7_doByLot_93 (by decide) ?_
      refine r_iconst (pc := 94) dX7_doByLot_94 kc_iconst_3 ?_
      refine r_isub (pc := 95) dX7_doByLot_95 ?_
      refine k_X7_move (pc := 96) lm_RX7_343  (by decide) (Nat.le_of_ble_eq_true rfl) dX7_doByLot_96 (fun w13 h26 => ?_)
      refine r_istore_n (pc := 99) [(3, .int w13.1), (2, .int ((p0 / (8 : Int32)) - (p0 / (8 : Int32)) / (rI σ 7 0 0 1) * (rI σ 7 0 0 1))), (0, .ref (ad en 0 0 0)), (1, .int p0)] dX7_doByLot_99 rfl (by decide) rfl ?_
      refine r_goto (pc := 100) 109 dX7_doByLot_100 (by decide) ?_
      refine r_iload_n (pc := 109) 0 dX7_doByLot_109 rfl rfl ?_
      refine r_if_ge (pc := 110) 124 dX7_doByLot_110 (by decide) (fun h27 => ?_) (fun h27 => ?_)
      · exact r_vret (pc := 124) rfl dX7_doByLot_124
      · refine r_aload_n (pc := 113) 2 dX7_doByLot_113 rfl rfl ?_
        refine g_X7_deeds (pc := 114)  lf_RX7_31 dX7_doByLot_114 ?_
        refine r_iconst (pc := 117) dX7_doByLot_117 kc_iconst_3 ?_
        refine r_iload_n (pc := 118) 1 dX7_doByLot_118 rfl rfl ?_
        refine r_iconst (pc := 119) dX7_doByLot_119 kc_iconst_0 ?_
        refine r_iconst (pc := 120) dX7_doByLot_120 kc_iconst_0 ?_
        refine k_X1_note (pc := 121) lm_RX7_202  (by decide) (Nat.le_of_ble_eq_true rfl) dX7_doByLot_121 (by decide) (fun w14 h28 => ?_)
        exact r_vret (pc := 124) rfl dX7_doByLot_124
    refine r_tableOut (pc := 30) 103 dX7_doByLot_30 (sw_out (0) 3 (fun v hv => by rcases (show v = 0 ∨ v = 1 ∨ v = 2 by omega) with rfl | rfl | rfl <;> assumption)) (by decide) ?_
    refine r_aload_n (pc := 103) 1 dX7_doByLot_103 rfl rfl ?_
    refine r_iload_n (pc := 104) 0 dX7_doByLot_104 rfl rfl ?_
    refine k_X7_shut (pc := 105) lm_RX7_347  (by decide) (Nat.le_of_ble_eq_true rfl) dX7_doByLot_105 (fun w15 h29 => ?_)
    refine r_istore_n (pc := 108) [(3, .int w15.1), (2, .int ((p0 / (8 : Int32)) - (p0 / (8 : Int32)) / (rI σ 7 0 0 1) * (rI σ 7 0 0 1))), (0, .ref (ad en 0 0 0)), (1, .int p0)] dX7_doByLot_108 rfl (by decide) rfl ?_
    refine r_iload_n (pc := 109) 0 dX7_doByLot_109 rfl rfl ?_
    refine r_if_ge (pc := 110) 124 dX7_doByLot_110 (by decide) (fun h30 => ?_) (fun h30 => ?_)
    · exact r_vret (pc := 124) rfl dX7_doByLot_124
    · refine r_aload_n (pc := 113) 2 dX7_doByLot_113 rfl rfl ?_
      refine g_X7_deeds (pc := 114)  lf_RX7_31 dX7_doByLot_114 ?_
      refine r_iconst (pc := 117) dX7_doByLot_117 kc_iconst_3 ?_
      refine r_iload_n (pc := 118) 1 dX7_doByLot_118 rfl rfl ?_
      refine r_iconst (pc := 119) dX7_doByLot_119 kc_iconst_0 ?_
      refine r_iconst (pc := 120) dX7_doByLot_120 kc_iconst_0 ?_
      refine k_X1_note (pc := 121) lm_RX7_202  (by decide) (Nat.le_of_ble_eq_true rfl) dX7_doByLot_121 (by decide) (fun w16 h31 => ?_)
      exact r_vret (pc := 124) rfl dX7_doByLot_124
theorem ok_X7_doByLot : yOk yX7_doByLot cX7_doByLot 4 none := ⟨in_lwG (by decide +kernel) rfl, in_lwG (by decide +kernel) rfl, by decide, by decide, by decide⟩
theorem k_X7_doByLot {en : En} {Ex : (Nat → Prop) → State → Prop} {mi : Mi} {α : Type} {ev : α → Option Value × Sg} {pc index : Nat} {lv : List (Nat × Value)} {rest : List Value} {σ : Sg} {N : Nat} {k : (Sg) → Option α} {p0 : Int32} (hlink : Cond.methodLink mi.1 index yX7_doByLot ∈ lwG) (hroom : 5 + 1 ≤ mi.2.2.2.2) (hcat : (rest.map fun v => v.category).sum ≤ 8) (hd : decode mi.2.1 pc = .ok (.invokevirtual index, 3))  (h : ∀ w : Sg, f_X7_doByLot N p0 σ = some w → RR en Ex mi ev (pc + 3) lv (rest) w (k w)) : RR en Ex mi ev pc lv (.int p0 :: .ref (ad en 0 0 0) :: rest) σ ((f_X7_doByLot N p0 σ).bind k) :=
  r_callV (n := 1) [.int p0] ok_X7_doByLot hlink (in_lwG (by decide +kernel) rfl) (in_lwG (by decide +kernel) rfl) (by decide +kernel) rfl hroom (by decide) o0 rfl rfl hcat (R_X7_doByLot en N p0  σ) (Nat.le_of_ble_eq_true rfl) hd h
set_option maxHeartbeats 4000000 in
theorem R_X7_duel (en : En) (N : Nat) (p0 : Int32) (p1 : Int32)  (σ : Sg) : RR en ExT mi_X7_duel evI 0 [(0, .ref (ad en 0 0 0)), (1, .int p0), (2, .int p1)] [] σ (f_X7_duel N p0 p1 σ) := by
  unfold f_X7_duel
  refine r_aload_n (pc := 0) 0 dX7_duel_0 rfl rfl ?_
  refine g_X7_screen (pc := 1)  lf_RX7_24 dX7_duel_1 ?_
  refine r_iload_n (pc := 4) 1 dX7_duel_4 rfl rfl ?_
  refine k_X4_has (pc := 5) lm_RX7_140  (by decide) (Nat.le_of_ble_eq_true rfl) dX7_duel_5 (by decide) (fun w1 h1 => ?_)
  refine r_if_eq (pc := 8) 20 dX7_duel_8 (by decide) (fun h2 => ?_) (fun h2 => ?_)
  · refine r_iconst (pc := 20) dX7_duel_20 kc_iconst_m1 ?_
    exact r_iret (pc := 21) rfl dX7_duel_21
  · refine r_iload_n (pc := 11) 2 dX7_duel_11 rfl rfl ?_
    refine r_if_lt (pc := 12) 20 dX7_duel_12 (by decide) (fun h3 => ?_) (fun h3 => ?_)
    · refine r_iconst (pc := 20) dX7_duel_20 kc_iconst_m1 ?_
      exact r_iret (pc := 21) rfl dX7_duel_21
    · refine r_iload_n (pc := 15) 2 dX7_duel_15 rfl rfl ?_
      refine r_iconst (pc := 16) dX7_duel_16 kc_iconst_4 ?_
      refine r_icmp_le (pc := 17) 22 dX7_duel_17 (by decide) (fun h4 => ?_) (fun h4 => ?_)
      · refine r_aload_n (pc := 22) 0 dX7_duel_22 rfl rfl ?_
        refine g_X7_turns (pc := 23)  lf_RX7_56 dX7_duel_23 ?_
        refine r_aload_n (pc := 26) 0 dX7_duel_26 rfl rfl ?_
        refine g_X7_screen (pc := 27)  lf_RX7_24 dX7_duel_27 ?_
        refine r_iload_n (pc := 30) 1 dX7_duel_30 rfl rfl ?_
        refine r_iload_n (pc := 31) 2 dX7_duel_31 rfl rfl ?_
        refine k_X6_cellsInTheEnd (pc := 32) lm_RX7_276  (by decide) (Nat.le_of_ble_eq_true rfl) dX7_duel_32 (by decide) (fun w2 h5 => ?_)
        exact r_iret (pc := 35) rfl dX7_duel_35
      · refine r_iconst (pc := 20) dX7_duel_20 kc_iconst_m1 ?_
        exact r_iret (pc := 21) rfl dX7_duel_21
theorem ok_X7_duel : yOk yX7_duel cX7_duel 3 (some .int) := ⟨in_lwG (by decide +kernel) rfl, in_lwG (by decide +kernel) rfl, by decide, by decide, by decide⟩
theorem k_X7_duel {en : En} {Ex : (Nat → Prop) → State → Prop} {mi : Mi} {α : Type} {ev : α → Option Value × Sg} {pc index : Nat} {lv : List (Nat × Value)} {rest : List Value} {σ : Sg} {N : Nat} {k : (Int32 × Sg) → Option α} {p0 : Int32} {p1 : Int32} (hlink : Cond.methodLink mi.1 index yX7_duel ∈ lwG) (hroom : 4 + 1 ≤ mi.2.2.2.2) (hcat : (rest.map fun v => v.category).sum ≤ 8) (hd : decode mi.2.1 pc = .ok (.invokevirtual index, 3))  (h : ∀ w : Int32 × Sg, f_X7_duel N p0 p1 σ = some w → RR en Ex mi ev (pc + 3) lv (.int w.1 :: rest) w.2 (k w)) : RR en Ex mi ev pc lv (.int p1 :: .int p0 :: .ref (ad en 0 0 0) :: rest) σ ((f_X7_duel N p0 p1 σ).bind k) :=
  r_callV (n := 2) [.int p0, .int p1] ok_X7_duel hlink (in_lwG (by decide +kernel) rfl) (in_lwG (by decide +kernel) rfl) (by decide +kernel) rfl hroom (by decide) o0 rfl rfl hcat (R_X7_duel en N p0 p1  σ) (Nat.le_of_ble_eq_true rfl) hd h
set_option maxHeartbeats 4000000 in
theorem R_X7_isText (en : En) (N : Nat) (p0 : Int32)  (σ : Sg) : RR en ExT mi_X7_isText evI 0 [(0, .int p0)] [] σ (f_X7_isText N p0 σ) := by
  unfold f_X7_isText
  refine r_iload_n (pc := 0) 0 dX7_isText_0 rfl rfl ?_
  refine r_if_lt (pc := 1) 13 dX7_isText_1 (by decide) (fun h1 => ?_) (fun h1 => ?_)
  · refine r_iconst (pc := 13) dX7_isText_13 kc_iconst_0 ?_
    exact r_zret (pc := 14) rfl rfl dX7_isText_14
  · refine r_iload_n (pc := 4) 0 dX7_isText_4 rfl rfl ?_
    refine r_iconst (pc := 5) dX7_isText_5 kc_iconst_4 ?_
    refine r_icmp_ge (pc := 6) 13 dX7_isText_6 (by decide) (fun h2 => ?_) (fun h2 => ?_)
    · refine r_iconst (pc := 13) dX7_isText_13 kc_iconst_0 ?_
      exact r_zret (pc := 14) rfl rfl dX7_isText_14
    · refine r_iconst (pc := 9) dX7_isText_9 kc_iconst_1 ?_
      refine r_goto (pc := 10) 14 dX7_isText_10 (by decide) ?_
      exact r_zret (pc := 14) rfl rfl dX7_isText_14
theorem ok_X7_isText : yOk yX7_isText cX7_isText 1 (some .boolean) := ⟨in_lwG (by decide +kernel) rfl, in_lwG (by decide +kernel) rfl, by decide, by decide, by decide⟩
theorem k_X7_isText {en : En} {Ex : (Nat → Prop) → State → Prop} {mi : Mi} {α : Type} {ev : α → Option Value × Sg} {pc index : Nat} {lv : List (Nat × Value)} {rest : List Value} {σ : Sg} {N : Nat} {k : (Int32 × Sg) → Option α} {p0 : Int32} (hlink : Cond.methodLink mi.1 index yX7_isText ∈ lwG) (hroom : 1 + 1 ≤ mi.2.2.2.2) (hcat : (rest.map fun v => v.category).sum ≤ 8) (hd : decode mi.2.1 pc = .ok (.invokestatic index, 3))  (h : ∀ w : Int32 × Sg, f_X7_isText N p0 σ = some w → RR en Ex mi ev (pc + 3) lv (.int w.1 :: rest) w.2 (k w)) : RR en Ex mi ev pc lv (.int p0 :: rest) σ ((f_X7_isText N p0 σ).bind k) :=
  r_callS (n := 1) [.int p0] ok_X7_isText hlink (in_lwG (by decide +kernel) rfl) (by decide +kernel) rfl hroom (by decide) hcat (R_X7_isText en N p0  σ) (Nat.le_of_ble_eq_true rfl) hd h
set_option maxHeartbeats 4000000 in
theorem R_X7_fault (en : En) (N : Nat) (p0 : Int32)  (σ : Sg) : RR en ExT mi_X7_fault evI 0 [(0, .ref (ad en 0 0 0)), (1, .int p0)] [] σ (f_X7_fault N p0 σ) := by
  unfold f_X7_fault
  refine r_iload_n (pc := 0) 1 dX7_fault_0 rfl rfl ?_
  refine k_X7_isText (pc := 1) lm_RX7_122  (by decide) (Nat.le_of_ble_eq_true rfl) dX7_fault_1 (fun w1 h1 => ?_)
  refine r_if_ne (pc := 4) 9 dX7_fault_4 (by decide) (fun h2 => ?_) (fun h2 => ?_)
  · refine r_iconst (pc := 7) dX7_fault_7 kc_iconst_m1 ?_
    exact r_iret (pc := 8) rfl dX7_fault_8
  · refine r_aload_n (pc := 9) 0 dX7_fault_9 rfl rfl ?_
    refine g_X7_texts (pc := 10)  lf_RX7_17 dX7_fault_10 ?_
    refine r_iload_n (pc := 13) 1 dX7_fault_13 rfl rfl ?_
    refine r_aald (pc := 14) (n := 4) (k := 4) o4 rfl rfl rfl dX7_fault_14 (fun h3 => ?_)
    refine g_X5_size (pc := 15) (ib_lt h3) lf_RX7_126 dX7_fault_15 ?_
    refine r_iconst (pc := 18) dX7_fault_18 kc_iconst_m1 ?_
    refine r_icmp_ne (pc := 19) 28 dX7_fault_19 (by decide) (fun h4 => ?_) (fun h4 => ?_)
    · refine r_aload_n (pc := 22) 0 dX7_fault_22 rfl rfl ?_
      refine r_iconst (pc := 23) dX7_fault_23 kc_iconst_1 ?_
      refine k_X7_found (pc := 24) lm_RX7_92  (by decide) (Nat.le_of_ble_eq_true rfl) dX7_fault_24 (fun w2 h5 => ?_)
      exact r_iret (pc := 27) rfl dX7_fault_27
    · refine r_aload_n (pc := 28) 0 dX7_fault_28 rfl rfl ?_
      refine g_X7_texts (pc := 29)  lf_RX7_17 dX7_fault_29 ?_
      refine r_iload_n (pc := 32) 1 dX7_fault_32 rfl rfl ?_
      refine r_aald (pc := 33) (n := 4) (k := 4) o4 rfl rfl rfl dX7_fault_33 (fun h6 => ?_)
      refine r_aload_n (pc := 34) 0 dX7_fault_34 rfl rfl ?_
      refine g_X7_aside (pc := 35)  lf_RX7_43 dX7_fault_35 ?_
      refine k_X5_readInto (pc := 38) lm_RX7_131  (by decide) (Nat.le_of_ble_eq_true rfl) dX7_fault_38 (ib_lt h6) (by decide) (fun w3 h7 => ?_)
      exact r_iret (pc := 41) rfl dX7_fault_41
theorem ok_X7_fault : yOk yX7_fault cX7_fault 2 (some .int) := ⟨in_lwG (by decide +kernel) rfl, in_lwG (by decide +kernel) rfl, by decide, by decide, by decide⟩
theorem k_X7_fault {en : En} {Ex : (Nat → Prop) → State → Prop} {mi : Mi} {α : Type} {ev : α → Option Value × Sg} {pc index : Nat} {lv : List (Nat × Value)} {rest : List Value} {σ : Sg} {N : Nat} {k : (Int32 × Sg) → Option α} {p0 : Int32} (hlink : Cond.methodLink mi.1 index yX7_fault ∈ lwG) (hroom : 6 + 1 ≤ mi.2.2.2.2) (hcat : (rest.map fun v => v.category).sum ≤ 8) (hd : decode mi.2.1 pc = .ok (.invokevirtual index, 3))  (h : ∀ w : Int32 × Sg, f_X7_fault N p0 σ = some w → RR en Ex mi ev (pc + 3) lv (.int w.1 :: rest) w.2 (k w)) : RR en Ex mi ev pc lv (.int p0 :: .ref (ad en 0 0 0) :: rest) σ ((f_X7_fault N p0 σ).bind k) :=
  r_callV (n := 1) [.int p0] ok_X7_fault hlink (in_lwG (by decide +kernel) rfl) (in_lwG (by decide +kernel) rfl) (by decide +kernel) rfl hroom (by decide) o0 rfl rfl hcat (R_X7_fault en N p0  σ) (Nat.le_of_ble_eq_true rfl) hd h
set_option maxHeartbeats 4000000 in
theorem R_X7_finding (en : En) (N : Nat)  (σ : Sg) : RR en ExT mi_X7_finding evI 0 [(0, .ref (ad en 0 0 0))] [] σ (f_X7_finding N σ) := by
  unfold f_X7_finding
  refine r_aload_n (pc := 0) 0 dX7_finding_0 rfl rfl ?_
  refine g_X7_latestFinding (pc := 1)  lf_RX7_69 dX7_finding_1 ?_
  exact r_iret (pc := 4) rfl dX7_finding_4
theorem ok_X7_finding : yOk yX7_finding cX7_finding 1 (some .int) := ⟨in_lwG (by decide +kernel) rfl, in_lwG (by decide +kernel) rfl, by decide, by decide, by decide⟩
theorem k_X7_finding {en : En} {Ex : (Nat → Prop) → State → Prop} {mi : Mi} {α : Type} {ev : α → Option Value × Sg} {pc index : Nat} {lv : List (Nat × Value)} {rest : List Value} {σ : Sg} {N : Nat} {k : (Int32 × Sg) → Option α}  (hlink : Cond.methodLink mi.1 index yX7_finding ∈ lwG) (hroom : 1 + 1 ≤ mi.2.2.2.2) (hcat : (rest.map fun v => v.category).sum ≤ 8) (hd : decode mi.2.1 pc = .ok (.invokevirtual index, 3))  (h : ∀ w : Int32 × Sg, f_X7_finding N  σ = some w → RR en Ex mi ev (pc + 3) lv (.int w.1 :: rest) w.2 (k w)) : RR en Ex mi ev pc lv (.ref (ad en 0 0 0) :: rest) σ ((f_X7_finding N  σ).bind k) :=
  r_callV (n := 0) [] ok_X7_finding hlink (in_lwG (by decide +kernel) rfl) (in_lwG (by decide +kernel) rfl) (by decide +kernel) rfl hroom (by decide) o0 rfl rfl hcat (R_X7_finding en N   σ) (Nat.le_of_ble_eq_true rfl) hd h
set_option maxHeartbeats 4000000 in
theorem R_X7_findings (en : En) (N : Nat) (p0 : Int32)  (σ : Sg) : RR en ExT mi_X7_findings evI 0 [(0, .ref (ad en 0 0 0)), (1, .int p0)] [] σ (f_X7_findings N p0 σ) := by
  unfold f_X7_findings
  refine r_iload_n (pc := 0) 1 dX7_findings_0 rfl rfl ?_
  refine r_iconst (pc := 1) dX7_findings_1 kc_iconst_1 ?_
  refine r_icmp_lt (pc := 2) 10 dX7_findings_2 (by decide) (fun h1 => ?_) (fun h1 => ?_)
  · refine r_iconst (pc := 10) dX7_findings_10 kc_iconst_m1 ?_
    refine r_goto (pc := 11) 20 dX7_findings_11 (by decide) ?_
    exact r_iret (pc := 20) rfl dX7_findings_20
  · refine r_iload_n (pc := 5) 1 dX7_findings_5 rfl rfl ?_
    refine r_iconst (pc := 6) dX7_findings_6 kc_iconst_5 ?_
    refine r_icmp_le (pc := 7) 14 dX7_findings_7 (by decide) (fun h2 => ?_) (fun h2 => ?_)
    · refine r_aload_n (pc := 14) 0 dX7_findings_14 rfl rfl ?_
      refine g_X7_foundTimes (pc := 15)  lf_RX7_65 dX7_findings_15 ?_
      refine r_iload_n (pc := 18) 1 dX7_findings_18 rfl rfl ?_
      refine r_iald (pc := 19) (n := 6) o20 rfl dX7_findings_19 (fun h3 => ?_)
      exact r_iret (pc := 20) rfl dX7_findings_20
    · refine r_iconst (pc := 10) dX7_findings_10 kc_iconst_m1 ?_
      refine r_goto (pc := 11) 20 dX7_findings_11 (by decide) ?_
      exact r_iret (pc := 20) rfl dX7_findings_20
theorem ok_X7_findings : yOk yX7_findings cX7_findings 2 (some .int) := ⟨in_lwG (by decide +kernel) rfl, in_lwG (by decide +kernel) rfl, by decide, by decide, by decide⟩
theorem k_X7_findings {en : En} {Ex : (Nat → Prop) → State → Prop} {mi : Mi} {α : Type} {ev : α → Option Value × Sg} {pc index : Nat} {lv : List (Nat × Value)} {rest : List Value} {σ : Sg} {N : Nat} {k : (Int32 × Sg) → Option α} {p0 : Int32} (hlink : Cond.methodLink mi.1 index yX7_findings ∈ lwG) (hroom : 1 + 1 ≤ mi.2.2.2.2) (hcat : (rest.map fun v => v.category).sum ≤ 8) (hd : decode mi.2.1 pc = .ok (.invokevirtual index, 3))  (h : ∀ w : Int32 × Sg, f_X7_findings N p0 σ = some w → RR en Ex mi ev (pc + 3) lv (.int w.1 :: rest) w.2 (k w)) : RR en Ex mi ev pc lv (.int p0 :: .ref (ad en 0 0 0) :: rest) σ ((f_X7_findings N p0 σ).bind k) :=
  r_callV (n := 1) [.int p0] ok_X7_findings hlink (in_lwG (by decide +kernel) rfl) (in_lwG (by decide +kernel) rfl) (by decide +kernel) rfl hroom (by decide) o0 rfl rfl hcat (R_X7_findings en N p0  σ) (Nat.le_of_ble_eq_true rfl) hd h
set_option maxHeartbeats 4000000 in
theorem R_X7_refusalOfOpen (en : En) (N : Nat) (p0 : Int32)  (σ : Sg) : RR en ExT mi_X7_refusalOfOpen evI 0 [(0, .ref (ad en 0 0 0)), (1, .int p0)] [] σ (f_X7_refusalOfOpen N p0 σ) := by
  unfold f_X7_refusalOfOpen
  refine r_aload_n (pc := 0) 0 dX7_refusalOfOpen_0 rfl rfl ?_
  refine g_X7_screen (pc := 1)  lf_RX7_24 dX7_refusalOfOpen_1 ?_
  refine r_iload_n (pc := 4) 1 dX7_refusalOfOpen_4 rfl rfl ?_
  refine k_X4_has (pc := 5) lm_RX7_140  (by decide) (Nat.le_of_ble_eq_true rfl) dX7_refusalOfOpen_5 (by decide) (fun w1 h1 => ?_)
  refine r_if_ne (pc := 8) 13 dX7_refusalOfOpen_8 (by decide) (fun h2 => ?_) (fun h2 => ?_)
  · refine r_iconst (pc := 11) dX7_refusalOfOpen_11 kc_iconst_m1 ?_
    exact r_iret (pc := 12) rfl dX7_refusalOfOpen_12
  · refine r_aload_n (pc := 13) 0 dX7_refusalOfOpen_13 rfl rfl ?_
    refine g_X7_screen (pc := 14)  lf_RX7_24 dX7_refusalOfOpen_14 ?_
    refine g_X4_panes (pc := 17) (by decide) lf_RX7_146 dX7_refusalOfOpen_17 ?_
    refine r_iload_n (pc := 20) 1 dX7_refusalOfOpen_20 rfl rfl ?_
    refine r_aald (pc := 21) (n := 7) (k := 7) (o8 (by decide)) rfl rfl rfl dX7_refusalOfOpen_21 (fun h3 => ?_)
    refine g_X2_open (pc := 22) (by decide) (ib_lt h3) lf_RX7_206 dX7_refusalOfOpen_22 ?_
    refine r_if_eq (pc := 25) 32 dX7_refusalOfOpen_25 (by decide) (fun h4 => ?_) (fun h4 => ?_)
    · refine r_bipush (pc := 32) dX7_refusalOfOpen_32 kc_bipush_m4 ?_
      exact r_iret (pc := 34) rfl dX7_refusalOfOpen_34
    · refine r_iconst (pc := 28) dX7_refusalOfOpen_28 kc_iconst_0 ?_
      refine r_goto (pc := 29) 34 dX7_refusalOfOpen_29 (by decide) ?_
      exact r_iret (pc := 34) rfl dX7_refusalOfOpen_34
theorem ok_X7_refusalOfOpen : yOk yX7_refusalOfOpen cX7_refusalOfOpen 2 (some .int) := ⟨in_lwG (by decide +kernel) rfl, in_lwG (by decide +kernel) rfl, by decide, by decide, by decide⟩
theorem k_X7_refusalOfOpen {en : En} {Ex : (Nat → Prop) → State → Prop} {mi : Mi} {α : Type} {ev : α → Option Value × Sg} {pc index : Nat} {lv : List (Nat × Value)} {rest : List Value} {σ : Sg} {N : Nat} {k : (Int32 × Sg) → Option α} {p0 : Int32} (hlink : Cond.methodLink mi.1 index yX7_refusalOfOpen ∈ lwG) (hroom : 2 + 1 ≤ mi.2.2.2.2) (hcat : (rest.map fun v => v.category).sum ≤ 8) (hd : decode mi.2.1 pc = .ok (.invokevirtual index, 3))  (h : ∀ w : Int32 × Sg, f_X7_refusalOfOpen N p0 σ = some w → RR en Ex mi ev (pc + 3) lv (.int w.1 :: rest) w.2 (k w)) : RR en Ex mi ev pc lv (.int p0 :: .ref (ad en 0 0 0) :: rest) σ ((f_X7_refusalOfOpen N p0 σ).bind k) :=
  r_callV (n := 1) [.int p0] ok_X7_refusalOfOpen hlink (in_lwG (by decide +kernel) rfl) (in_lwG (by decide +kernel) rfl) (by decide +kernel) rfl hroom (by decide) o0 rfl rfl hcat (R_X7_refusalOfOpen en N p0  σ) (Nat.le_of_ble_eq_true rfl) hd h
set_option maxHeartbeats 4000000 in
theorem R_X7_free (en : En) (N : Nat) (p0 : Int32)  (σ : Sg) : RR en ExT mi_X7_free evI 0 [(0, .ref (ad en 0 0 0)), (1, .int p0)] [] σ (f_X7_free N p0 σ) := by
  unfold f_X7_free
  refine r_aload_n (pc := 0) 0 dX7_free_0 rfl rfl ?_
  refine r_iload_n (pc := 1) 1 dX7_free_1 rfl rfl ?_
  refine k_X7_refusalOfOpen (pc := 2) lm_RX7_241  (by decide) (Nat.le_of_ble_eq_true rfl) dX7_free_2 (fun w1 h1 => ?_)
  refine r_istore_n (pc := 5) [(2, .int w1.1), (0, .ref (ad en 0 0 0)), (1, .int p0)] dX7_free_5 rfl (by decide) rfl ?_
  refine r_iload_n (pc := 6) 0 dX7_free_6 rfl rfl ?_
  refine r_if_eq (pc := 7) 12 dX7_free_7 (by decide) (fun h2 => ?_) (fun h2 => ?_)
  · refine r_aload_n (pc := 12) 1 dX7_free_12 rfl rfl ?_
    refine g_X7_screen (pc := 13)  lf_RX7_24 dX7_free_13 ?_
    refine r_iload_n (pc := 16) 2 dX7_free_16 rfl rfl ?_
    refine k_X4_inTheWayOf (pc := 17) lm_RX7_244  (by decide) (Nat.le_of_ble_eq_true rfl) dX7_free_17 (by decide) (fun w2 h3 => ?_)
    refine r_istore_n (pc := 20) [(3, .int w2.1), (2, .int w1.1), (0, .ref (ad en 0 0 0)), (1, .int p0)] dX7_free_20 rfl (by decide) rfl ?_
    refine r_aload_n (pc := 21) 2 dX7_free_21 rfl rfl ?_
    refine r_iload_n (pc := 22) 0 dX7_free_22 rfl rfl ?_
    refine k_J6_bitCount_0f7a4 (pc := 23) lm_RX7_247  (by decide) (Nat.le_of_ble_eq_true rfl) dX7_free_23 (fun w3 h4 => ?_)
    refine p_X7_told (pc := 26)  lf_RX7_73 dX7_free_26 ?_
    refine r_iload_n (pc := 29) 0 dX7_free_29 rfl rfl ?_
    exact r_iret (pc := 30) rfl dX7_free_30
  · refine r_iload_n (pc := 10) 0 dX7_free_10 rfl rfl ?_
    exact r_iret (pc := 11) rfl dX7_free_11
theorem ok_X7_free : yOk yX7_free cX7_free 4 (some .int) := ⟨in_lwG (by decide +kernel) rfl, in_lwG (by decide +kernel) rfl, by decide, by decide, by decide⟩
theorem k_X7_free {en : En} {Ex : (Nat → Prop) → State → Prop} {mi : Mi} {α : Type} {ev : α → Option Value × Sg} {pc index : Nat} {lv : List (Nat × Value)} {rest : List Value} {σ : Sg} {N : Nat} {k : (Int32 × Sg) → Option α} {p0 : Int32} (hlink : Cond.methodLink mi.1 index yX7_free ∈ lwG) (hroom : 4 + 1 ≤ mi.2.2.2.2) (hcat : (rest.map fun v => v.category).sum ≤ 8) (hd : decode mi.2.1 pc = .ok (.invokevirtual index, 3))  (h : ∀ w : Int32 × Sg, f_X7_free N p0 σ = some w → RR en Ex mi ev (pc + 3) lv (.int w.1 :: rest) w.2 (k w)) : RR en Ex mi ev pc lv (.int p0 :: .ref (ad en 0 0 0) :: rest) σ ((f_X7_free N p0 σ).bind k) :=
  r_callV (n := 1) [.int p0] ok_X7_free hlink (in_lwG (by decide +kernel) rfl) (in_lwG (by decide +kernel) rfl) (by decide +kernel) rfl hroom (by decide) o0 rfl rfl hcat (R_X7_free en N p0  σ) (Nat.le_of_ble_eq_true rfl) hd h
set_option maxHeartbeats 4000000 in
theorem RL_X7_greatestPart_4 (en : En) (N : Nat) {k : Int32 → Int32 → Option (Int32 × Sg)} (a1 : Int32) (σ : Sg)  (hk : ∀ (v2 : Int32) (v3 : Int32), RR en ExT mi_X7_greatestPart evI 29 [(2, .int v2)] [] σ (k v2 v3)) : ∀ (n : Nat) (v2 : Int32) (v3 : Int32), RR en ExT mi_X7_greatestPart evI 4 [(0, .ref (ad en 0 0 0)), (1, .int a1), (2, .int v2), (3, .int v3)] [] σ (L_X7_greatestPart_4 N k a1 σ n v2 v3) := by
  intro n
  induction n with
  | zero => intro v2 v3; exact r_none
  | succ n ih =>
    intro v2 v3
    rw [L_X7_greatestPart_4_s]
    refine r_iload_n (pc := 4) 3 dX7_greatestPart_4 rfl rfl ?_
    refine r_bipush (pc := 5) dX7_greatestPart_5 kc_bipush_7 ?_
    refine r_icmp_gt (pc := 7) 29 dX7_greatestPart_7 (by decide) (fun h1 => ?_) (fun h1 => ?_)
    · exact r_sub [2] rfl (hk v2 v3)
    · refine r_iload_n (pc := 10) 2 dX7_greatestPart_10 rfl rfl ?_
      refine r_aload_n (pc := 11) 0 dX7_greatestPart_11 rfl rfl ?_
      refine g_X7_parts (pc := 12)  lf_RX7_62 dX7_greatestPart_12 ?_
      refine r_iload_n (pc := 15) 3 dX7_greatestPart_15 rfl rfl ?_
      refine r_aald (pc := 16) (n := 8) (k := 8) o18 rfl rfl rfl dX7_greatestPart_16 (fun h2 => ?_)
      refine r_iload_n (pc := 17) 1 dX7_greatestPart_17 rfl rfl ?_
      refine r_iald (pc := 18) (n := 96) (o19 (ib_lt h2)) rfl dX7_greatestPart_18 (fun h3 => ?_)
      refine r_mmax (pc := 19) lm_RX7_359 (by decide) (Nat.le_of_ble_eq_true rfl) dX7_greatestPart_19 ?_
      refine r_istore_n (pc := 22) [(2, .int (if v2 < rI σ 19 v3.toNatClampNeg 0 a1.toNatClampNeg then rI σ 19 v3.toNatClampNeg 0 a1.toNatClampNeg else v2)), (0, .ref (ad en 0 0 0)), (1, .int a1), (3, .int v3)] dX7_greatestPart_22 rfl (by decide) rfl ?_
      refine r_iinc (pc := 23) 3 [(3, .int (v3 + (1 : Int32))), (2, .int (if v2 < rI σ 19 v3.toNatClampNeg 0 a1.toNatClampNeg then rI σ 19 v3.toNatClampNeg 0 a1.toNatClampNeg else v2)), (0, .ref (ad en 0 0 0)), (1, .int a1)] dX7_greatestPart_23 rfl rfl (by decide) rfl ?_
      refine r_goto (pc := 26) 4 dX7_greatestPart_26 (by decide) ?_
      exact r_sub [2, 3, 1, 0] rfl (ih (if v2 < rI σ 19 v3.toNatClampNeg 0 a1.toNatClampNeg then rI σ 19 v3.toNatClampNeg 0 a1.toNatClampNeg else v2) (v3 + (1 : Int32)))
set_option maxHeartbeats 4000000 in
theorem R_X7_greatestPart (en : En) (N : Nat) (p0 : Int32)  (σ : Sg) : RR en ExT mi_X7_greatestPart evI 0 [(0, .ref (ad en 0 0 0)), (1, .int p0)] [] σ (f_X7_greatestPart N p0 σ) := by
  unfold f_X7_greatestPart
  refine r_iconst (pc := 0) dX7_greatestPart_0 kc_iconst_0 ?_
  refine r_istore_n (pc := 1) [(2, .int (0 : Int32)), (0, .ref (ad en 0 0 0)), (1, .int p0)] dX7_greatestPart_1 rfl (by decide) rfl ?_
  refine r_iconst (pc := 2) dX7_greatestPart_2 kc_iconst_0 ?_
  refine r_istore_n (pc := 3) [(3, .int (0 : Int32)), (2, .int (0 : Int32)), (0, .ref (ad en 0 0 0)), (1, .int p0)] dX7_greatestPart_3 rfl (by decide) rfl ?_
  refine r_sub [2, 3, 1, 0] rfl (RL_X7_greatestPart_4 en N p0 σ  (fun v2_1 v3_1 => ?_) N (0 : Int32) (0 : Int32))
  refine r_iload_n (pc := 29) 0 dX7_greatestPart_29 rfl rfl ?_
  exact r_iret (pc := 30) rfl dX7_greatestPart_30
theorem ok_X7_greatestPart : yOk yX7_greatestPart cX7_greatestPart 4 (some .int) := ⟨in_lwG (by decide +kernel) rfl, in_lwG (by decide +kernel) rfl, by decide, by decide, by decide⟩
theorem k_X7_greatestPart {en : En} {Ex : (Nat → Prop) → State → Prop} {mi : Mi} {α : Type} {ev : α → Option Value × Sg} {pc index : Nat} {lv : List (Nat × Value)} {rest : List Value} {σ : Sg} {N : Nat} {k : (Int32 × Sg) → Option α} {p0 : Int32} (hlink : Cond.methodLink mi.1 index yX7_greatestPart ∈ lwG) (hroom : 2 + 1 ≤ mi.2.2.2.2) (hcat : (rest.map fun v => v.category).sum ≤ 8) (hd : decode mi.2.1 pc = .ok (.invokevirtual index, 3))  (h : ∀ w : Int32 × Sg, f_X7_greatestPart N p0 σ = some w → RR en Ex mi ev (pc + 3) lv (.int w.1 :: rest) w.2 (k w)) : RR en Ex mi ev pc lv (.int p0 :: .ref (ad en 0 0 0) :: rest) σ ((f_X7_greatestPart N p0 σ).bind k) :=
  r_callV (n := 1) [.int p0] ok_X7_greatestPart hlink (in_lwG (by decide +kernel) rfl) (in_lwG (by decide +kernel) rfl) (by decide +kernel) rfl hroom (by decide) o0 rfl rfl hcat (R_X7_greatestPart en N p0  σ) (Nat.le_of_ble_eq_true rfl) hd h
set_option maxHeartbeats 4000000 in
theorem R_X7_isKept (en : En) (N : Nat) (p0 : Int32)  (σ : Sg) : RR en ExT mi_X7_isKept evI 0 [(0, .int p0)] [] σ (f_X7_isKept N p0 σ) := by
  unfold f_X7_isKept
  refine r_iload_n (pc := 0) 0 dX7_isKept_0 rfl rfl ?_
  refine r_if_lt (pc := 1) 13 dX7_isKept_1 (by decide) (fun h1 => ?_) (fun h1 => ?_)
  · refine r_iconst (pc := 13) dX7_isKept_13 kc_iconst_0 ?_
    exact r_zret (pc := 14) rfl rfl dX7_isKept_14
  · refine r_iload_n (pc := 4) 0 dX7_isKept_4 rfl rfl ?_
    refine r_iconst (pc := 5) dX7_isKept_5 kc_iconst_3 ?_
    refine r_icmp_ge (pc := 6) 13 dX7_isKept_6 (by decide) (fun h2 => ?_) (fun h2 => ?_)
    · refine r_iconst (pc := 13) dX7_isKept_13 kc_iconst_0 ?_
      exact r_zret (pc := 14) rfl rfl dX7_isKept_14
    · refine r_iconst (pc := 9) dX7_isKept_9 kc_iconst_1 ?_
      refine r_goto (pc := 10) 14 dX7_isKept_10 (by decide) ?_
      exact r_zret (pc := 14) rfl rfl dX7_isKept_14
theorem ok_X7_isKept : yOk yX7_isKept cX7_isKept 1 (some .boolean) := ⟨in_lwG (by decide +kernel) rfl, in_lwG (by decide +kernel) rfl, by decide, by decide, by decide⟩
theorem k_X7_isKept {en : En} {Ex : (Nat → Prop) → State → Prop} {mi : Mi} {α : Type} {ev : α → Option Value × Sg} {pc index : Nat} {lv : List (Nat × Value)} {rest : List Value} {σ : Sg} {N : Nat} {k : (Int32 × Sg) → Option α} {p0 : Int32} (hlink : Cond.methodLink mi.1 index yX7_isKept ∈ lwG) (hroom : 1 + 1 ≤ mi.2.2.2.2) (hcat : (rest.map fun v => v.category).sum ≤ 8) (hd : decode mi.2.1 pc = .ok (.invokestatic index, 3))  (h : ∀ w : Int32 × Sg, f_X7_isKept N p0 σ = some w → RR en Ex mi ev (pc + 3) lv (.int w.1 :: rest) w.2 (k w)) : RR en Ex mi ev pc lv (.int p0 :: rest) σ ((f_X7_isKept N p0 σ).bind k) :=
  r_callS (n := 1) [.int p0] ok_X7_isKept hlink (in_lwG (by decide +kernel) rfl) (by decide +kernel) rfl hroom (by decide) hcat (R_X7_isKept en N p0  σ) (Nat.le_of_ble_eq_true rfl) hd h
set_option maxHeartbeats 4000000 in
theorem R_X7_keep (en : En) (N : Nat) (p0 : Int32)  (σ : Sg) : RR en ExT mi_X7_keep evI 0 [(0, .ref (ad en 0 0 0)), (1, .int p0)] [] σ (f_X7_keep N p0 σ) := by
  unfold f_X7_keep
  refine r_iload_n (pc := 0) 1 dX7_keep_0 rfl rfl ?_
  refine k_X7_isKept (pc := 1) lm_RX7_216  (by decide) (Nat.le_of_ble_eq_true rfl) dX7_keep_1 (fun w1 h1 => ?_)
  refine r_if_ne (pc := 4) 9 dX7_keep_4 (by decide) (fun h2 => ?_) (fun h2 => ?_)
  · refine r_iconst (pc := 7) dX7_keep_7 kc_iconst_m1 ?_
    exact r_iret (pc := 8) rfl dX7_keep_8
  · refine r_aload_n (pc := 9) 0 dX7_keep_9 rfl rfl ?_
    refine g_X7_screen (pc := 10)  lf_RX7_24 dX7_keep_10 ?_
    refine g_X4_size (pc := 13) (by decide) lf_RX7_139 dX7_keep_13 ?_
    refine r_if_ne (pc := 16) 22 dX7_keep_16 (by decide) (fun h3 => ?_) (fun h3 => ?_)
    · refine r_bipush (pc := 19) dX7_keep_19 kc_bipush_m4 ?_
      exact r_iret (pc := 21) rfl dX7_keep_21
    · refine r_aload_n (pc := 22) 0 dX7_keep_22 rfl rfl ?_
      refine g_X7_keptScreens (pc := 23)  lf_RX7_35 dX7_keep_23 ?_
      refine r_iload_n (pc := 26) 1 dX7_keep_26 rfl rfl ?_
      refine r_aald (pc := 27) (n := 3) (k := 5) o12 rfl rfl rfl dX7_keep_27 (fun h4 => ?_)
      refine r_aload_n (pc := 28) 0 dX7_keep_28 rfl rfl ?_
      refine g_X7_screen (pc := 29)  lf_RX7_24 dX7_keep_29 ?_
      refine k_X4_become (pc := 32) lm_RX7_135  (by decide) (Nat.le_of_ble_eq_true rfl) dX7_keep_32 (lt2 (ib_lt h4)) (by decide) (fun w2 h5 => ?_)
      refine r_aload_n (pc := 35) 0 dX7_keep_35 rfl rfl ?_
      refine g_X7_keptDeeds (pc := 36)  lf_RX7_39 dX7_keep_36 ?_
      refine r_iload_n (pc := 39) 1 dX7_keep_39 rfl rfl ?_
      refine r_aald (pc := 40) (n := 3) (k := 6) o13 rfl rfl rfl dX7_keep_40 (fun h6 => ?_)
      refine r_aload_n (pc := 41) 0 dX7_keep_41 rfl rfl ?_
      refine g_X7_deeds (pc := 42)  lf_RX7_31 dX7_keep_42 ?_
      refine k_X1_become (pc := 45) lm_RX7_219  (by decide) (Nat.le_of_ble_eq_true rfl) dX7_keep_45 (lt1 (ib_lt h6)) (by decide) (fun w3 h7 => ?_)
      refine r_aload_n (pc := 48) 0 dX7_keep_48 rfl rfl ?_
      refine g_X7_deeds (pc := 49)  lf_RX7_31 dX7_keep_49 ?_
      refine g_X1_size (pc := 52) (by decide) lf_RX7_85 dX7_keep_52 ?_
      exact r_iret (pc := 55) rfl dX7_keep_55
theorem ok_X7_keep : yOk yX7_keep cX7_keep 2 (some .int) := ⟨in_lwG (by decide +kernel) rfl, in_lwG (by decide +kernel) rfl, by decide, by decide, by decide⟩
theorem k_X7_keep {en : En} {Ex : (Nat → Prop) → State → Prop} {mi : Mi} {α : Type} {ev : α → Option Value × Sg} {pc index : Nat} {lv : List (Nat × Value)} {rest : List Value} {σ : Sg} {N : Nat} {k : (Int32 × Sg) → Option α} {p0 : Int32} (hlink : Cond.methodLink mi.1 index yX7_keep ∈ lwG) (hroom : 3 + 1 ≤ mi.2.2.2.2) (hcat : (rest.map fun v => v.category).sum ≤ 8) (hd : decode mi.2.1 pc = .ok (.invokevirtual index, 3))  (h : ∀ w : Int32 × Sg, f_X7_keep N p0 σ = some w → RR en Ex mi ev (pc + 3) lv (.int w.1 :: rest) w.2 (k w)) : RR en Ex mi ev pc lv (.int p0 :: .ref (ad en 0 0 0) :: rest) σ ((f_X7_keep N p0 σ).bind k) :=
  r_callV (n := 1) [.int p0] ok_X7_keep hlink (in_lwG (by decide +kernel) rfl) (in_lwG (by decide +kernel) rfl) (by decide +kernel) rfl hroom (by decide) o0 rfl rfl hcat (R_X7_keep en N p0  σ) (Nat.le_of_ble_eq_true rfl) hd h
set_option maxHeartbeats 4000000 in
theorem RL_X7_refusalOfSights_61 (en : En) (N : Nat) {k : Int32 → Sg → Option (Int32 × Sg)} (a2 : Int32)  (hk : ∀ (v3 : Int32) (σ : Sg), RR en ExT mi_X7_refusalOfSights evI 138 [] [] σ (k v3 σ)) : ∀ (n : Nat) (v3 : Int32) (σ : Sg), RR en ExT mi_X7_refusalOfSights evI 61 [(0, .ref (ad en 0 0 0)), (2, .int a2), (3, .int v3)] [] σ (L_X7_refusalOfSights_61 N k a2 n v3 σ) := by
  intro n
  induction n with
  | zero => intro v3 σ; exact r_none
  | succ n ih =>
    intro v3 σ
    rw [L_X7_refusalOfSights_61_s]
    refine r_iload_n (pc := 61) 2 dX7_refusalOfSights_61 rfl rfl ?_
    refine r_iconst (pc := 62) dX7_refusalOfSights_62 kc_iconst_1 ?_
    refine r_iadd (pc := 63) dX7_refusalOfSights_63 ?_
    refine r_aload_n (pc := 64) 0 dX7_refusalOfSights_64 rfl rfl ?_
    refine g_X7_rows (pc := 65)  lf_RX7_11 dX7_refusalOfSights_65 ?_
    refine r_iload_n (pc := 68) 1 dX7_refusalOfSights_68 rfl rfl ?_
    refine r_aald (pc := 69) (n := 6) (k := 3) o1 rfl rfl rfl dX7_refusalOfSights_69 (fun h10 => ?_)
    refine g_X3_size (pc := 70) (ib_lt h10) lf_RX7_107 dX7_refusalOfSights_70 ?_
    refine r_icmp_ge (pc := 73) 138 dX7_refusalOfSights_73 (by decide) (fun h11 => ?_) (fun h11 => ?_)
    · exact r_sub [] rfl (hk v3 σ)
    · refine r_aload_n (pc := 76) 0 dX7_refusalOfSights_76 rfl rfl ?_
      refine g_X7_rows (pc := 77)  lf_RX7_11 dX7_refusalOfSights_77 ?_
      refine r_iload_n (pc := 80) 1 dX7_refusalOfSights_80 rfl rfl ?_
      refine r_aald (pc := 81) (n := 6) (k := 3) o1 rfl rfl rfl dX7_refusalOfSights_81 (fun h12 => ?_)
      refine g_X3_ints (pc := 82) (ib_lt h12) lf_RX7_104 dX7_refusalOfSights_82 ?_
      refine r_iload_n (pc := 85) 2 dX7_refusalOfSights_85 rfl rfl ?_
      refine r_iconst (pc := 86) dX7_refusalOfSights_86 kc_iconst_1 ?_
      refine r_iadd (pc := 87) dX7_refusalOfSights_87 ?_
      refine r_iald (pc := 88) (n := 40) (o3 (ib_lt h12)) rfl dX7_refusalOfSights_88 (fun h13 => ?_)
      refine r_istore (pc := 89) [(4, .int (rI σ 3 a2.toNatClampNeg 0 (v3 + (1 : Int32)).toNatClampNeg)), (0, .ref (ad en 0 0 0)), (2, .int a2), (3, .int v3)] dX7_refusalOfSights_89 (by decide) rfl ?_
      refine r_aload_n (pc := 91) 1 dX7_refusalOfSights_91 rfl rfl ?_
      refine g_X7_rows (pc := 92)  lf_RX7_11 dX7_refusalOfSights_92 ?_
      refine r_iload_n (pc := 95) 2 dX7_refusalOfSights_95 rfl rfl ?_
      refine r_aald (pc := 96) (n := 6) (k := 3) o1 rfl rfl rfl dX7_refusalOfSights_96 (fun h14 => ?_)
      refine g_X3_ints (pc := 97) (ib_lt h14) lf_RX7_104 dX7_refusalOfSights_97 ?_
      refine r_iload_n (pc := 100) 3 dX7_refusalOfSights_100 rfl rfl ?_
      refine r_iald (pc := 101) (n := 40) (o3 (ib_lt h14)) rfl dX7_refusalOfSights_101 (fun h15 => ?_)
      refine k_X7_isCell (pc := 102) lm_RX7_174  (by decide) (Nat.le_of_ble_eq_true rfl) dX7_refusalOfSights_102 (fun w4 h16 => ?_)
      refine r_if_eq (pc := 105) 126 dX7_refusalOfSights_105 (by decide) (fun h17 => ?_) (fun h17 => ?_)
      · refine r_aload_n (pc := 126) 1 dX7_refusalOfSights_126 rfl rfl ?_
        refine r_iconst (pc := 127) dX7_refusalOfSights_127 kc_iconst_3 ?_
        refine k_X7_found (pc := 128) lm_RX7_92  (by decide) (Nat.le_of_ble_eq_true rfl) dX7_refusalOfSights_128 (fun w5 h18 => ?_)
        exact r_iret (pc := 131) rfl dX7_refusalOfSights_131
      · refine r_iload (pc := 108) 0 dX7_refusalOfSights_108 rfl ?_
        refine r_iconst (pc := 110) dX7_refusalOfSights_110 kc_iconst_m1 ?_
        refine r_icmp_eq (pc := 111) 132 dX7_refusalOfSights_111 (by decide) (fun h19 => ?_) (fun h19 => ?_)
        · refine r_iinc (pc := 132) 3 [(3, .int (v3 + (2 : Int32))), (4, .int (rI σ 3 a2.toNatClampNeg 0 (v3 + (1 : Int32)).toNatClampNeg)), (0, .ref (ad en 0 0 0)), (2, .int a2)] dX7_refusalOfSights_132 rfl rfl (by decide) rfl ?_
          refine r_goto (pc := 135) 61 dX7_refusalOfSights_135 (by decide) ?_
          exact r_sub [2, 3, 0] rfl (ih (v3 + (2 : Int32)) w4.2)
        · refine r_aload_n (pc := 114) 1 dX7_refusalOfSights_114 rfl rfl ?_
          refine g_X7_screen (pc := 115)  lf_RX7_24 dX7_refusalOfSights_115 ?_
          refine r_iload (pc := 118) 0 dX7_refusalOfSights_118 rfl ?_
          refine k_X4_has (pc := 120) lm_RX7_140  (by decide) (Nat.le_of_ble_eq_true rfl) dX7_refusalOfSights_120 (by decide) (fun w6 h20 => ?_)
          refine r_if_ne (pc := 123) 132 dX7_refusalOfSights_123 (by decide) (fun h21 => ?_) (fun h21 => ?_)
          · refine r_aload_n (pc := 126) 1 dX7_refusalOfSights_126 rfl rfl ?_
            refine r_iconst (pc := 127) dX7_refusalOfSights_127 kc_iconst_3 ?_
            refine k_X7_found (pc := 128) lm_RX7_92  (by decide) (Nat.le_of_ble_eq_true rfl) dX7_refusalOfSights_128 (fun w7 h22 => ?_)
            exact r_iret (pc := 131) rfl dX7_refusalOfSights_131
          · refine r_iinc (pc := 132) 3 [(3, .int (v3 + (2 : Int32))), (4, .int (rI σ 3 a2.toNatClampNeg 0 (v3 + (1 : Int32)).toNatClampNeg)), (0, .ref (ad en 0 0 0)), (2, .int a2)] dX7_refusalOfSights_132 rfl rfl (by decide) rfl ?_
            refine r_goto (pc := 135) 61 dX7_refusalOfSights_135 (by decide) ?_
            exact r_sub [2, 3, 0] rfl (ih (v3 + (2 : Int32)) w6.2)
set_option maxHeartbeats 4000000 in
theorem R_X7_refusalOfSights (en : En) (N : Nat) (p0 : Int32) (p1 : Int32)  (σ : Sg) : RR en ExT mi_X7_refusalOfSights evI 0 [(0, .ref (ad en 0 0 0)), (1, .int p0), (2, .int p1)] [] σ (f_X7_refusalOfSights N p0 p1 σ) := by
  unfold f_X7_refusalOfSights
  refine r_aload_n (pc := 0) 0 dX7_refusalOfSights_0 rfl rfl ?_
  refine g_X7_screen (pc := 1)  lf_RX7_24 dX7_refusalOfSights_1 ?_
  refine r_iload_n (pc := 4) 1 dX7_refusalOfSights_4 rfl rfl ?_
  refine k_X4_has (pc := 5) lm_RX7_140  (by decide) (Nat.le_of_ble_eq_true rfl) dX7_refusalOfSights_5 (by decide) (fun w1 h1 => ?_)
  refine r_if_eq (pc := 8) 18 dX7_refusalOfSights_8 (by decide) (fun h2 => ?_) (fun h2 => ?_)
  · refine r_iconst (pc := 18) dX7_refusalOfSights_18 kc_iconst_m1 ?_
    exact r_iret (pc := 19) rfl dX7_refusalOfSights_19
  · refine r_iload_n (pc := 11) 2 dX7_refusalOfSights_11 rfl rfl ?_
    refine k_X7_isRow (pc := 12) lm_RX7_88  (by decide) (Nat.le_of_ble_eq_true rfl) dX7_refusalOfSights_12 (fun w2 h3 => ?_)
    refine r_if_ne (pc := 15) 20 dX7_refusalOfSights_15 (by decide) (fun h4 => ?_) (fun h4 => ?_)
    · refine r_iconst (pc := 18) dX7_refusalOfSights_18 kc_iconst_m1 ?_
      exact r_iret (pc := 19) rfl dX7_refusalOfSights_19
    · refine r_aload_n (pc := 20) 0 dX7_refusalOfSights_20 rfl rfl ?_
      refine g_X7_rows (pc := 21)  lf_RX7_11 dX7_refusalOfSights_21 ?_
      refine r_iload_n (pc := 24) 2 dX7_refusalOfSights_24 rfl rfl ?_
      refine r_aald (pc := 25) (n := 6) (k := 3) o1 rfl rfl rfl dX7_refusalOfSights_25 (fun h5 => ?_)
      refine g_X3_size (pc := 26) (ib_lt h5) lf_RX7_107 dX7_refusalOfSights_26 ?_
      refine r_iconst (pc := 29) dX7_refusalOfSights_29 kc_iconst_m1 ?_
      refine r_icmp_ne (pc := 30) 39 dX7_refusalOfSights_30 (by decide) (fun h6 => ?_) (fun h6 => ?_)
      · refine r_aload_n (pc := 33) 0 dX7_refusalOfSights_33 rfl rfl ?_
        refine r_iconst (pc := 34) dX7_refusalOfSights_34 kc_iconst_1 ?_
        refine k_X7_found (pc := 35) lm_RX7_92  (by decide) (Nat.le_of_ble_eq_true rfl) dX7_refusalOfSights_35 (fun w3 h7 => ?_)
        exact r_iret (pc := 38) rfl dX7_refusalOfSights_38
      · refine r_aload_n (pc := 39) 0 dX7_refusalOfSights_39 rfl rfl ?_
        refine g_X7_rows (pc := 40)  lf_RX7_11 dX7_refusalOfSights_40 ?_
        refine r_iload_n (pc := 43) 2 dX7_refusalOfSights_43 rfl rfl ?_
        refine r_aald (pc := 44) (n := 6) (k := 3) o1 rfl rfl rfl dX7_refusalOfSights_44 (fun h8 => ?_)
        refine g_X3_size (pc := 45) (ib_lt h8) lf_RX7_107 dX7_refusalOfSights_45 ?_
        refine r_iconst (pc := 48) dX7_refusalOfSights_48 kc_iconst_2 ?_
        refine r_irem (pc := 49) dX7_refusalOfSights_49 (by decide) ?_
        refine r_if_eq (pc := 50) 59 dX7_refusalOfSights_50 (by decide) (fun h9 => ?_) (fun h9 => ?_)
        · refine r_iconst (pc := 59) dX7_refusalOfSights_59 kc_iconst_0 ?_
          refine r_istore_n (pc := 60) [(3, .int (0 : Int32)), (0, .ref (ad en 0 0 0)), (1, .int p0), (2, .int p1)] dX7_refusalOfSights_60 rfl (by decide) rfl ?_
          refine r_sub [1, 3, 0] rfl (RL_X7_refusalOfSights_61 en N p1  (fun v3_8 σ_8 => ?_) N (0 : Int32) w2.2)
          refine r_iconst (pc := 138) dX7_refusalOfSights_138 kc_iconst_0 ?_
          exact r_iret (pc := 139) rfl dX7_refusalOfSights_139
        · refine r_aload_n (pc := 53) 0 dX7_refusalOfSights_53 rfl rfl ?_
          refine r_iconst (pc := 54) dX7_refusalOfSights_54 kc_iconst_5 ?_
          refine k_X7_found (pc := 55) lm_RX7_92  (by decide) (Nat.le_of_ble_eq_true rfl) dX7_refusalOfSights_55 (fun w9 h23 => ?_)
          exact r_iret (pc := 58) rfl dX7_refusalOfSights_58
theorem ok_X7_refusalOfSights : yOk yX7_refusalOfSights cX7_refusalOfSights 5 (some .int) := ⟨in_lwG (by decide +kernel) rfl, in_lwG (by decide +kernel) rfl, by decide, by decide, by decide⟩
theorem k_X7_refusalOfSights {en : En} {Ex : (Nat → Prop) → State → Prop} {mi : Mi} {α : Type} {ev : α → Option Value × Sg} {pc index : Nat} {lv : List (Nat × Value)} {rest : List Value} {σ : Sg} {N : Nat} {k : (Int32 × Sg) → Option α} {p0 : Int32} {p1 : Int32} (hlink : Cond.methodLink mi.1 index yX7_refusalOfSights ∈ lwG) (hroom : 2 + 1 ≤ mi.2.2.2.2) (hcat : (rest.map fun v => v.category).sum ≤ 8) (hd : decode mi.2.1 pc = .ok (.invokevirtual index, 3))  (h : ∀ w : Int32 × Sg, f_X7_refusalOfSights N p0 p1 σ = some w → RR en Ex mi ev (pc + 3) lv (.int w.1 :: rest) w.2 (k w)) : RR en Ex mi ev pc lv (.int p1 :: .int p0 :: .ref (ad en 0 0 0) :: rest) σ ((f_X7_refusalOfSights N p0 p1 σ).bind k) :=
  r_callV (n := 2) [.int p0, .int p1] ok_X7_refusalOfSights hlink (in_lwG (by decide +kernel) rfl) (in_lwG (by decide +kernel) rfl) (by decide +kernel) rfl hroom (by decide) o0 rfl rfl hcat (R_X7_refusalOfSights en N p0 p1  σ) (Nat.le_of_ble_eq_true rfl) hd h
set_option maxHeartbeats 4000000 in
theorem RL_X7_possibleKinds_16 (en : En) (N : Nat) {k : Int32 → Int32 → Sg → Option (Int32 × Sg)} (a1 : Int32) (a2i : Nat) (ha2i : a2i < 6) (hk : ∀ (v3 : Int32) (v4 : Int32) (σ : Sg), RR en ExT mi_X7_possibleKinds evI 61 [(3, .int v3)] [] σ (k v3 v4 σ)) : ∀ (n : Nat) (v3 : Int32) (v4 : Int32) (σ : Sg), RR en ExT mi_X7_possibleKinds evI 16 [(0, .ref (ad en 0 0 0)), (1, .int a1), (2, .ref (ad en 2 a2i 0)), (3, .int v3), (4, .int v4)] [] σ (L_X7_possibleKinds_16 N k a1 a2i n v3 v4 σ) := by
  intro n
  induction n with
  | zero => intro v3 v4 σ; exact r_none
  | succ n ih =>
    intro v3 v4 σ
    rw [L_X7_possibleKinds_16_s]
    refine r_iload (pc := 16) 4 dX7_possibleKinds_16 rfl ?_
    refine r_bipush (pc := 18) dX7_possibleKinds_18 kc_bipush_6 ?_
    refine r_icmp_ge (pc := 20) 61 dX7_possibleKinds_20 (by decide) (fun h2 => ?_) (fun h2 => ?_)
    · exact r_sub [3] rfl (hk v3 v4 σ)
    · refine r_aload_n (pc := 23) 0 dX7_possibleKinds_23 rfl rfl ?_
      refine g_X7_aside (pc := 24)  lf_RX7_43 dX7_possibleKinds_24 ?_
      refine g_X4_panes (pc := 27) (by decide) lf_RX7_146 dX7_possibleKinds_27 ?_
      refine r_iload_n (pc := 30) 1 dX7_possibleKinds_30 rfl rfl ?_
      refine r_aald (pc := 31) (n := 7) (k := 7) (o8 (by decide)) rfl rfl rfl dX7_possibleKinds_31 (fun h3 => ?_)
      refine r_iload (pc := 32) 4 dX7_possibleKinds_32 rfl ?_
      refine k_X2_turnInto (pc := 34) lm_RX7_350  (by decide) (Nat.le_of_ble_eq_true rfl) dX7_possibleKinds_34 (by decide) (ib_lt h3) (fun w2 h4 => ?_)
      refine r_aload_n (pc := 37) 0 dX7_possibleKinds_37 rfl rfl ?_
      refine g_X7_aside (pc := 38)  lf_RX7_43 dX7_possibleKinds_38 ?_
      refine r_aload_n (pc := 41) 2 dX7_possibleKinds_41 rfl rfl ?_
      refine k_X4_agreesWith (pc := 42) lm_RX7_266  (by decide) (Nat.le_of_ble_eq_true rfl) dX7_possibleKinds_42 (by decide) ha2i (fun w3 h5 => ?_)
      refine r_if_eq (pc := 45) 55 dX7_possibleKinds_45 (by decide) (fun h6 => ?_) (fun h6 => ?_)
      · refine r_iinc (pc := 55) 4 [(4, .int (v4 + (1 : Int32))), (0, .ref (ad en 0 0 0)), (1, .int a1), (2, .ref (ad en 2 a2i 0)), (3, .int v3)] dX7_possibleKinds_55 rfl rfl (by decide) rfl ?_
        refine r_goto (pc := 58) 16 dX7_possibleKinds_58 (by decide) ?_
        exact r_sub [1, 2, 3, 4, 0] rfl (ih v3 (v4 + (1 : Int32)) w3.2)
      · refine r_iload_n (pc := 48) 3 dX7_possibleKinds_48 rfl rfl ?_
        refine r_iconst (pc := 49) dX7_possibleKinds_49 kc_iconst_1 ?_
        refine r_iload (pc := 50) 4 dX7_possibleKinds_50 rfl ?_
        refine r_ishl (pc := 52) dX7_possibleKinds_52 ?_
        refine r_ior (pc := 53) dX7_possibleKinds_53 ?_
        refine r_istore_n (pc := 54) [(3, .int (v3 ||| ((1 : Int32) <<< (v4 &&& 31)))), (0, .ref (ad en 0 0 0)), (1, .int a1), (2, .ref (ad en 2 a2i 0)), (4, .int v4)] dX7_possibleKinds_54 rfl (by decide) rfl ?_
        refine r_iinc (pc := 55) 4 [(4, .int (v4 + (1 : Int32))), (3, .int (v3 ||| ((1 : Int32) <<< (v4 &&& 31)))), (0, .ref (ad en 0 0 0)), (1, .int a1), (2, .ref (ad en 2 a2i 0))] dX7_possibleKinds_55 rfl rfl (by decide) rfl ?_
        refine r_goto (pc := 58) 16 dX7_possibleKinds_58 (by decide) ?_
        exact r_sub [2, 3, 4, 1, 0] rfl (ih (v3 ||| ((1 : Int32) <<< (v4 &&& 31))) (v4 + (1 : Int32)) w3.2)
set_option maxHeartbeats 4000000 in
theorem R_X7_possibleKinds (en : En) (N : Nat) (p0 : Int32) (q1i : Nat) (hq1i : q1i < 6) (σ : Sg) : RR en ExT mi_X7_possibleKinds evI 0 [(0, .ref (ad en 0 0 0)), (1, .int p0), (2, .ref (ad en 2 q1i 0))] [] σ (f_X7_possibleKinds N p0 q1i σ) := by
  unfold f_X7_possibleKinds
  refine r_aload_n (pc := 0) 0 dX7_possibleKinds_0 rfl rfl ?_
  refine g_X7_aside (pc := 1)  lf_RX7_43 dX7_possibleKinds_1 ?_
  refine r_aload_n (pc := 4) 0 dX7_possibleKinds_4 rfl rfl ?_
  refine g_X7_screen (pc := 5)  lf_RX7_24 dX7_possibleKinds_5 ?_
  refine k_X4_become (pc := 8) lm_RX7_135  (by decide) (Nat.le_of_ble_eq_true rfl) dX7_possibleKinds_8 (by decide) (by decide) (fun w1 h1 => ?_)
  refine r_iconst (pc := 11) dX7_possibleKinds_11 kc_iconst_0 ?_
  refine r_istore_n (pc := 12) [(3, .int (0 : Int32)), (0, .ref (ad en 0 0 0)), (1, .int p0), (2, .ref (ad en 2 q1i 0))] dX7_possibleKinds_12 rfl (by decide) rfl ?_
  refine r_iconst (pc := 13) dX7_possibleKinds_13 kc_iconst_0 ?_
  refine r_istore (pc := 14) [(4, .int (0 : Int32)), (3, .int (0 : Int32)), (0, .ref (ad en 0 0 0)), (1, .int p0), (2, .ref (ad en 2 q1i 0))] dX7_possibleKinds_14 (by decide) rfl ?_
  refine r_sub [2, 3, 4, 1, 0] rfl (RL_X7_possibleKinds_16 en N p0 q1i hq1i (fun v3_4 v4_4 σ_4 => ?_) N (0 : Int32) (0 : Int32) w1)
  refine r_iload_n (pc := 61) 0 dX7_possibleKinds_61 rfl rfl ?_
  exact r_iret (pc := 62) rfl dX7_possibleKinds_62
theorem ok_X7_possibleKinds : yOk yX7_possibleKinds cX7_possibleKinds 5 (some .int) := ⟨in_lwG (by decide +kernel) rfl, in_lwG (by decide +kernel) rfl, by decide, by decide, by decide⟩
theorem k_X7_possibleKinds {en : En} {Ex : (Nat → Prop) → State → Prop} {mi : Mi} {α : Type} {ev : α → Option Value × Sg} {pc index : Nat} {lv : List (Nat × Value)} {rest : List Value} {σ : Sg} {N : Nat} {k : (Int32 × Sg) → Option α} {p0 : Int32} {q1i : Nat} (hlink : Cond.methodLink mi.1 index yX7_possibleKinds ∈ lwG) (hroom : 4 + 1 ≤ mi.2.2.2.2) (hcat : (rest.map fun v => v.category).sum ≤ 8) (hd : decode mi.2.1 pc = .ok (.invokevirtual index, 3)) (hq1i : q1i < 6) (h : ∀ w : Int32 × Sg, f_X7_possibleKinds N p0 q1i σ = some w → RR en Ex mi ev (pc + 3) lv (.int w.1 :: rest) w.2 (k w)) : RR en Ex mi ev pc lv (.ref (ad en 2 q1i 0) :: .int p0 :: .ref (ad en 0 0 0) :: rest) σ ((f_X7_possibleKinds N p0 q1i σ).bind k) :=
  r_callV (n := 2) [.int p0, .ref (ad en 2 q1i 0)] ok_X7_possibleKinds hlink (in_lwG (by decide +kernel) rfl) (in_lwG (by decide +kernel) rfl) (by decide +kernel) rfl hroom (by decide) o0 rfl rfl hcat (R_X7_possibleKinds en N p0 q1i hq1i σ) (Nat.le_of_ble_eq_true rfl) hd h
set_option maxHeartbeats 4000000 in
theorem R_X7_kinds (en : En) (N : Nat) (p0 : Int32) (p1 : Int32)  (σ : Sg) : RR en ExT mi_X7_kinds evI 0 [(0, .ref (ad en 0 0 0)), (1, .int p0), (2, .int p1)] [] σ (f_X7_kinds N p0 p1 σ) := by
  unfold f_X7_kinds
  refine r_aload_n (pc := 0) 0 dX7_kinds_0 rfl rfl ?_
  refine r_iload_n (pc := 1) 1 dX7_kinds_1 rfl rfl ?_
  refine r_iload_n (pc := 2) 2 dX7_kinds_2 rfl rfl ?_
  refine k_X7_refusalOfSights (pc := 3) lm_RX7_259  (by decide) (Nat.le_of_ble_eq_true rfl) dX7_kinds_3 (fun w1 h1 => ?_)
  refine r_istore_n (pc := 6) [(3, .int w1.1), (0, .ref (ad en 0 0 0)), (1, .int p0), (2, .int p1)] dX7_kinds_6 rfl (by decide) rfl ?_
  refine r_iload_n (pc := 7) 0 dX7_kinds_7 rfl rfl ?_
  refine r_if_eq (pc := 8) 15 dX7_kinds_8 (by decide) (fun h2 => ?_) (fun h2 => ?_)
  · refine r_aload_n (pc := 15) 1 dX7_kinds_15 rfl rfl ?_
    refine r_iload_n (pc := 16) 2 dX7_kinds_16 rfl rfl ?_
    refine r_aload_n (pc := 17) 1 dX7_kinds_17 rfl rfl ?_
    refine g_X7_rows (pc := 18)  lf_RX7_11 dX7_kinds_18 ?_
    refine r_iload_n (pc := 21) 3 dX7_kinds_21 rfl rfl ?_
    refine r_aald (pc := 22) (n := 6) (k := 3) o1 rfl rfl rfl dX7_kinds_22 (fun h3 => ?_)
    refine k_X7_possibleKinds (pc := 23) lm_RX7_262  (by decide) (Nat.le_of_ble_eq_true rfl) dX7_kinds_23 (ib_lt h3) (fun w2 h4 => ?_)
    exact r_iret (pc := 26) rfl dX7_kinds_26
  · refine r_iload_n (pc := 11) 0 dX7_kinds_11 rfl rfl ?_
    refine r_goto (pc := 12) 26 dX7_kinds_12 (by decide) ?_
    exact r_iret (pc := 26) rfl dX7_kinds_26
theorem ok_X7_kinds : yOk yX7_kinds cX7_kinds 4 (some .int) := ⟨in_lwG (by decide +kernel) rfl, in_lwG (by decide +kernel) rfl, by decide, by decide, by decide⟩
theorem k_X7_kinds {en : En} {Ex : (Nat → Prop) → State → Prop} {mi : Mi} {α : Type} {ev : α → Option Value × Sg} {pc index : Nat} {lv : List (Nat × Value)} {rest : List Value} {σ : Sg} {N : Nat} {k : (Int32 × Sg) → Option α} {p0 : Int32} {p1 : Int32} (hlink : Cond.methodLink mi.1 index yX7_kinds ∈ lwG) (hroom : 5 + 1 ≤ mi.2.2.2.2) (hcat : (rest.map fun v => v.category).sum ≤ 8) (hd : decode mi.2.1 pc = .ok (.invokevirtual index, 3))  (h : ∀ w : Int32 × Sg, f_X7_kinds N p0 p1 σ = some w → RR en Ex mi ev (pc + 3) lv (.int w.1 :: rest) w.2 (k w)) : RR en Ex mi ev pc lv (.int p1 :: .int p0 :: .ref (ad en 0 0 0) :: rest) σ ((f_X7_kinds N p0 p1 σ).bind k) :=
  r_callV (n := 2) [.int p0, .int p1] ok_X7_kinds hlink (in_lwG (by decide +kernel) rfl) (in_lwG (by decide +kernel) rfl) (by decide +kernel) rfl hroom (by decide) o0 rfl rfl hcat (R_X7_kinds en N p0 p1  σ) (Nat.le_of_ble_eq_true rfl) hd h
set_option maxHeartbeats 4000000 in
theorem R_X7_lay (en : En) (N : Nat) (p0 : Int32) (p1 : Int32) (p2 : Int32)  (σ : Sg) : RR en ExT mi_X7_lay evI 0 [(0, .ref (ad en 0 0 0)), (1, .int p0), (2, .int p1), (3, .int p2)] [] σ (f_X7_lay N p0 p1 p2 σ) := by
  unfold f_X7_lay
  refine r_aload_n (pc := 0) 0 dX7_lay_0 rfl rfl ?_
  refine r_iload_n (pc := 1) 1 dX7_lay_1 rfl rfl ?_
  refine r_iload_n (pc := 2) 2 dX7_lay_2 rfl rfl ?_
  refine k_X7_refusalOfPlace (pc := 3) lm_RX7_100  (by decide) (Nat.le_of_ble_eq_true rfl) dX7_lay_3 (fun w1 h1 => ?_)
  refine r_istore (pc := 6) [(4, .int w1.1), (0, .ref (ad en 0 0 0)), (1, .int p0), (2, .int p1), (3, .int p2)] dX7_lay_6 (by decide) rfl ?_
  refine r_iload (pc := 8) 0 dX7_lay_8 rfl ?_
  refine r_if_eq (pc := 10) 16 dX7_lay_10 (by decide) (fun h2 => ?_) (fun h2 => ?_)
  · refine r_aload_n (pc := 16) 1 dX7_lay_16 rfl rfl ?_
    refine r_aload_n (pc := 17) 1 dX7_lay_17 rfl rfl ?_
    refine g_X7_rows (pc := 18)  lf_RX7_11 dX7_lay_18 ?_
    refine r_iload_n (pc := 21) 2 dX7_lay_21 rfl rfl ?_
    refine r_aald (pc := 22) (n := 6) (k := 3) o1 rfl rfl rfl dX7_lay_22 (fun h3 => ?_)
    refine g_X3_ints (pc := 23) (ib_lt h3) lf_RX7_104 dX7_lay_23 ?_
    refine r_iload_n (pc := 26) 3 dX7_lay_26 rfl rfl ?_
    refine r_iald (pc := 27) (n := 40) (o3 (ib_lt h3)) rfl dX7_lay_27 (fun h4 => ?_)
    refine p_X7_told (pc := 28)  lf_RX7_73 dX7_lay_28 ?_
    refine r_aload_n (pc := 31) 1 dX7_lay_31 rfl rfl ?_
    refine g_X7_rows (pc := 32)  lf_RX7_11 dX7_lay_32 ?_
    refine r_iload_n (pc := 35) 2 dX7_lay_35 rfl rfl ?_
    refine r_aald (pc := 36) (n := 6) (k := 3) o1 rfl rfl rfl dX7_lay_36 (fun h5 => ?_)
    refine g_X3_ints (pc := 37) (ib_lt h5) lf_RX7_104 dX7_lay_37 ?_
    refine r_iload_n (pc := 40) 3 dX7_lay_40 rfl rfl ?_
    refine r_iload_n (pc := 41) 4 dX7_lay_41 rfl rfl ?_
    refine r_iast (pc := 42) (n := 40) (o3 (ib_lt h5)) rfl rfl dX7_lay_42 (fun h6 => ?_)
    refine r_iconst (pc := 43) dX7_lay_43 kc_iconst_1 ?_
    exact r_iret (pc := 44) rfl dX7_lay_44
  · refine r_iload (pc := 13) 0 dX7_lay_13 rfl ?_
    exact r_iret (pc := 15) rfl dX7_lay_15
theorem ok_X7_lay : yOk yX7_lay cX7_lay 5 (some .int) := ⟨in_lwG (by decide +kernel) rfl, in_lwG (by decide +kernel) rfl, by decide, by decide, by decide⟩
theorem k_X7_lay {en : En} {Ex : (Nat → Prop) → State → Prop} {mi : Mi} {α : Type} {ev : α → Option Value × Sg} {pc index : Nat} {lv : List (Nat × Value)} {rest : List Value} {σ : Sg} {N : Nat} {k : (Int32 × Sg) → Option α} {p0 : Int32} {p1 : Int32} {p2 : Int32} (hlink : Cond.methodLink mi.1 index yX7_lay ∈ lwG) (hroom : 3 + 1 ≤ mi.2.2.2.2) (hcat : (rest.map fun v => v.category).sum ≤ 8) (hd : decode mi.2.1 pc = .ok (.invokevirtual index, 3))  (h : ∀ w : Int32 × Sg, f_X7_lay N p0 p1 p2 σ = some w → RR en Ex mi ev (pc + 3) lv (.int w.1 :: rest) w.2 (k w)) : RR en Ex mi ev pc lv (.int p2 :: .int p1 :: .int p0 :: .ref (ad en 0 0 0) :: rest) σ ((f_X7_lay N p0 p1 p2 σ).bind k) :=
  r_callV (n := 3) [.int p0, .int p1, .int p2] ok_X7_lay hlink (in_lwG (by decide +kernel) rfl) (in_lwG (by decide +kernel) rfl) (by decide +kernel) rfl hroom (by decide) o0 rfl rfl hcat (R_X7_lay en N p0 p1 p2  σ) (Nat.le_of_ble_eq_true rfl) hd h
set_option maxHeartbeats 4000000 in
theorem RL_X7_lots_59 (en : En) (N : Nat) {k : Int32 → Int32 → Sg → Option (Int32 × Sg)} (a1 : Int32)  (hk : ∀ (v3 : Int32) (v4 : Int32) (σ : Sg), RR en ExT mi_X7_lots evI 88 [(0, .ref (ad en 0 0 0))] [] σ (k v3 v4 σ)) : ∀ (n : Nat) (v3 : Int32) (v4 : Int32) (σ : Sg), RR en ExT mi_X7_lots evI 59 [(0, .ref (ad en 0 0 0)), (1, .int a1), (3, .int v3), (4, .int v4)] [] σ (L_X7_lots_59 N k a1 n v3 v4 σ) := by
  intro n
  induction n with
  | zero => intro v3 v4 σ; exact r_none
  | succ n ih =>
    intro v3 v4 σ
    rw [L_X7_lots_59_s]
    refine r_iload (pc := 59) 3 dX7_lots_59 rfl ?_
    refine r_iload_n (pc := 61) 1 dX7_lots_61 rfl rfl ?_
    refine r_icmp_ge (pc := 62) 88 dX7_lots_62 (by decide) (fun h8 => ?_) (fun h8 => ?_)
    · exact r_sub [0] rfl (hk v3 v4 σ)
    · refine r_ldc2 (pc := 65) lj_RX7_296 dX7_lots_65 ?_
      refine r_iload_n (pc := 68) 2 dX7_lots_68 rfl rfl ?_
      refine r_i2l (pc := 69) dX7_lots_69 ?_
      refine r_lmul (pc := 70) dX7_lots_70 ?_
      refine r_ldc2 (pc := 71) lj_RX7_294 dX7_lots_71 ?_
      refine r_lrem (pc := 74) dX7_lots_74 (by decide) ?_
      refine r_l2i (pc := 75) dX7_lots_75 ?_
      refine r_istore_n (pc := 76) [(3, .int ((((48271 : Int64) * v3.toInt64) - ((48271 : Int64) * v3.toInt64) / (2147483647 : Int64) * (2147483647 : Int64)).toInt32)), (0, .ref (ad en 0 0 0)), (1, .int a1), (4, .int v4)] dX7_lots_76 rfl (by decide) rfl ?_
      refine r_aload_n (pc := 77) 1 dX7_lots_77 rfl rfl ?_
      refine r_iload_n (pc := 78) 0 dX7_lots_78 rfl rfl ?_
      refine k_X7_doByLot (pc := 79) lm_RX7_298  (by decide) (Nat.le_of_ble_eq_true rfl) dX7_lots_79 (fun w2 h9 => ?_)
      refine r_iinc (pc := 82) 3 [(4, .int (v4 + (1 : Int32))), (3, .int ((((48271 : Int64) * v3.toInt64) - ((48271 : Int64) * v3.toInt64) / (2147483647 : Int64) * (2147483647 : Int64)).toInt32)), (0, .ref (ad en 0 0 0)), (1, .int a1)] dX7_lots_82 rfl rfl (by decide) rfl ?_
      refine r_goto (pc := 85) 59 dX7_lots_85 (by decide) ?_
      exact r_sub [2, 3, 1, 0] rfl (ih ((((48271 : Int64) * v3.toInt64) - ((48271 : Int64) * v3.toInt64) / (2147483647 : Int64) * (2147483647 : Int64)).toInt32) (v4 + (1 : Int32)) w2)
set_option maxHeartbeats 4000000 in
theorem R_X7_lots (en : En) (N : Nat) (p0 : Int32) (p1 : Int32)  (σ : Sg) : RR en ExT mi_X7_lots evI 0 [(0, .ref (ad en 0 0 0)), (1, .int p0), (2, .int p1)] [] σ (f_X7_lots N p0 p1 σ) := by
  unfold f_X7_lots
  refine r_iload_n (pc := 0) 1 dX7_lots_0 rfl rfl ?_
  refine r_iconst (pc := 1) dX7_lots_1 kc_iconst_1 ?_
  refine r_icmp_lt (pc := 2) 25 dX7_lots_2 (by decide) (fun h1 => ?_) (fun h1 => ?_)
  · refine r_iconst (pc := 25) dX7_lots_25 kc_iconst_m1 ?_
    exact r_iret (pc := 26) rfl dX7_lots_26
  · refine r_iload_n (pc := 5) 1 dX7_lots_5 rfl rfl ?_
    refine r_bipush (pc := 6) dX7_lots_6 kc_bipush_20 ?_
    refine r_icmp_gt (pc := 8) 25 dX7_lots_8 (by decide) (fun h2 => ?_) (fun h2 => ?_)
    · refine r_iconst (pc := 25) dX7_lots_25 kc_iconst_m1 ?_
      exact r_iret (pc := 26) rfl dX7_lots_26
    · refine r_iload_n (pc := 11) 2 dX7_lots_11 rfl rfl ?_
      refine r_iconst (pc := 12) dX7_lots_12 kc_iconst_1 ?_
      refine r_icmp_lt (pc := 13) 25 dX7_lots_13 (by decide) (fun h3 => ?_) (fun h3 => ?_)
      · refine r_iconst (pc := 25) dX7_lots_25 kc_iconst_m1 ?_
        exact r_iret (pc := 26) rfl dX7_lots_26
      · refine r_iload_n (pc := 16) 2 dX7_lots_16 rfl rfl ?_
        refine r_i2l (pc := 17) dX7_lots_17 ?_
        refine r_ldc2 (pc := 18) lj_RX7_294 dX7_lots_18 ?_
        refine r_lcmp (pc := 21) dX7_lots_21 ?_
        refine r_if_lt (pc := 22) 27 dX7_lots_22 (by decide) (fun h4 => ?_) (fun h4 => ?_)
        · refine r_aload_n (pc := 27) 0 dX7_lots_27 rfl rfl ?_
          refine g_X7_screen (pc := 28)  lf_RX7_24 dX7_lots_28 ?_
          refine g_X4_size (pc := 31) (by decide) lf_RX7_139 dX7_lots_31 ?_
          refine r_if_ne (pc := 34) 40 dX7_lots_34 (by decide) (fun h5 => ?_) (fun h5 => ?_)
          · refine r_bipush (pc := 37) dX7_lots_37 kc_bipush_m4 ?_
            exact r_iret (pc := 39) rfl dX7_lots_39
          · refine r_aload_n (pc := 40) 0 dX7_lots_40 rfl rfl ?_
            refine g_X7_deeds (pc := 41)  lf_RX7_31 dX7_lots_41 ?_
            refine r_iload_n (pc := 44) 1 dX7_lots_44 rfl rfl ?_
            refine k_X1_hasRoomFor (pc := 45) lm_RX7_195  (by decide) (Nat.le_of_ble_eq_true rfl) dX7_lots_45 (by decide) (fun w1 h6 => ?_)
            refine r_if_ne (pc := 48) 54 dX7_lots_48 (by decide) (fun h7 => ?_) (fun h7 => ?_)
            · refine r_bipush (pc := 51) dX7_lots_51 kc_bipush_m2 ?_
              exact r_iret (pc := 53) rfl dX7_lots_53
            · refine r_iload_n (pc := 54) 2 dX7_lots_54 rfl rfl ?_
              refine r_istore_n (pc := 55) [(3, .int p1), (0, .ref (ad en 0 0 0)), (1, .int p0), (2, .int p1)] dX7_lots_55 rfl (by decide) rfl ?_
              refine r_iconst (pc := 56) dX7_lots_56 kc_iconst_0 ?_
              refine r_istore (pc := 57) [(4, .int (0 : Int32)), (3, .int p1), (0, .ref (ad en 0 0 0)), (1, .int p0), (2, .int p1)] dX7_lots_57 (by decide) rfl ?_
              refine r_sub [2, 3, 1, 0] rfl (RL_X7_lots_59 en N p0  (fun v3_3 v4_3 σ_3 => ?_) N p1 (0 : Int32) w1.2)
              refine r_aload_n (pc := 88) 0 dX7_lots_88 rfl rfl ?_
              refine g_X7_screen (pc := 89)  lf_RX7_24 dX7_lots_89 ?_
              refine k_X4_howManySeen (pc := 92) lm_RX7_301  (by decide) (Nat.le_of_ble_eq_true rfl) dX7_lots_92 (by decide) (fun w4 h10 => ?_)
              exact r_iret (pc := 95) rfl dX7_lots_95
        · refine r_iconst (pc := 25) dX7_lots_25 kc_iconst_m1 ?_
          exact r_iret (pc := 26) rfl dX7_lots_26
theorem ok_X7_lots : yOk yX7_lots cX7_lots 5 (some .int) := ⟨in_lwG (by decide +kernel) rfl, in_lwG (by decide +kernel) rfl, by decide, by decide, by decide⟩
theorem k_X7_lots {en : En} {Ex : (Nat → Prop) → State → Prop} {mi : Mi} {α : Type} {ev : α → Option Value × Sg} {pc index : Nat} {lv : List (Nat × Value)} {rest : List Value} {σ : Sg} {N : Nat} {k : (Int32 × Sg) → Option α} {p0 : Int32} {p1 : Int32} (hlink : Cond.methodLink mi.1 index yX7_lots ∈ lwG) (hroom : 6 + 1 ≤ mi.2.2.2.2) (hcat : (rest.map fun v => v.category).sum ≤ 8) (hd : decode mi.2.1 pc = .ok (.invokevirtual index, 3))  (h : ∀ w : Int32 × Sg, f_X7_lots N p0 p1 σ = some w → RR en Ex mi ev (pc + 3) lv (.int w.1 :: rest) w.2 (k w)) : RR en Ex mi ev pc lv (.int p1 :: .int p0 :: .ref (ad en 0 0 0) :: rest) σ ((f_X7_lots N p0 p1 σ).bind k) :=
  r_callV (n := 2) [.int p0, .int p1] ok_X7_lots hlink (in_lwG (by decide +kernel) rfl) (in_lwG (by decide +kernel) rfl) (by decide +kernel) rfl hroom (by decide) o0 rfl rfl hcat (R_X7_lots en N p0 p1  σ) (Nat.le_of_ble_eq_true rfl) hd h
set_option maxHeartbeats 4000000 in
theorem R_X7_lower (en : En) (N : Nat)  (σ : Sg) : RR en ExT mi_X7_lower evL 0 [(0, .ref (ad en 0 0 0))] [] σ (f_X7_lower N σ) := by
  unfold f_X7_lower
  refine r_aload_n (pc := 0) 0 dX7_lower_0 rfl rfl ?_
  refine g_X7_lowerNumber (pc := 1)  lf_RX7_80 dX7_lower_1 ?_
  exact r_lret (pc := 4) rfl dX7_lower_4
theorem ok_X7_lower : yOk yX7_lower cX7_lower 1 (some .long) := ⟨in_lwG (by decide +kernel) rfl, in_lwG (by decide +kernel) rfl, by decide, by decide, by decide⟩
theorem k_X7_lower {en : En} {Ex : (Nat → Prop) → State → Prop} {mi : Mi} {α : Type} {ev : α → Option Value × Sg} {pc index : Nat} {lv : List (Nat × Value)} {rest : List Value} {σ : Sg} {N : Nat} {k : (Int64 × Sg) → Option α}  (hlink : Cond.methodLink mi.1 index yX7_lower ∈ lwG) (hroom : 1 + 1 ≤ mi.2.2.2.2) (hcat : (rest.map fun v => v.category).sum ≤ 8) (hd : decode mi.2.1 pc = .ok (.invokevirtual index, 3))  (h : ∀ w : Int64 × Sg, f_X7_lower N  σ = some w → RR en Ex mi ev (pc + 3) lv (.long w.1 :: rest) w.2 (k w)) : RR en Ex mi ev pc lv (.ref (ad en 0 0 0) :: rest) σ ((f_X7_lower N  σ).bind k) :=
  r_callV (n := 0) [] ok_X7_lower hlink (in_lwG (by decide +kernel) rfl) (in_lwG (by decide +kernel) rfl) (by decide +kernel) rfl hroom (by decide) o0 rfl rfl hcat (R_X7_lower en N   σ) (Nat.le_of_ble_eq_true rfl) hd h
set_option maxHeartbeats 4000000 in
theorem R_X7_mark (en : En) (N : Nat) (p0 : Int32) (p1 : Int32)  (σ : Sg) : RR en ExT mi_X7_mark evI 0 [(0, .ref (ad en 0 0 0)), (1, .int p0), (2, .int p1)] [] σ (f_X7_mark N p0 p1 σ) := by
  unfold f_X7_mark
  refine r_aload_n (pc := 0) 0 dX7_mark_0 rfl rfl ?_
  refine g_X7_screen (pc := 1)  lf_RX7_24 dX7_mark_1 ?_
  refine r_iload_n (pc := 4) 1 dX7_mark_4 rfl rfl ?_
  refine k_X4_has (pc := 5) lm_RX7_140  (by decide) (Nat.le_of_ble_eq_true rfl) dX7_mark_5 (by decide) (fun w1 h1 => ?_)
  refine r_if_eq (pc := 8) 21 dX7_mark_8 (by decide) (fun h2 => ?_) (fun h2 => ?_)
  · refine r_iconst (pc := 21) dX7_mark_21 kc_iconst_m1 ?_
    exact r_iret (pc := 22) rfl dX7_mark_22
  · refine r_iload_n (pc := 11) 2 dX7_mark_11 rfl rfl ?_
    refine r_if_le (pc := 12) 21 dX7_mark_12 (by decide) (fun h3 => ?_) (fun h3 => ?_)
    · refine r_iconst (pc := 21) dX7_mark_21 kc_iconst_m1 ?_
      exact r_iret (pc := 22) rfl dX7_mark_22
    · refine r_iload_n (pc := 15) 2 dX7_mark_15 rfl rfl ?_
      refine r_bipush (pc := 16) dX7_mark_16 kc_bipush_6 ?_
      refine r_icmp_lt (pc := 18) 23 dX7_mark_18 (by decide) (fun h4 => ?_) (fun h4 => ?_)
      · refine r_aload_n (pc := 23) 0 dX7_mark_23 rfl rfl ?_
        refine g_X7_screen (pc := 24)  lf_RX7_24 dX7_mark_24 ?_
        refine g_X4_panes (pc := 27) (by decide) lf_RX7_146 dX7_mark_27 ?_
        refine r_iload_n (pc := 30) 1 dX7_mark_30 rfl rfl ?_
        refine r_aald (pc := 31) (n := 7) (k := 7) (o8 (by decide)) rfl rfl rfl dX7_mark_31 (fun h5 => ?_)
        refine r_astore_n (pc := 32) [(3, .ref (ad en 9 0 p0.toNatClampNeg)), (0, .ref (ad en 0 0 0)), (1, .int p0), (2, .int p1)] dX7_mark_32 rfl (by decide) rfl ?_
        refine r_aload_n (pc := 33) 0 dX7_mark_33 rfl rfl ?_
        refine g_X2_kind (pc := 34) (by decide) (ib_lt h5) lf_RX7_150 dX7_mark_34 ?_
        refine r_iload_n (pc := 37) 3 dX7_mark_37 rfl rfl ?_
        refine k_X7_isOf (pc := 38) lm_RX7_155  (by decide) (Nat.le_of_ble_eq_true rfl) dX7_mark_38 (fun w2 h6 => ?_)
        refine r_if_ne (pc := 41) 50 dX7_mark_41 (by decide) (fun h7 => ?_) (fun h7 => ?_)
        · refine r_aload_n (pc := 44) 1 dX7_mark_44 rfl rfl ?_
          refine r_iconst (pc := 45) dX7_mark_45 kc_iconst_3 ?_
          refine k_X7_found (pc := 46) lm_RX7_92  (by decide) (Nat.le_of_ble_eq_true rfl) dX7_mark_46 (fun w3 h8 => ?_)
          exact r_iret (pc := 49) rfl dX7_mark_49
        · refine r_iload_n (pc := 50) 3 dX7_mark_50 rfl rfl ?_
          refine r_ite (fun h9 => ?_) (fun h9 => ?_)
          · refine r_tableIn (pc := 51) 76 dX7_mark_51 (by rw [h9]; decide) (by rw [h9]; decide) (by rw [h9]; rfl) (by decide) ?_
            refine r_aload_n (pc := 76) 1 dX7_mark_76 rfl rfl ?_
            refine g_X7_screen (pc := 77)  lf_RX7_24 dX7_mark_77 ?_
            refine r_iload_n (pc := 80) 2 dX7_mark_80 rfl rfl ?_
            refine k_X4_notTopAfter (pc := 81) lm_RX7_158  (by decide) (Nat.le_of_ble_eq_true rfl) dX7_mark_81 (by decide) (fun w4 h10 => ?_)
            exact r_iret (pc := 84) rfl dX7_mark_84
          refine r_ite (fun h11 => ?_) (fun h11 => ?_)
          · refine r_tableIn (pc := 51) 85 dX7_mark_51 (by rw [h11]; decide) (by rw [h11]; decide) (by rw [h11]; rfl) (by decide) ?_
            refine r_aload_n (pc := 85) 0 dX7_mark_85 rfl rfl ?_
            refine r_iconst (pc := 86) dX7_mark_86 kc_iconst_1 ?_
            refine k_X2_coveredAs (pc := 87) lm_RX7_161  (by decide) (Nat.le_of_ble_eq_true rfl) dX7_mark_87 (by decide) (ib_lt h5) (fun w5 h12 => ?_)
            refine r_aload_n (pc := 90) 0 dX7_mark_90 rfl rfl ?_
            refine k_X2_covered (pc := 91) lm_RX7_164  (by decide) (Nat.le_of_ble_eq_true rfl) dX7_mark_91 (by decide) (ib_lt h5) (fun w6 h13 => ?_)
            refine r_isub (pc := 94) dX7_mark_94 ?_
            exact r_iret (pc := 95) rfl dX7_mark_95
          refine r_ite (fun h14 => ?_) (fun h14 => ?_)
          · refine r_tableIn (pc := 51) 96 dX7_mark_51 (by rw [h14]; decide) (by rw [h14]; decide) (by rw [h14]; rfl) (by decide) ?_
            refine r_aload_n (pc := 96) 0 dX7_mark_96 rfl rfl ?_
            refine r_iconst (pc := 97) dX7_mark_97 kc_iconst_2 ?_
            refine k_X2_coveredAs (pc := 98) lm_RX7_161  (by decide) (Nat.le_of_ble_eq_true rfl) dX7_mark_98 (by decide) (ib_lt h5) (fun w7 h15 => ?_)
            refine r_aload_n (pc := 101) 0 dX7_mark_101 rfl rfl ?_
            refine k_X2_covered (pc := 102) lm_RX7_164  (by decide) (Nat.le_of_ble_eq_true rfl) dX7_mark_102 (by decide) (ib_lt h5) (fun w8 h16 => ?_)
            refine r_isub (pc := 105) dX7_mark_105 ?_
            exact r_iret (pc := 106) rfl dX7_mark_106
          refine r_tableOut (pc := 51) 107 dX7_mark_51 (sw_out (3) 3 (fun v hv => by rcases (show v = 0 ∨ v = 1 ∨ v = 2 by omega) with rfl | rfl | rfl <;> assumption)) (by decide) ?_
          refine r_aload_n (pc := 107) 0 dX7_mark_107 rfl rfl ?_
          refine g_X2_wide (pc := 108) (by decide) (ib_lt h5) lf_RX7_168 dX7_mark_108 ?_
          refine r_aload_n (pc := 111) 0 dX7_mark_111 rfl rfl ?_
          refine g_X2_high (pc := 112) (by decide) (ib_lt h5) lf_RX7_171 dX7_mark_112 ?_
          refine r_imul (pc := 115) dX7_mark_115 ?_
          refine r_aload_n (pc := 116) 0 dX7_mark_116 rfl rfl ?_
          refine k_X2_covered (pc := 117) lm_RX7_164  (by decide) (Nat.le_of_ble_eq_true rfl) dX7_mark_117 (by decide) (ib_lt h5) (fun w9 h17 => ?_)
          refine r_isub (pc := 120) dX7_mark_120 ?_
          exact r_iret (pc := 121) rfl dX7_mark_121
      · refine r_iconst (pc := 21) dX7_mark_21 kc_iconst_m1 ?_
        exact r_iret (pc := 22) rfl dX7_mark_22
theorem ok_X7_mark : yOk yX7_mark cX7_mark 4 (some .int) := ⟨in_lwG (by decide +kernel) rfl, in_lwG (by decide +kernel) rfl, by decide, by decide, by decide⟩
theorem k_X7_mark {en : En} {Ex : (Nat → Prop) → State → Prop} {mi : Mi} {α : Type} {ev : α → Option Value × Sg} {pc index : Nat} {lv : List (Nat × Value)} {rest : List Value} {σ : Sg} {N : Nat} {k : (Int32 × Sg) → Option α} {p0 : Int32} {p1 : Int32} (hlink : Cond.methodLink mi.1 index yX7_mark ∈ lwG) (hroom : 3 + 1 ≤ mi.2.2.2.2) (hcat : (rest.map fun v => v.category).sum ≤ 8) (hd : decode mi.2.1 pc = .ok (.invokevirtual index, 3))  (h : ∀ w : Int32 × Sg, f_X7_mark N p0 p1 σ = some w → RR en Ex mi ev (pc + 3) lv (.int w.1 :: rest) w.2 (k w)) : RR en Ex mi ev pc lv (.int p1 :: .int p0 :: .ref (ad en 0 0 0) :: rest) σ ((f_X7_mark N p0 p1 σ).bind k) :=
  r_callV (n := 2) [.int p0, .int p1] ok_X7_mark hlink (in_lwG (by decide +kernel) rfl) (in_lwG (by decide +kernel) rfl) (by decide +kernel) rfl hroom (by decide) o0 rfl rfl hcat (R_X7_mark en N p0 p1  σ) (Nat.le_of_ble_eq_true rfl) hd h
set_option maxHeartbeats 4000000 in
theorem R_X7_mean (en : En) (N : Nat) (p0 : Int32)  (σ : Sg) : RR en ExT mi_X7_mean evI 0 [(0, .ref (ad en 0 0 0)), (1, .int p0)] [] σ (f_X7_mean N p0 σ) := by
  unfold f_X7_mean
  refine r_iload_n (pc := 0) 1 dX7_mean_0 rfl rfl ?_
  refine k_X7_isRow (pc := 1) lm_RX7_88  (by decide) (Nat.le_of_ble_eq_true rfl) dX7_mean_1 (fun w1 h1 => ?_)
  refine r_if_ne (pc := 4) 9 dX7_mean_4 (by decide) (fun h2 => ?_) (fun h2 => ?_)
  · refine r_iconst (pc := 7) dX7_mean_7 kc_iconst_m1 ?_
    exact r_iret (pc := 8) rfl dX7_mean_8
  · refine r_aload_n (pc := 9) 0 dX7_mean_9 rfl rfl ?_
    refine g_X7_rows (pc := 10)  lf_RX7_11 dX7_mean_10 ?_
    refine r_iload_n (pc := 13) 1 dX7_mean_13 rfl rfl ?_
    refine r_aald (pc := 14) (n := 6) (k := 3) o1 rfl rfl rfl dX7_mean_14 (fun h3 => ?_)
    refine g_X3_size (pc := 15) (ib_lt h3) lf_RX7_107 dX7_mean_15 ?_
    refine r_iconst (pc := 18) dX7_mean_18 kc_iconst_m1 ?_
    refine r_icmp_ne (pc := 19) 28 dX7_mean_19 (by decide) (fun h4 => ?_) (fun h4 => ?_)
    · refine r_aload_n (pc := 22) 0 dX7_mean_22 rfl rfl ?_
      refine r_iconst (pc := 23) dX7_mean_23 kc_iconst_1 ?_
      refine k_X7_found (pc := 24) lm_RX7_92  (by decide) (Nat.le_of_ble_eq_true rfl) dX7_mean_24 (fun w2 h5 => ?_)
      exact r_iret (pc := 27) rfl dX7_mean_27
    · refine r_aload_n (pc := 28) 0 dX7_mean_28 rfl rfl ?_
      refine g_X7_rows (pc := 29)  lf_RX7_11 dX7_mean_29 ?_
      refine r_iload_n (pc := 32) 1 dX7_mean_32 rfl rfl ?_
      refine r_aald (pc := 33) (n := 6) (k := 3) o1 rfl rfl rfl dX7_mean_33 (fun h6 => ?_)
      refine g_X3_size (pc := 34) (ib_lt h6) lf_RX7_107 dX7_mean_34 ?_
      refine r_if_ne (pc := 37) 46 dX7_mean_37 (by decide) (fun h7 => ?_) (fun h7 => ?_)
      · refine r_aload_n (pc := 40) 0 dX7_mean_40 rfl rfl ?_
        refine r_iconst (pc := 41) dX7_mean_41 kc_iconst_4 ?_
        refine k_X7_found (pc := 42) lm_RX7_92  (by decide) (Nat.le_of_ble_eq_true rfl) dX7_mean_42 (fun w3 h8 => ?_)
        exact r_iret (pc := 45) rfl dX7_mean_45
      · refine r_aload_n (pc := 46) 0 dX7_mean_46 rfl rfl ?_
        refine r_aload_n (pc := 47) 0 dX7_mean_47 rfl rfl ?_
        refine g_X7_rows (pc := 48)  lf_RX7_11 dX7_mean_48 ?_
        refine r_iload_n (pc := 51) 1 dX7_mean_51 rfl rfl ?_
        refine r_aald (pc := 52) (n := 6) (k := 3) o1 rfl rfl rfl dX7_mean_52 (fun h9 => ?_)
        refine k_X3_sum (pc := 53) lm_RX7_118  (by decide) (Nat.le_of_ble_eq_true rfl) dX7_mean_53 (ib_lt h9) (fun w4 h10 => ?_)
        refine r_aload_n (pc := 56) 0 dX7_mean_56 rfl rfl ?_
        refine g_X7_rows (pc := 57)  lf_RX7_11 dX7_mean_57 ?_
        refine r_iload_n (pc := 60) 1 dX7_mean_60 rfl rfl ?_
        refine r_aald (pc := 61) (n := 6) (k := 3) o1 rfl rfl rfl dX7_mean_61 (fun h11 => ?_)
        refine g_X3_size (pc := 62) (ib_lt h11) lf_RX7_107 dX7_mean_62 ?_
        refine r_i2l (pc := 65) dX7_mean_65 ?_
        refine r_gd (fun h12 => ?_)
        refine r_ldiv (pc := 66) dX7_mean_66 (of_decide_eq_true h12) ?_
        refine r_l2i (pc := 67) dX7_mean_67 ?_
        refine p_X7_told (pc := 68)  lf_RX7_73 dX7_mean_68 ?_
        refine r_iconst (pc := 71) dX7_mean_71 kc_iconst_1 ?_
        exact r_iret (pc := 72) rfl dX7_mean_72
theorem ok_X7_mean : yOk yX7_mean cX7_mean 2 (some .int) := ⟨in_lwG (by decide +kernel) rfl, in_lwG (by decide +kernel) rfl, by decide, by decide, by decide⟩
theorem k_X7_mean {en : En} {Ex : (Nat → Prop) → State → Prop} {mi : Mi} {α : Type} {ev : α → Option Value × Sg} {pc index : Nat} {lv : List (Nat × Value)} {rest : List Value} {σ : Sg} {N : Nat} {k : (Int32 × Sg) → Option α} {p0 : Int32} (hlink : Cond.methodLink mi.1 index yX7_mean ∈ lwG) (hroom : 2 + 1 ≤ mi.2.2.2.2) (hcat : (rest.map fun v => v.category).sum ≤ 8) (hd : decode mi.2.1 pc = .ok (.invokevirtual index, 3))  (h : ∀ w : Int32 × Sg, f_X7_mean N p0 σ = some w → RR en Ex mi ev (pc + 3) lv (.int w.1 :: rest) w.2 (k w)) : RR en Ex mi ev pc lv (.int p0 :: .ref (ad en 0 0 0) :: rest) σ ((f_X7_mean N p0 σ).bind k) :=
  r_callV (n := 1) [.int p0] ok_X7_mean hlink (in_lwG (by decide +kernel) rfl) (in_lwG (by decide +kernel) rfl) (by decide +kernel) rfl hroom (by decide) o0 rfl rfl hcat (R_X7_mean en N p0  σ) (Nat.le_of_ble_eq_true rfl) hd h
set_option maxHeartbeats 4000000 in
theorem R_X7_refusalOfChance (en : En) (N : Nat) (p0 : Int32) (p1 : Int32)  (σ : Sg) : RR en ExT mi_X7_refusalOfChance evI 0 [(0, .ref (ad en 0 0 0)), (1, .int p0), (2, .int p1)] [] σ (f_X7_refusalOfChance N p0 p1 σ) := by
  unfold f_X7_refusalOfChance
  refine r_iload_n (pc := 0) 2 dX7_refusalOfChance_0 rfl rfl ?_
  refine r_if_lt (pc := 1) 10 dX7_refusalOfChance_1 (by decide) (fun h1 => ?_) (fun h1 => ?_)
  · refine r_iconst (pc := 10) dX7_refusalOfChance_10 kc_iconst_m1 ?_
    refine r_goto (pc := 11) 19 dX7_refusalOfChance_11 (by decide) ?_
    exact r_iret (pc := 19) rfl dX7_refusalOfChance_19
  · refine r_iload_n (pc := 4) 2 dX7_refusalOfChance_4 rfl rfl ?_
    refine r_bipush (pc := 5) dX7_refusalOfChance_5 kc_bipush_12 ?_
    refine r_icmp_le (pc := 7) 14 dX7_refusalOfChance_7 (by decide) (fun h2 => ?_) (fun h2 => ?_)
    · refine r_aload_n (pc := 14) 0 dX7_refusalOfChance_14 rfl rfl ?_
      refine r_iload_n (pc := 15) 1 dX7_refusalOfChance_15 rfl rfl ?_
      refine k_X7_refusalOfOpen (pc := 16) lm_RX7_241  (by decide) (Nat.le_of_ble_eq_true rfl) dX7_refusalOfChance_16 (fun w1 h3 => ?_)
      exact r_iret (pc := 19) rfl dX7_refusalOfChance_19
    · refine r_iconst (pc := 10) dX7_refusalOfChance_10 kc_iconst_m1 ?_
      refine r_goto (pc := 11) 19 dX7_refusalOfChance_11 (by decide) ?_
      exact r_iret (pc := 19) rfl dX7_refusalOfChance_19
theorem ok_X7_refusalOfChance : yOk yX7_refusalOfChance cX7_refusalOfChance 3 (some .int) := ⟨in_lwG (by decide +kernel) rfl, in_lwG (by decide +kernel) rfl, by decide, by decide, by decide⟩
theorem k_X7_refusalOfChance {en : En} {Ex : (Nat → Prop) → State → Prop} {mi : Mi} {α : Type} {ev : α → Option Value × Sg} {pc index : Nat} {lv : List (Nat × Value)} {rest : List Value} {σ : Sg} {N : Nat} {k : (Int32 × Sg) → Option α} {p0 : Int32} {p1 : Int32} (hlink : Cond.methodLink mi.1 index yX7_refusalOfChance ∈ lwG) (hroom : 3 + 1 ≤ mi.2.2.2.2) (hcat : (rest.map fun v => v.category).sum ≤ 8) (hd : decode mi.2.1 pc = .ok (.invokevirtual index, 3))  (h : ∀ w : Int32 × Sg, f_X7_refusalOfChance N p0 p1 σ = some w → RR en Ex mi ev (pc + 3) lv (.int w.1 :: rest) w.2 (k w)) : RR en Ex mi ev pc lv (.int p1 :: .int p0 :: .ref (ad en 0 0 0) :: rest) σ ((f_X7_refusalOfChance N p0 p1 σ).bind k) :=
  r_callV (n := 2) [.int p0, .int p1] ok_X7_refusalOfChance hlink (in_lwG (by decide +kernel) rfl) (in_lwG (by decide +kernel) rfl) (by decide +kernel) rfl hroom (by decide) o0 rfl rfl hcat (R_X7_refusalOfChance en N p0 p1  σ) (Nat.le_of_ble_eq_true rfl) hd h
set_option maxHeartbeats 4000000 in
theorem RL_X7_power_5 (en : En) (N : Nat) {k : Int64 → Int32 → Option (Int64 × Sg)} (a0 : Int32) (a1 : Int32) (σ : Sg)  (hk : ∀ (v2 : Int64) (v4 : Int32), RR en ExT mi_X7_power evL 22 [(2, .long v2)] [] σ (k v2 v4)) : ∀ (n : Nat) (v2 : Int64) (v4 : Int32), RR en ExT mi_X7_power evL 5 [(0, .int a0), (1, .int a1), (2, .long v2), (4, .int v4)] [] σ (L_X7_power_5 N k a0 a1 σ n v2 v4) := by
  intro n
  induction n with
  | zero => intro v2 v4; exact r_none
  | succ n ih =>
    intro v2 v4
    rw [L_X7_power_5_s]
    refine r_iload (pc := 5) 3 dX7_power_5 rfl ?_
    refine r_iload_n (pc := 7) 1 dX7_power_7 rfl rfl ?_
    refine r_icmp_ge (pc := 8) 22 dX7_power_8 (by decide) (fun h1 => ?_) (fun h1 => ?_)
    · exact r_sub [2] rfl (hk v2 v4)
    · refine r_lload_n (pc := 11) 2 dX7_power_11 rfl rfl ?_
      refine r_iload_n (pc := 12) 0 dX7_power_12 rfl rfl ?_
      refine r_i2l (pc := 13) dX7_power_13 ?_
      refine r_lmul (pc := 14) dX7_power_14 ?_
      refine r_lstore_n (pc := 15) [(2, .long (v2 * a0.toInt64)), (0, .int a0), (1, .int a1), (4, .int v4)] dX7_power_15 rfl (by decide) rfl ?_
      refine r_iinc (pc := 16) 3 [(4, .int (v4 + (1 : Int32))), (2, .long (v2 * a0.toInt64)), (0, .int a0), (1, .int a1)] dX7_power_16 rfl rfl (by decide) rfl ?_
      refine r_goto (pc := 19) 5 dX7_power_19 (by decide) ?_
      exact r_sub [2, 3, 1, 0] rfl (ih (v2 * a0.toInt64) (v4 + (1 : Int32)))
set_option maxHeartbeats 4000000 in
theorem R_X7_power (en : En) (N : Nat) (p0 : Int32) (p1 : Int32)  (σ : Sg) : RR en ExT mi_X7_power evL 0 [(0, .int p0), (1, .int p1)] [] σ (f_X7_power N p0 p1 σ) := by
  unfold f_X7_power
  refine r_lconst (pc := 0) (v := 1) dX7_power_0 rfl ?_
  refine r_lstore_n (pc := 1) [(2, .long (1 : Int64)), (0, .int p0), (1, .int p1)] dX7_power_1 rfl (by decide) rfl ?_
  refine r_iconst (pc := 2) dX7_power_2 kc_iconst_0 ?_
  refine r_istore (pc := 3) [(4, .int (0 : Int32)), (2, .long (1 : Int64)), (0, .int p0), (1, .int p1)] dX7_power_3 (by decide) rfl ?_
  refine r_sub [2, 3, 1, 0] rfl (RL_X7_power_5 en N p0 p1 σ  (fun v2_1 v4_1 => ?_) N (1 : Int64) (0 : Int32))
  refine r_lload_n (pc := 22) 0 dX7_power_22 rfl rfl ?_
  exact r_lret (pc := 23) rfl dX7_power_23
theorem ok_X7_power : yOk yX7_power cX7_power 5 (some .long) := ⟨in_lwG (by decide +kernel) rfl, in_lwG (by decide +kernel) rfl, by decide, by decide, by decide⟩
theorem k_X7_power {en : En} {Ex : (Nat → Prop) → State → Prop} {mi : Mi} {α : Type} {ev : α → Option Value × Sg} {pc index : Nat} {lv : List (Nat × Value)} {rest : List Value} {σ : Sg} {N : Nat} {k : (Int64 × Sg) → Option α} {p0 : Int32} {p1 : Int32} (hlink : Cond.methodLink mi.1 index yX7_power ∈ lwG) (hroom : 1 + 1 ≤ mi.2.2.2.2) (hcat : (rest.map fun v => v.category).sum ≤ 8) (hd : decode mi.2.1 pc = .ok (.invokestatic index, 3))  (h : ∀ w : Int64 × Sg, f_X7_power N p0 p1 σ = some w → RR en Ex mi ev (pc + 3) lv (.long w.1 :: rest) w.2 (k w)) : RR en Ex mi ev pc lv (.int p1 :: .int p0 :: rest) σ ((f_X7_power N p0 p1 σ).bind k) :=
  r_callS (n := 2) [.int p0, .int p1] ok_X7_power hlink (in_lwG (by decide +kernel) rfl) (by decide +kernel) rfl hroom (by decide) hcat (R_X7_power en N p0 p1  σ) (Nat.le_of_ble_eq_true rfl) hd h
set_option maxHeartbeats 4000000 in
theorem RL_X7_tellFraction_9 (en : En) (N : Nat) {k : Int64 → Int64 → Int32 → Option (Sg)} (a1 : Int64) (a3 : Int64) (σ : Sg)  (hk : ∀ (v5 : Int64) (v7 : Int64) (v9 : Int32), RR en ExT mi_X7_tellFraction evV 44 [(0, .ref (ad en 0 0 0)), (1, .long a1), (3, .long a3), (5, .long v5)] [] σ (k v5 v7 v9)) : ∀ (n : Nat) (v5 : Int64) (v7 : Int64) (v9 : Int32), RR en ExT mi_X7_tellFraction evV 9 [(0, .ref (ad en 0 0 0)), (1, .long a1), (3, .long a3), (5, .long v5), (7, .long v7), (9, .int v9)] [] σ (L_X7_tellFraction_9 N k a1 a3 σ n v5 v7 v9) := by
  intro n
  induction n with
  | zero => intro v5 v7 v9; exact r_none
  | succ n ih =>
    intro v5 v7 v9
    rw [L_X7_tellFraction_9_s]
    refine r_iload (pc := 9) 5 dX7_tellFraction_9 rfl ?_
    refine r_bipush (pc := 11) dX7_tellFraction_11 kc_bipush_100 ?_
    refine r_icmp_ge (pc := 13) 44 dX7_tellFraction_13 (by decide) (fun h1 => ?_) (fun h1 => ?_)
    · exact r_sub [0, 1, 2, 3] rfl (hk v5 v7 v9)
    · refine r_lload (pc := 16) 4 dX7_tellFraction_16 rfl ?_
      refine r_lconst (pc := 18) (v := 0) dX7_tellFraction_18 rfl ?_
      refine r_lcmp (pc := 19) dX7_tellFraction_19 ?_
      refine r_if_eq (pc := 20) 44 dX7_tellFraction_20 (by decide) (fun h2 => ?_) (fun h2 => ?_)
      · exact r_sub [0, 1, 2, 3] rfl (hk v5 v7 v9)
      · refine r_lload (pc := 23) 3 dX7_tellFraction_23 rfl ?_
        refine r_lload (pc := 25) 4 dX7_tellFraction_25 rfl ?_
        refine r_gd (fun h3 => ?_)
        refine r_lrem (pc := 27) dX7_tellFraction_27 (of_decide_eq_true h3) ?_
        refine r_lstore (pc := 28) [(10, .long (v5 - v5 / v7 * v7)), (0, .ref (ad en 0 0 0)), (1, .long a1), (3, .long a3), (5, .long v5), (7, .long v7), (9, .int v9)] dX7_tellFraction_28 (by decide) rfl ?_
        refine r_lload (pc := 30) 5 dX7_tellFraction_30 rfl ?_
        refine r_lstore (pc := 32) [(5, .long v7), (10, .long (v5 - v5 / v7 * v7)), (0, .ref (ad en 0 0 0)), (1, .long a1), (3, .long a3), (7, .long v7), (9, .int v9)] dX7_tellFraction_32 (by decide) rfl ?_
        refine r_lload (pc := 34) 1 dX7_tellFraction_34 rfl ?_
        refine r_lstore (pc := 36) [(7, .long (v5 - v5 / v7 * v7)), (5, .long v7), (10, .long (v5 - v5 / v7 * v7)), (0, .ref (ad en 0 0 0)), (1, .long a1), (3, .long a3), (9, .int v9)] dX7_tellFraction_36 (by decide) rfl ?_
        refine r_iinc (pc := 38) 6 [(9, .int (v9 + (1 : Int32))), (7, .long (v5 - v5 / v7 * v7)), (5, .long v7), (10, .long (v5 - v5 / v7 * v7)), (0, .ref (ad en 0 0 0)), (1, .long a1), (3, .long a3)] dX7_tellFraction_38 rfl rfl (by decide) rfl ?_
        refine r_goto (pc := 41) 9 dX7_tellFraction_41 (by decide) ?_
        exact r_sub [4, 5, 6, 2, 1, 0] rfl (ih v7 (v5 - v5 / v7 * v7) (v9 + (1 : Int32)))
set_option maxHeartbeats 4000000 in
theorem R_X7_tellFraction (en : En) (N : Nat) (p0 : Int64) (p1 : Int64)  (σ : Sg) : RR en ExT mi_X7_tellFraction evV 0 [(0, .ref (ad en 0 0 0)), (1, .long p0), (3, .long p1)] [] σ (f_X7_tellFraction N p0 p1 σ) := by
  unfold f_X7_tellFraction
  refine r_lload_n (pc := 0) 1 dX7_tellFraction_0 rfl rfl ?_
  refine r_lstore (pc := 1) [(5, .long p0), (0, .ref (ad en 0 0 0)), (1, .long p0), (3, .long p1)] dX7_tellFraction_1 (by decide) rfl ?_
  refine r_lload_n (pc := 3) 3 dX7_tellFraction_3 rfl rfl ?_
  refine r_lstore (pc := 4) [(7, .long p1), (5, .long p0), (0, .ref (ad en 0 0 0)), (1, .long p0), (3, .long p1)] dX7_tellFraction_4 (by decide) rfl ?_
  refine r_iconst (pc := 6) dX7_tellFraction_6 kc_iconst_0 ?_
  refine r_istore (pc := 7) [(9, .int (0 : Int32)), (7, .long p1), (5, .long p0), (0, .ref (ad en 0 0 0)), (1, .long p0), (3, .long p1)] dX7_tellFraction_7 (by decide) rfl ?_
  refine r_sub [3, 4, 5, 2, 1, 0] rfl (RL_X7_tellFraction_9 en N p0 p1 σ  (fun v5_1 v7_1 v9_1 => ?_) N p0 p1 (0 : Int32))
  refine r_lload (pc := 44) 3 dX7_tellFraction_44 rfl ?_
  refine r_lconst (pc := 46) (v := 0) dX7_tellFraction_46 rfl ?_
  refine r_lcmp (pc := 47) dX7_tellFraction_47 ?_
  refine r_if_le (pc := 48) 67 dX7_tellFraction_48 (by decide) (fun h4 => ?_) (fun h4 => ?_)
  · exact r_vret (pc := 67) rfl dX7_tellFraction_67
  · refine r_aload_n (pc := 51) 0 dX7_tellFraction_51 rfl rfl ?_
    refine r_lload_n (pc := 52) 1 dX7_tellFraction_52 rfl rfl ?_
    refine r_lload (pc := 53) 3 dX7_tellFraction_53 rfl ?_
    refine r_gd (fun h5 => ?_)
    refine r_ldiv (pc := 55) dX7_tellFraction_55 (of_decide_eq_true h5) ?_
    refine p_X7_upperNumber (pc := 56)  lf_RX7_76 dX7_tellFraction_56 ?_
    refine r_aload_n (pc := 59) 0 dX7_tellFraction_59 rfl rfl ?_
    refine r_lload_n (pc := 60) 2 dX7_tellFraction_60 rfl rfl ?_
    refine r_lload (pc := 61) 3 dX7_tellFraction_61 rfl ?_
    refine r_ldiv (pc := 63) dX7_tellFraction_63 (of_decide_eq_true h5) ?_
    refine p_X7_lowerNumber (pc := 64)  lf_RX7_80 dX7_tellFraction_64 ?_
    exact r_vret (pc := 67) rfl dX7_tellFraction_67
theorem ok_X7_tellFraction : yOk yX7_tellFraction cX7_tellFraction 12 none := ⟨in_lwG (by decide +kernel) rfl, in_lwG (by decide +kernel) rfl, by decide, by decide, by decide⟩
theorem k_X7_tellFraction {en : En} {Ex : (Nat → Prop) → State → Prop} {mi : Mi} {α : Type} {ev : α → Option Value × Sg} {pc index : Nat} {lv : List (Nat × Value)} {rest : List Value} {σ : Sg} {N : Nat} {k : (Sg) → Option α} {p0 : Int64} {p1 : Int64} (hlink : Cond.methodLink mi.1 index yX7_tellFraction ∈ lwG) (hroom : 1 + 1 ≤ mi.2.2.2.2) (hcat : (rest.map fun v => v.category).sum ≤ 8) (hd : decode mi.2.1 pc = .ok (.invokevirtual index, 3))  (h : ∀ w : Sg, f_X7_tellFraction N p0 p1 σ = some w → RR en Ex mi ev (pc + 3) lv (rest) w (k w)) : RR en Ex mi ev pc lv (.long p1 :: .long p0 :: .ref (ad en 0 0 0) :: rest) σ ((f_X7_tellFraction N p0 p1 σ).bind k) :=
  r_callV (n := 2) [.long p0, .long p1] ok_X7_tellFraction hlink (in_lwG (by decide +kernel) rfl) (in_lwG (by decide +kernel) rfl) (by decide +kernel) rfl hroom (by decide) o0 rfl rfl hcat (R_X7_tellFraction en N p0 p1  σ) (Nat.le_of_ble_eq_true rfl) hd h
set_option maxHeartbeats 4000000 in
theorem RL_X7_mid_30 (en : En) (N : Nat) {k : Int64 → Int32 → Sg → Option (Int32 × Sg)} (a1 : Int32) (a2 : Int32) (a4 : Int32)  (hk : ∀ (v5 : Int64) (v7 : Int32) (σ : Sg), RR en ExT mi_X7_mid evI 94 [(0, .ref (ad en 0 0 0)), (4, .int a4), (5, .long v5)] [] σ (k v5 v7 σ)) : ∀ (n : Nat) (v5 : Int64) (v7 : Int32) (σ : Sg), RR en ExT mi_X7_mid evI 30 [(0, .ref (ad en 0 0 0)), (1, .int a1), (2, .int a2), (4, .int a4), (5, .long v5), (7, .int v7)] [] σ (L_X7_mid_30 N k a1 a2 a4 n v5 v7 σ) := by
  intro n
  induction n with
  | zero => intro v5 v7 σ; exact r_none
  | succ n ih =>
    intro v5 v7 σ
    rw [L_X7_mid_30_s]
    refine r_iload (pc := 30) 5 dX7_mid_30 rfl ?_
    refine r_bipush (pc := 32) dX7_mid_32 kc_bipush_96 ?_
    refine r_icmp_ge (pc := 34) 94 dX7_mid_34 (by decide) (fun h3 => ?_) (fun h3 => ?_)
    · exact r_sub [0, 3, 4] rfl (hk v5 v7 σ)
    · refine r_aload_n (pc := 37) 0 dX7_mid_37 rfl rfl ?_
      refine g_X7_screen (pc := 38)  lf_RX7_24 dX7_mid_38 ?_
      refine g_X4_panes (pc := 41) (by decide) lf_RX7_146 dX7_mid_41 ?_
      refine r_iload_n (pc := 44) 1 dX7_mid_44 rfl rfl ?_
      refine r_aald (pc := 45) (n := 7) (k := 7) (o8 (by decide)) rfl rfl rfl dX7_mid_45 (fun h4 => ?_)
      refine r_iload (pc := 46) 5 dX7_mid_46 rfl ?_
      refine k_X2_hasCell (pc := 48) lm_RX7_177  (by decide) (Nat.le_of_ble_eq_true rfl) dX7_mid_48 (by decide) (ib_lt h4) (fun w2 h5 => ?_)
      refine r_if_eq (pc := 51) 88 dX7_mid_51 (by decide) (fun h6 => ?_) (fun h6 => ?_)
      · refine r_iinc (pc := 88) 5 [(7, .int (v7 + (1 : Int32))), (0, .ref (ad en 0 0 0)), (1, .int a1), (2, .int a2), (4, .int a4), (5, .long v5)] dX7_mid_88 rfl rfl (by decide) rfl ?_
        refine r_goto (pc := 91) 30 dX7_mid_91 (by decide) ?_
        exact r_sub [1, 2, 3, 4, 5, 0] rfl (ih v5 (v7 + (1 : Int32)) w2.2)
      · refine r_aload_n (pc := 54) 0 dX7_mid_54 rfl rfl ?_
        refine g_X7_screen (pc := 55)  lf_RX7_24 dX7_mid_55 ?_
        refine r_iload_n (pc := 58) 1 dX7_mid_58 rfl rfl ?_
        refine r_iload (pc := 59) 5 dX7_mid_59 rfl ?_
        refine k_X4_howManyOver (pc := 61) lm_RX7_291  (by decide) (Nat.le_of_ble_eq_true rfl) dX7_mid_61 (by decide) (fun w3 h7 => ?_)
        refine r_istore (pc := 64) [(8, .int w3.1), (0, .ref (ad en 0 0 0)), (1, .int a1), (2, .int a2), (4, .int a4), (5, .long v5), (7, .int v7)] dX7_mid_64 (by decide) rfl ?_
        refine r_lload (pc := 66) 5 dX7_mid_66 rfl ?_
        refine r_iload_n (pc := 68) 3 dX7_mid_68 rfl rfl ?_
        refine r_iload (pc := 69) 0 dX7_mid_69 rfl ?_
        refine k_X7_power (pc := 71) lm_RX7_283  (by decide) (Nat.le_of_ble_eq_true rfl) dX7_mid_71 (fun w4 h8 => ?_)
        refine r_bipush (pc := 74) dX7_mid_74 kc_bipush_12 ?_
        refine r_iload (pc := 76) 4 dX7_mid_76 rfl ?_
        refine r_iload (pc := 78) 0 dX7_mid_78 rfl ?_
        refine r_isub (pc := 80) dX7_mid_80 ?_
        refine k_X7_power (pc := 81) lm_RX7_283  (by decide) (Nat.le_of_ble_eq_true rfl) dX7_mid_81 (fun w5 h9 => ?_)
        refine r_lmul (pc := 84) dX7_mid_84 ?_
        refine r_ladd (pc := 85) dX7_mid_85 ?_
        refine r_lstore (pc := 86) [(5, .long (v5 + (w4.1 * w5.1))), (8, .int w3.1), (0, .ref (ad en 0 0 0)), (1, .int a1), (2, .int a2), (4, .int a4), (7, .int v7)] dX7_mid_86 (by decide) rfl ?_
        refine r_iinc (pc := 88) 6 [(7, .int (v7 + (1 : Int32))), (5, .long (v5 + (w4.1 * w5.1))), (8, .int w3.1), (0, .ref (ad en 0 0 0)), (1, .int a1), (2, .int a2), (4, .int a4)] dX7_mid_88 rfl rfl (by decide) rfl ?_
        refine r_goto (pc := 91) 30 dX7_mid_91 (by decide) ?_
        exact r_sub [3, 4, 5, 6, 1, 0] rfl (ih (v5 + (w4.1 * w5.1)) (v7 + (1 : Int32)) w5.2)
set_option maxHeartbeats 4000000 in
theorem R_X7_mid (en : En) (N : Nat) (p0 : Int32) (p1 : Int32)  (σ : Sg) : RR en ExT mi_X7_mid evI 0 [(0, .ref (ad en 0 0 0)), (1, .int p0), (2, .int p1)] [] σ (f_X7_mid N p0 p1 σ) := by
  unfold f_X7_mid
  refine r_aload_n (pc := 0) 0 dX7_mid_0 rfl rfl ?_
  refine r_iload_n (pc := 1) 1 dX7_mid_1 rfl rfl ?_
  refine r_iload_n (pc := 2) 2 dX7_mid_2 rfl rfl ?_
  refine k_X7_refusalOfChance (pc := 3) lm_RX7_280  (by decide) (Nat.le_of_ble_eq_true rfl) dX7_mid_3 (fun w1 h1 => ?_)
  refine r_istore_n (pc := 6) [(3, .int w1.1), (0, .ref (ad en 0 0 0)), (1, .int p0), (2, .int p1)] dX7_mid_6 rfl (by decide) rfl ?_
  refine r_iload_n (pc := 7) 0 dX7_mid_7 rfl rfl ?_
  refine r_if_eq (pc := 8) 13 dX7_mid_8 (by decide) (fun h2 => ?_) (fun h2 => ?_)
  · refine r_aload_n (pc := 13) 1 dX7_mid_13 rfl rfl ?_
    refine g_X7_screen (pc := 14)  lf_RX7_24 dX7_mid_14 ?_
    refine g_X4_size (pc := 17) (by decide) lf_RX7_139 dX7_mid_17 ?_
    refine r_iconst (pc := 20) dX7_mid_20 kc_iconst_1 ?_
    refine r_isub (pc := 21) dX7_mid_21 ?_
    refine r_istore (pc := 22) [(4, .int ((rI w1.2 7 0 0 1) - (1 : Int32))), (3, .int w1.1), (0, .ref (ad en 0 0 0)), (1, .int p0), (2, .int p1)] dX7_mid_22 (by decide) rfl ?_
    refine r_lconst (pc := 24) (v := 0) dX7_mid_24 rfl ?_
    refine r_lstore (pc := 25) [(5, .long (0 : Int64)), (4, .int ((rI w1.2 7 0 0 1) - (1 : Int32))), (3, .int w1.1), (0, .ref (ad en 0 0 0)), (1, .int p0), (2, .int p1)] dX7_mid_25 (by decide) rfl ?_
    refine r_iconst (pc := 27) dX7_mid_27 kc_iconst_0 ?_
    refine r_istore (pc := 28) [(7, .int (0 : Int32)), (5, .long (0 : Int64)), (4, .int ((rI w1.2 7 0 0 1) - (1 : Int32))), (3, .int w1.1), (0, .ref (ad en 0 0 0)), (1, .int p0), (2, .int p1)] dX7_mid_28 (by decide) rfl ?_
    refine r_sub [4, 5, 6, 2, 1, 0] rfl (RL_X7_mid_30 en N p0 p1 ((rI w1.2 7 0 0 1) - (1 : Int32))  (fun v5_6 v7_6 σ_6 => ?_) N (0 : Int64) (0 : Int32) w1.2)
    refine r_aload_n (pc := 94) 0 dX7_mid_94 rfl rfl ?_
    refine r_lload (pc := 95) 2 dX7_mid_95 rfl ?_
    refine r_bipush (pc := 97) dX7_mid_97 kc_bipush_12 ?_
    refine r_iload (pc := 99) 1 dX7_mid_99 rfl ?_
    refine k_X7_power (pc := 101) lm_RX7_283  (by decide) (Nat.le_of_ble_eq_true rfl) dX7_mid_101 (fun w7 h10 => ?_)
    refine k_X7_tellFraction (pc := 104) lm_RX7_287  (by decide) (Nat.le_of_ble_eq_true rfl) dX7_mid_104 (fun w8 h11 => ?_)
    refine r_iconst (pc := 107) dX7_mid_107 kc_iconst_1 ?_
    exact r_iret (pc := 108) rfl dX7_mid_108
  · refine r_iload_n (pc := 11) 0 dX7_mid_11 rfl rfl ?_
    exact r_iret (pc := 12) rfl dX7_mid_12
theorem ok_X7_mid : yOk yX7_mid cX7_mid 9 (some .int) := ⟨in_lwG (by decide +kernel) rfl, in_lwG (by decide +kernel) rfl, by decide, by decide, by decide⟩
theorem k_X7_mid {en : En} {Ex : (Nat → Prop) → State → Prop} {mi : Mi} {α : Type} {ev : α → Option Value × Sg} {pc index : Nat} {lv : List (Nat × Value)} {rest : List Value} {σ : Sg} {N : Nat} {k : (Int32 × Sg) → Option α} {p0 : Int32} {p1 : Int32} (hlink : Cond.methodLink mi.1 index yX7_mid ∈ lwG) (hroom : 4 + 1 ≤ mi.2.2.2.2) (hcat : (rest.map fun v => v.category).sum ≤ 8) (hd : decode mi.2.1 pc = .ok (.invokevirtual index, 3))  (h : ∀ w : Int32 × Sg, f_X7_mid N p0 p1 σ = some w → RR en Ex mi ev (pc + 3) lv (.int w.1 :: rest) w.2 (k w)) : RR en Ex mi ev pc lv (.int p1 :: .int p0 :: .ref (ad en 0 0 0) :: rest) σ ((f_X7_mid N p0 p1 σ).bind k) :=
  r_callV (n := 2) [.int p0, .int p1] ok_X7_mid hlink (in_lwG (by decide +kernel) rfl) (in_lwG (by decide +kernel) rfl) (by decide +kernel) rfl hroom (by decide) o0 rfl rfl hcat (R_X7_mid en N p0 p1  σ) (Nat.le_of_ble_eq_true rfl) hd h
set_option maxHeartbeats 4000000 in
theorem R_X7_odds (en : En) (N : Nat) (p0 : Int32) (p1 : Int32)  (σ : Sg) : RR en ExT mi_X7_odds evI 0 [(0, .ref (ad en 0 0 0)), (1, .int p0), (2, .int p1)] [] σ (f_X7_odds N p0 p1 σ) := by
  unfold f_X7_odds
  refine r_aload_n (pc := 0) 0 dX7_odds_0 rfl rfl ?_
  refine r_iload_n (pc := 1) 1 dX7_odds_1 rfl rfl ?_
  refine r_iload_n (pc := 2) 2 dX7_odds_2 rfl rfl ?_
  refine k_X7_refusalOfChance (pc := 3) lm_RX7_280  (by decide) (Nat.le_of_ble_eq_true rfl) dX7_odds_3 (fun w1 h1 => ?_)
  refine r_istore_n (pc := 6) [(3, .int w1.1), (0, .ref (ad en 0 0 0)), (1, .int p0), (2, .int p1)] dX7_odds_6 rfl (by decide) rfl ?_
  refine r_iload_n (pc := 7) 0 dX7_odds_7 rfl rfl ?_
  refine r_if_eq (pc := 8) 13 dX7_odds_8 (by decide) (fun h2 => ?_) (fun h2 => ?_)
  · refine r_aload_n (pc := 13) 1 dX7_odds_13 rfl rfl ?_
    refine g_X7_screen (pc := 14)  lf_RX7_24 dX7_odds_14 ?_
    refine r_iload_n (pc := 17) 2 dX7_odds_17 rfl rfl ?_
    refine k_X4_inTheWayOf (pc := 18) lm_RX7_244  (by decide) (Nat.le_of_ble_eq_true rfl) dX7_odds_18 (by decide) (fun w2 h3 => ?_)
    refine k_J6_bitCount_0f7a4 (pc := 21) lm_RX7_247  (by decide) (Nat.le_of_ble_eq_true rfl) dX7_odds_21 (fun w3 h4 => ?_)
    refine r_istore (pc := 24) [(4, .int w3.1), (3, .int w1.1), (0, .ref (ad en 0 0 0)), (1, .int p0), (2, .int p1)] dX7_odds_24 (by decide) rfl ?_
    refine r_aload_n (pc := 26) 2 dX7_odds_26 rfl rfl ?_
    refine r_iload_n (pc := 27) 4 dX7_odds_27 rfl rfl ?_
    refine r_iload (pc := 28) 0 dX7_odds_28 rfl ?_
    refine k_X7_power (pc := 30) lm_RX7_283  (by decide) (Nat.le_of_ble_eq_true rfl) dX7_odds_30 (fun w4 h5 => ?_)
    refine r_bipush (pc := 33) dX7_odds_33 kc_bipush_12 ?_
    refine r_iload (pc := 35) 0 dX7_odds_35 rfl ?_
    refine k_X7_power (pc := 37) lm_RX7_283  (by decide) (Nat.le_of_ble_eq_true rfl) dX7_odds_37 (fun w5 h6 => ?_)
    refine k_X7_tellFraction (pc := 40) lm_RX7_287  (by decide) (Nat.le_of_ble_eq_true rfl) dX7_odds_40 (fun w6 h7 => ?_)
    refine r_iconst (pc := 43) dX7_odds_43 kc_iconst_1 ?_
    exact r_iret (pc := 44) rfl dX7_odds_44
  · refine r_iload_n (pc := 11) 0 dX7_odds_11 rfl rfl ?_
    exact r_iret (pc := 12) rfl dX7_odds_12
theorem ok_X7_odds : yOk yX7_odds cX7_odds 5 (some .int) := ⟨in_lwG (by decide +kernel) rfl, in_lwG (by decide +kernel) rfl, by decide, by decide, by decide⟩
theorem k_X7_odds {en : En} {Ex : (Nat → Prop) → State → Prop} {mi : Mi} {α : Type} {ev : α → Option Value × Sg} {pc index : Nat} {lv : List (Nat × Value)} {rest : List Value} {σ : Sg} {N : Nat} {k : (Int32 × Sg) → Option α} {p0 : Int32} {p1 : Int32} (hlink : Cond.methodLink mi.1 index yX7_odds ∈ lwG) (hroom : 4 + 1 ≤ mi.2.2.2.2) (hcat : (rest.map fun v => v.category).sum ≤ 8) (hd : decode mi.2.1 pc = .ok (.invokevirtual index, 3))  (h : ∀ w : Int32 × Sg, f_X7_odds N p0 p1 σ = some w → RR en Ex mi ev (pc + 3) lv (.int w.1 :: rest) w.2 (k w)) : RR en Ex mi ev pc lv (.int p1 :: .int p0 :: .ref (ad en 0 0 0) :: rest) σ ((f_X7_odds N p0 p1 σ).bind k) :=
  r_callV (n := 2) [.int p0, .int p1] ok_X7_odds hlink (in_lwG (by decide +kernel) rfl) (in_lwG (by decide +kernel) rfl) (by decide +kernel) rfl hroom (by decide) o0 rfl rfl hcat (R_X7_odds en N p0 p1  σ) (Nat.le_of_ble_eq_true rfl) hd h
set_option maxHeartbeats 4000000 in
theorem R_X7_on (en : En) (N : Nat) (p0 : Int32)  (σ : Sg) : RR en ExT mi_X7_on evI 0 [(0, .ref (ad en 0 0 0)), (1, .int p0)] [] σ (f_X7_on N p0 σ) := by
  unfold f_X7_on
  refine r_iload_n (pc := 0) 1 dX7_on_0 rfl rfl ?_
  refine k_X7_isKept (pc := 1) lm_RX7_216  (by decide) (Nat.le_of_ble_eq_true rfl) dX7_on_1 (fun w1 h1 => ?_)
  refine r_if_ne (pc := 4) 9 dX7_on_4 (by decide) (fun h2 => ?_) (fun h2 => ?_)
  · refine r_iconst (pc := 7) dX7_on_7 kc_iconst_m1 ?_
    exact r_iret (pc := 8) rfl dX7_on_8
  · refine r_aload_n (pc := 9) 0 dX7_on_9 rfl rfl ?_
    refine g_X7_keptDeeds (pc := 10)  lf_RX7_39 dX7_on_10 ?_
    refine r_iload_n (pc := 13) 1 dX7_on_13 rfl rfl ?_
    refine r_aald (pc := 14) (n := 3) (k := 6) o13 rfl rfl rfl dX7_on_14 (fun h3 => ?_)
    refine g_X1_size (pc := 15) (lt1 (ib_lt h3)) lf_RX7_85 dX7_on_15 ?_
    refine r_iconst (pc := 18) dX7_on_18 kc_iconst_m1 ?_
    refine r_icmp_ne (pc := 19) 28 dX7_on_19 (by decide) (fun h4 => ?_) (fun h4 => ?_)
    · refine r_aload_n (pc := 22) 0 dX7_on_22 rfl rfl ?_
      refine r_iconst (pc := 23) dX7_on_23 kc_iconst_1 ?_
      refine k_X7_found (pc := 24) lm_RX7_92  (by decide) (Nat.le_of_ble_eq_true rfl) dX7_on_24 (fun w2 h5 => ?_)
      exact r_iret (pc := 27) rfl dX7_on_27
    · refine r_aload_n (pc := 28) 0 dX7_on_28 rfl rfl ?_
      refine g_X7_screen (pc := 29)  lf_RX7_24 dX7_on_29 ?_
      refine r_aload_n (pc := 32) 0 dX7_on_32 rfl rfl ?_
      refine g_X7_keptScreens (pc := 33)  lf_RX7_35 dX7_on_33 ?_
      refine r_iload_n (pc := 36) 1 dX7_on_36 rfl rfl ?_
      refine r_aald (pc := 37) (n := 3) (k := 5) o12 rfl rfl rfl dX7_on_37 (fun h6 => ?_)
      refine k_X4_become (pc := 38) lm_RX7_135  (by decide) (Nat.le_of_ble_eq_true rfl) dX7_on_38 (by decide) (lt2 (ib_lt h6)) (fun w3 h7 => ?_)
      refine r_aload_n (pc := 41) 0 dX7_on_41 rfl rfl ?_
      refine g_X7_deeds (pc := 42)  lf_RX7_31 dX7_on_42 ?_
      refine r_aload_n (pc := 45) 0 dX7_on_45 rfl rfl ?_
      refine g_X7_keptDeeds (pc := 46)  lf_RX7_39 dX7_on_46 ?_
      refine r_iload_n (pc := 49) 1 dX7_on_49 rfl rfl ?_
      refine r_aald (pc := 50) (n := 3) (k := 6) o13 rfl rfl rfl dX7_on_50 (fun h8 => ?_)
      refine k_X1_become (pc := 51) lm_RX7_219  (by decide) (Nat.le_of_ble_eq_true rfl) dX7_on_51 (by decide) (lt1 (ib_lt h8)) (fun w4 h9 => ?_)
      refine r_aload_n (pc := 54) 0 dX7_on_54 rfl rfl ?_
      refine g_X7_deeds (pc := 55)  lf_RX7_31 dX7_on_55 ?_
      refine g_X1_size (pc := 58) (by decide) lf_RX7_85 dX7_on_58 ?_
      exact r_iret (pc := 61) rfl dX7_on_61
theorem ok_X7_on : yOk yX7_on cX7_on 2 (some .int) := ⟨in_lwG (by decide +kernel) rfl, in_lwG (by decide +kernel) rfl, by decide, by decide, by decide⟩
theorem k_X7_on {en : En} {Ex : (Nat → Prop) → State → Prop} {mi : Mi} {α : Type} {ev : α → Option Value × Sg} {pc index : Nat} {lv : List (Nat × Value)} {rest : List Value} {σ : Sg} {N : Nat} {k : (Int32 × Sg) → Option α} {p0 : Int32} (hlink : Cond.methodLink mi.1 index yX7_on ∈ lwG) (hroom : 3 + 1 ≤ mi.2.2.2.2) (hcat : (rest.map fun v => v.category).sum ≤ 8) (hd : decode mi.2.1 pc = .ok (.invokevirtual index, 3))  (h : ∀ w : Int32 × Sg, f_X7_on N p0 σ = some w → RR en Ex mi ev (pc + 3) lv (.int w.1 :: rest) w.2 (k w)) : RR en Ex mi ev pc lv (.int p0 :: .ref (ad en 0 0 0) :: rest) σ ((f_X7_on N p0 σ).bind k) :=
  r_callV (n := 1) [.int p0] ok_X7_on hlink (in_lwG (by decide +kernel) rfl) (in_lwG (by decide +kernel) rfl) (by decide +kernel) rfl hroom (by decide) o0 rfl rfl hcat (R_X7_on en N p0  σ) (Nat.le_of_ble_eq_true rfl) hd h
set_option maxHeartbeats 4000000 in
theorem R_X7_order (en : En) (N : Nat) (p0 : Int32)  (σ : Sg) : RR en ExT mi_X7_order evI 0 [(0, .ref (ad en 0 0 0)), (1, .int p0)] [] σ (f_X7_order N p0 σ) := by
  unfold f_X7_order
  refine r_iload_n (pc := 0) 1 dX7_order_0 rfl rfl ?_
  refine k_X7_isRow (pc := 1) lm_RX7_88  (by decide) (Nat.le_of_ble_eq_true rfl) dX7_order_1 (fun w1 h1 => ?_)
  refine r_if_ne (pc := 4) 9 dX7_order_4 (by decide) (fun h2 => ?_) (fun h2 => ?_)
  · refine r_iconst (pc := 7) dX7_order_7 kc_iconst_m1 ?_
    exact r_iret (pc := 8) rfl dX7_order_8
  · refine r_aload_n (pc := 9) 0 dX7_order_9 rfl rfl ?_
    refine g_X7_screen (pc := 10)  lf_RX7_24 dX7_order_10 ?_
    refine g_X4_size (pc := 13) (by decide) lf_RX7_139 dX7_order_13 ?_
    refine r_if_ne (pc := 16) 22 dX7_order_16 (by decide) (fun h3 => ?_) (fun h3 => ?_)
    · refine r_bipush (pc := 19) dX7_order_19 kc_bipush_m4 ?_
      exact r_iret (pc := 21) rfl dX7_order_21
    · refine r_aload_n (pc := 22) 0 dX7_order_22 rfl rfl ?_
      refine g_X7_rows (pc := 23)  lf_RX7_11 dX7_order_23 ?_
      refine r_iload_n (pc := 26) 1 dX7_order_26 rfl rfl ?_
      refine r_aald (pc := 27) (n := 6) (k := 3) o1 rfl rfl rfl dX7_order_27 (fun h4 => ?_)
      refine r_aload_n (pc := 28) 0 dX7_order_28 rfl rfl ?_
      refine g_X7_screen (pc := 29)  lf_RX7_24 dX7_order_29 ?_
      refine g_X4_size (pc := 32) (by decide) lf_RX7_139 dX7_order_32 ?_
      refine k_X3_renew (pc := 35) lm_RX7_96  (by decide) (Nat.le_of_ble_eq_true rfl) dX7_order_35 (ib_lt h4) (fun w2 h5 => ?_)
      refine r_aload_n (pc := 38) 0 dX7_order_38 rfl rfl ?_
      refine g_X7_bestOrder (pc := 39)  lf_RX7_49 dX7_order_39 ?_
      refine r_aload_n (pc := 42) 0 dX7_order_42 rfl rfl ?_
      refine g_X7_rows (pc := 43)  lf_RX7_11 dX7_order_43 ?_
      refine r_iload_n (pc := 46) 1 dX7_order_46 rfl rfl ?_
      refine r_aald (pc := 47) (n := 6) (k := 3) o1 rfl rfl rfl dX7_order_47 (fun h6 => ?_)
      refine g_X3_ints (pc := 48) (ib_lt h6) lf_RX7_104 dX7_order_48 ?_
      refine r_aload_n (pc := 51) 0 dX7_order_51 rfl rfl ?_
      refine g_X7_screen (pc := 52)  lf_RX7_24 dX7_order_52 ?_
      refine k_X0_findInto (pc := 55) lm_RX7_255  (by decide) (Nat.le_of_ble_eq_true rfl) dX7_order_55 (ib_lt h6) (by decide) (fun w3 h7 => ?_)
      exact r_iret (pc := 58) rfl dX7_order_58
theorem ok_X7_order : yOk yX7_order cX7_order 2 (some .int) := ⟨in_lwG (by decide +kernel) rfl, in_lwG (by decide +kernel) rfl, by decide, by decide, by decide⟩
theorem k_X7_order {en : En} {Ex : (Nat → Prop) → State → Prop} {mi : Mi} {α : Type} {ev : α → Option Value × Sg} {pc index : Nat} {lv : List (Nat × Value)} {rest : List Value} {σ : Sg} {N : Nat} {k : (Int32 × Sg) → Option α} {p0 : Int32} (hlink : Cond.methodLink mi.1 index yX7_order ∈ lwG) (hroom : 5 + 1 ≤ mi.2.2.2.2) (hcat : (rest.map fun v => v.category).sum ≤ 8) (hd : decode mi.2.1 pc = .ok (.invokevirtual index, 3))  (h : ∀ w : Int32 × Sg, f_X7_order N p0 σ = some w → RR en Ex mi ev (pc + 3) lv (.int w.1 :: rest) w.2 (k w)) : RR en Ex mi ev pc lv (.int p0 :: .ref (ad en 0 0 0) :: rest) σ ((f_X7_order N p0 σ).bind k) :=
  r_callV (n := 1) [.int p0] ok_X7_order hlink (in_lwG (by decide +kernel) rfl) (in_lwG (by decide +kernel) rfl) (by decide +kernel) rfl hroom (by decide) o0 rfl rfl hcat (R_X7_order en N p0  σ) (Nat.le_of_ble_eq_true rfl) hd h
set_option maxHeartbeats 4000000 in
theorem R_X7_pane (en : En) (N : Nat) (p0 : Int32) (p1 : Int32)  (σ : Sg) : RR en ExT mi_X7_pane evI 0 [(0, .ref (ad en 0 0 0)), (1, .int p0), (2, .int p1)] [] σ (f_X7_pane N p0 p1 σ) := by
  unfold f_X7_pane
  refine r_aload_n (pc := 0) 0 dX7_pane_0 rfl rfl ?_
  refine g_X7_screen (pc := 1)  lf_RX7_24 dX7_pane_1 ?_
  refine r_iload_n (pc := 4) 1 dX7_pane_4 rfl rfl ?_
  refine k_X4_has (pc := 5) lm_RX7_140  (by decide) (Nat.le_of_ble_eq_true rfl) dX7_pane_5 (by decide) (fun w1 h1 => ?_)
  refine r_if_eq (pc := 8) 21 dX7_pane_8 (by decide) (fun h2 => ?_) (fun h2 => ?_)
  · refine r_iconst (pc := 21) dX7_pane_21 kc_iconst_m1 ?_
    exact r_iret (pc := 22) rfl dX7_pane_22
  · refine r_iload_n (pc := 11) 2 dX7_pane_11 rfl rfl ?_
    refine r_if_lt (pc := 12) 21 dX7_pane_12 (by decide) (fun h3 => ?_) (fun h3 => ?_)
    · refine r_iconst (pc := 21) dX7_pane_21 kc_iconst_m1 ?_
      exact r_iret (pc := 22) rfl dX7_pane_22
    · refine r_iload_n (pc := 15) 2 dX7_pane_15 rfl rfl ?_
      refine r_bipush (pc := 16) dX7_pane_16 kc_bipush_7 ?_
      refine r_icmp_le (pc := 18) 23 dX7_pane_18 (by decide) (fun h4 => ?_) (fun h4 => ?_)
      · refine r_aload_n (pc := 23) 0 dX7_pane_23 rfl rfl ?_
        refine r_aload_n (pc := 24) 0 dX7_pane_24 rfl rfl ?_
        refine r_iload_n (pc := 25) 1 dX7_pane_25 rfl rfl ?_
        refine r_iload_n (pc := 26) 2 dX7_pane_26 rfl rfl ?_
        refine k_X7_ofPane (pc := 27) lm_RX7_143  (by decide) (Nat.le_of_ble_eq_true rfl) dX7_pane_27 (fun w2 h5 => ?_)
        refine p_X7_told (pc := 30)  lf_RX7_73 dX7_pane_30 ?_
        refine r_iconst (pc := 33) dX7_pane_33 kc_iconst_1 ?_
        exact r_iret (pc := 34) rfl dX7_pane_34
      · refine r_iconst (pc := 21) dX7_pane_21 kc_iconst_m1 ?_
        exact r_iret (pc := 22) rfl dX7_pane_22
theorem ok_X7_pane : yOk yX7_pane cX7_pane 3 (some .int) := ⟨in_lwG (by decide +kernel) rfl, in_lwG (by decide +kernel) rfl, by decide, by decide, by decide⟩
theorem k_X7_pane {en : En} {Ex : (Nat → Prop) → State → Prop} {mi : Mi} {α : Type} {ev : α → Option Value × Sg} {pc index : Nat} {lv : List (Nat × Value)} {rest : List Value} {σ : Sg} {N : Nat} {k : (Int32 × Sg) → Option α} {p0 : Int32} {p1 : Int32} (hlink : Cond.methodLink mi.1 index yX7_pane ∈ lwG) (hroom : 5 + 1 ≤ mi.2.2.2.2) (hcat : (rest.map fun v => v.category).sum ≤ 8) (hd : decode mi.2.1 pc = .ok (.invokevirtual index, 3))  (h : ∀ w : Int32 × Sg, f_X7_pane N p0 p1 σ = some w → RR en Ex mi ev (pc + 3) lv (.int w.1 :: rest) w.2 (k w)) : RR en Ex mi ev pc lv (.int p1 :: .int p0 :: .ref (ad en 0 0 0) :: rest) σ ((f_X7_pane N p0 p1 σ).bind k) :=
  r_callV (n := 2) [.int p0, .int p1] ok_X7_pane hlink (in_lwG (by decide +kernel) rfl) (in_lwG (by decide +kernel) rfl) (by decide +kernel) rfl hroom (by decide) o0 rfl rfl hcat (R_X7_pane en N p0 p1  σ) (Nat.le_of_ble_eq_true rfl) hd h
set_option maxHeartbeats 4000000 in
theorem RL_X7_places_45 (en : En) (N : Nat) {k : Int32 → Int32 → Int32 → Sg → Option (Int32 × Sg)} (a2 : Int32) (a4j : Nat) (ha4j : a4j < 7) (hk : ∀ (v5 : Int32) (v6 : Int32) (v7 : Int32) (σ : Sg), RR en ExT mi_X7_places evI 112 [(0, .ref (ad en 0 0 0)), (5, .int v5), (6, .int v6)] [] σ (k v5 v6 v7 σ)) : ∀ (n : Nat) (v5 : Int32) (v6 : Int32) (v7 : Int32) (σ : Sg), RR en ExT mi_X7_places evI 45 [(0, .ref (ad en 0 0 0)), (2, .int a2), (4, .ref (ad en 9 1 a4j)), (5, .int v5), (6, .int v6), (7, .int v7)] [] σ (L_X7_places_45 N k a2 a4j n v5 v6 v7 σ) := by
  intro n
  induction n with
  | zero => intro v5 v6 v7 σ; exact r_none
  | succ n ih =>
    intro v5 v6 v7 σ
    rw [L_X7_places_45_s]
    refine r_iload (pc := 45) 5 dX7_places_45 rfl ?_
    refine r_if_lt (pc := 47) 112 dX7_places_47 (by decide) (fun h5 => ?_) (fun h5 => ?_)
    · exact r_sub [0, 3, 4] rfl (hk v5 v6 v7 σ)
    · refine r_aload (pc := 50) 2 dX7_places_50 rfl ?_
      refine r_iload (pc := 52) 5 dX7_places_52 rfl ?_
      refine r_bipush (pc := 54) dX7_places_54 kc_bipush_12 ?_
      refine r_irem (pc := 56) dX7_places_56 (by decide) ?_
      refine r_iload (pc := 57) 5 dX7_places_57 rfl ?_
      refine r_bipush (pc := 59) dX7_places_59 kc_bipush_12 ?_
      refine r_idiv (pc := 61) dX7_places_61 (by decide) ?_
      refine k_X2_fitsAt (pc := 62) lm_RX7_192  (by decide) (Nat.le_of_ble_eq_true rfl) dX7_places_62 (by decide) ha4j (fun w3 h6 => ?_)
      refine r_if_eq (pc := 65) 106 dX7_places_65 (by decide) (fun h7 => ?_) (fun h7 => ?_)
      · refine r_iinc (pc := 106) 5 [(7, .int (v7 + (-1 : Int32))), (0, .ref (ad en 0 0 0)), (2, .int a2), (4, .ref (ad en 9 1 a4j)), (5, .int v5), (6, .int v6)] dX7_places_106 rfl rfl (by decide) rfl ?_
        refine r_goto (pc := 109) 45 dX7_places_109 (by decide) ?_
        exact r_sub [1, 2, 3, 4, 5, 0] rfl (ih v5 v6 (v7 + (-1 : Int32)) w3.2)
      · refine r_aload (pc := 68) 2 dX7_places_68 rfl ?_
        refine r_iload (pc := 70) 5 dX7_places_70 rfl ?_
        refine r_bipush (pc := 72) dX7_places_72 kc_bipush_12 ?_
        refine r_irem (pc := 74) dX7_places_74 (by decide) ?_
        refine r_iload (pc := 75) 5 dX7_places_75 rfl ?_
        refine r_bipush (pc := 77) dX7_places_77 kc_bipush_12 ?_
        refine r_idiv (pc := 79) dX7_places_79 (by decide) ?_
        refine k_X2_lieAt (pc := 80) lm_RX7_198  (by decide) (Nat.le_of_ble_eq_true rfl) dX7_places_80 (by decide) ha4j (fun w4 h8 => ?_)
        refine r_aload_n (pc := 83) 0 dX7_places_83 rfl rfl ?_
        refine g_X7_aside (pc := 84)  lf_RX7_43 dX7_places_84 ?_
        refine r_aload_n (pc := 87) 0 dX7_places_87 rfl rfl ?_
        refine g_X7_rows (pc := 88)  lf_RX7_11 dX7_places_88 ?_
        refine r_iload_n (pc := 91) 1 dX7_places_91 rfl rfl ?_
        refine r_aald (pc := 92) (n := 6) (k := 3) o1 rfl rfl rfl dX7_places_92 (fun h9 => ?_)
        refine k_X4_agreesWith (pc := 93) lm_RX7_266  (by decide) (Nat.le_of_ble_eq_true rfl) dX7_places_93 (by decide) (ib_lt h9) (fun w5 h10 => ?_)
        refine r_if_eq (pc := 96) 106 dX7_places_96 (by decide) (fun h11 => ?_) (fun h11 => ?_)
        · refine r_iinc (pc := 106) 5 [(7, .int (v7 + (-1 : Int32))), (0, .ref (ad en 0 0 0)), (2, .int a2), (4, .ref (ad en 9 1 a4j)), (5, .int v5), (6, .int v6)] dX7_places_106 rfl rfl (by decide) rfl ?_
          refine r_goto (pc := 109) 45 dX7_places_109 (by decide) ?_
          exact r_sub [1, 2, 3, 4, 5, 0] rfl (ih v5 v6 (v7 + (-1 : Int32)) w5.2)
        · refine r_iinc (pc := 99) 3 [(5, .int (v5 + (1 : Int32))), (0, .ref (ad en 0 0 0)), (2, .int a2), (4, .ref (ad en 9 1 a4j)), (6, .int v6), (7, .int v7)] dX7_places_99 rfl rfl (by decide) rfl ?_
          refine r_iload (pc := 102) 5 dX7_places_102 rfl ?_
          refine r_istore (pc := 104) [(6, .int v7), (5, .int (v5 + (1 : Int32))), (0, .ref (ad en 0 0 0)), (2, .int a2), (4, .ref (ad en 9 1 a4j)), (7, .int v7)] dX7_places_104 (by decide) rfl ?_
          refine r_iinc (pc := 106) 5 [(7, .int (v7 + (-1 : Int32))), (6, .int v7), (5, .int (v5 + (1 : Int32))), (0, .ref (ad en 0 0 0)), (2, .int a2), (4, .ref (ad en 9 1 a4j))] dX7_places_106 rfl rfl (by decide) rfl ?_
          refine r_goto (pc := 109) 45 dX7_places_109 (by decide) ?_
          exact r_sub [3, 4, 5, 2, 1, 0] rfl (ih (v5 + (1 : Int32)) v7 (v7 + (-1 : Int32)) w5.2)
set_option maxHeartbeats 4000000 in
theorem R_X7_places (en : En) (N : Nat) (p0 : Int32) (p1 : Int32)  (σ : Sg) : RR en ExT mi_X7_places evI 0 [(0, .ref (ad en 0 0 0)), (1, .int p0), (2, .int p1)] [] σ (f_X7_places N p0 p1 σ) := by
  unfold f_X7_places
  refine r_aload_n (pc := 0) 0 dX7_places_0 rfl rfl ?_
  refine r_iload_n (pc := 1) 1 dX7_places_1 rfl rfl ?_
  refine r_iload_n (pc := 2) 2 dX7_places_2 rfl rfl ?_
  refine k_X7_refusalOfSights (pc := 3) lm_RX7_259  (by decide) (Nat.le_of_ble_eq_true rfl) dX7_places_3 (fun w1 h1 => ?_)
  refine r_istore_n (pc := 6) [(3, .int w1.1), (0, .ref (ad en 0 0 0)), (1, .int p0), (2, .int p1)] dX7_places_6 rfl (by decide) rfl ?_
  refine r_iload_n (pc := 7) 0 dX7_places_7 rfl rfl ?_
  refine r_if_eq (pc := 8) 13 dX7_places_8 (by decide) (fun h2 => ?_) (fun h2 => ?_)
  · refine r_aload_n (pc := 13) 1 dX7_places_13 rfl rfl ?_
    refine g_X7_aside (pc := 14)  lf_RX7_43 dX7_places_14 ?_
    refine r_aload_n (pc := 17) 1 dX7_places_17 rfl rfl ?_
    refine g_X7_screen (pc := 18)  lf_RX7_24 dX7_places_18 ?_
    refine k_X4_become (pc := 21) lm_RX7_135  (by decide) (Nat.le_of_ble_eq_true rfl) dX7_places_21 (by decide) (by decide) (fun w2 h3 => ?_)
    refine r_aload_n (pc := 24) 1 dX7_places_24 rfl rfl ?_
    refine g_X7_aside (pc := 25)  lf_RX7_43 dX7_places_25 ?_
    refine g_X4_panes (pc := 28) (by decide) lf_RX7_146 dX7_places_28 ?_
    refine r_iload_n (pc := 31) 2 dX7_places_31 rfl rfl ?_
    refine r_aald (pc := 32) (n := 7) (k := 7) (o8 (by decide)) rfl rfl rfl dX7_places_32 (fun h4 => ?_)
    refine r_astore (pc := 33) [(4, .ref (ad en 9 1 p0.toNatClampNeg)), (3, .int w1.1), (0, .ref (ad en 0 0 0)), (1, .int p0), (2, .int p1)] dX7_places_33 (by decide) rfl ?_
    refine r_iconst (pc := 35) dX7_places_35 kc_iconst_0 ?_
    refine r_istore (pc := 36) [(5, .int (0 : Int32)), (4, .ref (ad en 9 1 p0.toNatClampNeg)), (3, .int w1.1), (0, .ref (ad en 0 0 0)), (1, .int p0), (2, .int p1)] dX7_places_36 (by decide) rfl ?_
    refine r_iconst (pc := 38) dX7_places_38 kc_iconst_0 ?_
    refine r_istore (pc := 39) [(6, .int (0 : Int32)), (5, .int (0 : Int32)), (4, .ref (ad en 9 1 p0.toNatClampNeg)), (3, .int w1.1), (0, .ref (ad en 0 0 0)), (1, .int p0), (2, .int p1)] dX7_places_39 (by decide) rfl ?_
    refine r_bipush (pc := 41) dX7_places_41 kc_bipush_95 ?_
    refine r_istore (pc := 43) [(7, .int (95 : Int32)), (6, .int (0 : Int32)), (5, .int (0 : Int32)), (4, .ref (ad en 9 1 p0.toNatClampNeg)), (3, .int w1.1), (0, .ref (ad en 0 0 0)), (1, .int p0), (2, .int p1)] dX7_places_43 (by decide) rfl ?_
    refine r_sub [5, 7, 3, 2, 1, 0] rfl (RL_X7_places_45 en N p1 p0.toNatClampNeg (ib_lt h4) (fun v5_6 v6_6 v7_6 σ_6 => ?_) N (0 : Int32) (0 : Int32) (95 : Int32) w2)
    refine r_iload (pc := 112) 1 dX7_places_112 rfl ?_
    refine r_if_ne (pc := 114) 120 dX7_places_114 (by decide) (fun h12 => ?_) (fun h12 => ?_)
    · refine r_bipush (pc := 117) dX7_places_117 kc_bipush_m9 ?_
      exact r_iret (pc := 119) rfl dX7_places_119
    · refine r_aload_n (pc := 120) 0 dX7_places_120 rfl rfl ?_
      refine r_iload (pc := 121) 2 dX7_places_121 rfl ?_
      refine p_X7_told (pc := 123)  lf_RX7_73 dX7_places_123 ?_
      refine r_iload (pc := 126) 1 dX7_places_126 rfl ?_
      exact r_iret (pc := 128) rfl dX7_places_128
  · refine r_iload_n (pc := 11) 0 dX7_places_11 rfl rfl ?_
    exact r_iret (pc := 12) rfl dX7_places_12
theorem ok_X7_places : yOk yX7_places cX7_places 8 (some .int) := ⟨in_lwG (by decide +kernel) rfl, in_lwG (by decide +kernel) rfl, by decide, by decide, by decide⟩
theorem k_X7_places {en : En} {Ex : (Nat → Prop) → State → Prop} {mi : Mi} {α : Type} {ev : α → Option Value × Sg} {pc index : Nat} {lv : List (Nat × Value)} {rest : List Value} {σ : Sg} {N : Nat} {k : (Int32 × Sg) → Option α} {p0 : Int32} {p1 : Int32} (hlink : Cond.methodLink mi.1 index yX7_places ∈ lwG) (hroom : 4 + 1 ≤ mi.2.2.2.2) (hcat : (rest.map fun v => v.category).sum ≤ 8) (hd : decode mi.2.1 pc = .ok (.invokevirtual index, 3))  (h : ∀ w : Int32 × Sg, f_X7_places N p0 p1 σ = some w → RR en Ex mi ev (pc + 3) lv (.int w.1 :: rest) w.2 (k w)) : RR en Ex mi ev pc lv (.int p1 :: .int p0 :: .ref (ad en 0 0 0) :: rest) σ ((f_X7_places N p0 p1 σ).bind k) :=
  r_callV (n := 2) [.int p0, .int p1] ok_X7_places hlink (in_lwG (by decide +kernel) rfl) (in_lwG (by decide +kernel) rfl) (by decide +kernel) rfl hroom (by decide) o0 rfl rfl hcat (R_X7_places en N p0 p1  σ) (Nat.le_of_ble_eq_true rfl) hd h
set_option maxHeartbeats 4000000 in
theorem R_X7_put (en : En) (N : Nat) (p0 : Int32) (p1 : Int32) (p2 : Int32)  (σ : Sg) : RR en ExT mi_X7_put evI 0 [(0, .ref (ad en 0 0 0)), (1, .int p0), (2, .int p1), (3, .int p2)] [] σ (f_X7_put N p0 p1 p2 σ) := by
  unfold f_X7_put
  refine r_iload_n (pc := 0) 1 dX7_put_0 rfl rfl ?_
  refine k_X7_isText (pc := 1) lm_RX7_122  (by decide) (Nat.le_of_ble_eq_true rfl) dX7_put_1 (fun w1 h1 => ?_)
  refine r_if_ne (pc := 4) 9 dX7_put_4 (by decide) (fun h2 => ?_) (fun h2 => ?_)
  · refine r_iconst (pc := 7) dX7_put_7 kc_iconst_m1 ?_
    exact r_iret (pc := 8) rfl dX7_put_8
  · refine r_aload_n (pc := 9) 0 dX7_put_9 rfl rfl ?_
    refine g_X7_texts (pc := 10)  lf_RX7_17 dX7_put_10 ?_
    refine r_iload_n (pc := 13) 1 dX7_put_13 rfl rfl ?_
    refine r_aald (pc := 14) (n := 4) (k := 4) o4 rfl rfl rfl dX7_put_14 (fun h3 => ?_)
    refine g_X5_size (pc := 15) (ib_lt h3) lf_RX7_126 dX7_put_15 ?_
    refine r_iconst (pc := 18) dX7_put_18 kc_iconst_m1 ?_
    refine r_icmp_ne (pc := 19) 28 dX7_put_19 (by decide) (fun h4 => ?_) (fun h4 => ?_)
    · refine r_aload_n (pc := 22) 0 dX7_put_22 rfl rfl ?_
      refine r_iconst (pc := 23) dX7_put_23 kc_iconst_1 ?_
      refine k_X7_found (pc := 24) lm_RX7_92  (by decide) (Nat.le_of_ble_eq_true rfl) dX7_put_24 (fun w2 h5 => ?_)
      exact r_iret (pc := 27) rfl dX7_put_27
    · refine r_iload_n (pc := 28) 2 dX7_put_28 rfl rfl ?_
      refine r_if_lt (pc := 29) 45 dX7_put_29 (by decide) (fun h6 => ?_) (fun h6 => ?_)
      · refine r_aload_n (pc := 45) 0 dX7_put_45 rfl rfl ?_
        refine r_iconst (pc := 46) dX7_put_46 kc_iconst_2 ?_
        refine k_X7_found (pc := 47) lm_RX7_92  (by decide) (Nat.le_of_ble_eq_true rfl) dX7_put_47 (fun w3 h7 => ?_)
        exact r_iret (pc := 50) rfl dX7_put_50
      · refine r_iload_n (pc := 32) 2 dX7_put_32 rfl rfl ?_
        refine r_aload_n (pc := 33) 0 dX7_put_33 rfl rfl ?_
        refine g_X7_texts (pc := 34)  lf_RX7_17 dX7_put_34 ?_
        refine r_iload_n (pc := 37) 1 dX7_put_37 rfl rfl ?_
        refine r_aald (pc := 38) (n := 4) (k := 4) o4 rfl rfl rfl dX7_put_38 (fun h8 => ?_)
        refine g_X5_size (pc := 39) (ib_lt h8) lf_RX7_126 dX7_put_39 ?_
        refine r_icmp_lt (pc := 42) 51 dX7_put_42 (by decide) (fun h9 => ?_) (fun h9 => ?_)
        · refine r_aload_n (pc := 51) 0 dX7_put_51 rfl rfl ?_
          refine g_X7_texts (pc := 52)  lf_RX7_17 dX7_put_52 ?_
          refine r_iload_n (pc := 55) 1 dX7_put_55 rfl rfl ?_
          refine r_aald (pc := 56) (n := 4) (k := 4) o4 rfl rfl rfl dX7_put_56 (fun h10 => ?_)
          refine g_X5_bytes (pc := 57) (ib_lt h10) lf_RX7_127 dX7_put_57 ?_
          refine r_iload_n (pc := 60) 2 dX7_put_60 rfl rfl ?_
          refine r_bald (pc := 61) (n := 60) (o6 (ib_lt h10)) rfl dX7_put_61 (fun h11 => ?_)
          refine r_istore (pc := 62) [(4, .int (rI w1.2 6 p0.toNatClampNeg 0 p1.toNatClampNeg)), (0, .ref (ad en 0 0 0)), (1, .int p0), (2, .int p1), (3, .int p2)] dX7_put_62 (by decide) rfl ?_
          refine r_aload_n (pc := 64) 1 dX7_put_64 rfl rfl ?_
          refine g_X7_texts (pc := 65)  lf_RX7_17 dX7_put_65 ?_
          refine r_iload_n (pc := 68) 2 dX7_put_68 rfl rfl ?_
          refine r_aald (pc := 69) (n := 4) (k := 4) o4 rfl rfl rfl dX7_put_69 (fun h12 => ?_)
          refine g_X5_bytes (pc := 70) (ib_lt h12) lf_RX7_127 dX7_put_70 ?_
          refine r_iload_n (pc := 73) 3 dX7_put_73 rfl rfl ?_
          refine r_iload_n (pc := 74) 4 dX7_put_74 rfl rfl ?_
          refine r_i2b (pc := 75) dX7_put_75 ?_
          refine r_bast (pc := 76) (n := 60) (o6 (ib_lt h12)) rfl rfl dX7_put_76 (fun h13 => ?_)
          refine r_iload (pc := 77) 0 dX7_put_77 rfl ?_
          refine r_sipush (pc := 79) dX7_put_79 kc_sipush_1000 ?_
          refine r_iadd (pc := 82) dX7_put_82 ?_
          exact r_iret (pc := 83) rfl dX7_put_83
        · refine r_aload_n (pc := 45) 0 dX7_put_45 rfl rfl ?_
          refine r_iconst (pc := 46) dX7_put_46 kc_iconst_2 ?_
          refine k_X7_found (pc := 47) lm_RX7_92  (by decide) (Nat.le_of_ble_eq_true rfl) dX7_put_47 (fun w4 h14 => ?_)
          exact r_iret (pc := 50) rfl dX7_put_50
theorem ok_X7_put : yOk yX7_put cX7_put 5 (some .int) := ⟨in_lwG (by decide +kernel) rfl, in_lwG (by decide +kernel) rfl, by decide, by decide, by decide⟩
theorem k_X7_put {en : En} {Ex : (Nat → Prop) → State → Prop} {mi : Mi} {α : Type} {ev : α → Option Value × Sg} {pc index : Nat} {lv : List (Nat × Value)} {rest : List Value} {σ : Sg} {N : Nat} {k : (Int32 × Sg) → Option α} {p0 : Int32} {p1 : Int32} {p2 : Int32} (hlink : Cond.methodLink mi.1 index yX7_put ∈ lwG) (hroom : 2 + 1 ≤ mi.2.2.2.2) (hcat : (rest.map fun v => v.category).sum ≤ 8) (hd : decode mi.2.1 pc = .ok (.invokevirtual index, 3))  (h : ∀ w : Int32 × Sg, f_X7_put N p0 p1 p2 σ = some w → RR en Ex mi ev (pc + 3) lv (.int w.1 :: rest) w.2 (k w)) : RR en Ex mi ev pc lv (.int p2 :: .int p1 :: .int p0 :: .ref (ad en 0 0 0) :: rest) σ ((f_X7_put N p0 p1 p2 σ).bind k) :=
  r_callV (n := 3) [.int p0, .int p1, .int p2] ok_X7_put hlink (in_lwG (by decide +kernel) rfl) (in_lwG (by decide +kernel) rfl) (by decide +kernel) rfl hroom (by decide) o0 rfl rfl hcat (R_X7_put en N p0 p1 p2  σ) (Nat.le_of_ble_eq_true rfl) hd h
set_option maxHeartbeats 4000000 in
theorem R_X7_row (en : En) (N : Nat) (p0 : Int32) (p1 : Int32)  (σ : Sg) : RR en ExT mi_X7_row evI 0 [(0, .ref (ad en 0 0 0)), (1, .int p0), (2, .int p1)] [] σ (f_X7_row N p0 p1 σ) := by
  unfold f_X7_row
  refine r_iload_n (pc := 0) 1 dX7_row_0 rfl rfl ?_
  refine k_X7_isRow (pc := 1) lm_RX7_88  (by decide) (Nat.le_of_ble_eq_true rfl) dX7_row_1 (fun w1 h1 => ?_)
  refine r_if_eq (pc := 4) 13 dX7_row_4 (by decide) (fun h2 => ?_) (fun h2 => ?_)
  · refine r_iconst (pc := 13) dX7_row_13 kc_iconst_m1 ?_
    exact r_iret (pc := 14) rfl dX7_row_14
  · refine r_iload_n (pc := 7) 2 dX7_row_7 rfl rfl ?_
    refine r_bipush (pc := 8) dX7_row_8 kc_bipush_40 ?_
    refine r_icmp_le (pc := 10) 15 dX7_row_10 (by decide) (fun h3 => ?_) (fun h3 => ?_)
    · refine r_iload_n (pc := 15) 2 dX7_row_15 rfl rfl ?_
      refine r_if_ge (pc := 16) 25 dX7_row_16 (by decide) (fun h4 => ?_) (fun h4 => ?_)
      · refine r_aload_n (pc := 25) 0 dX7_row_25 rfl rfl ?_
        refine g_X7_rows (pc := 26)  lf_RX7_11 dX7_row_26 ?_
        refine r_iload_n (pc := 29) 1 dX7_row_29 rfl rfl ?_
        refine r_aald (pc := 30) (n := 6) (k := 3) o1 rfl rfl rfl dX7_row_30 (fun h5 => ?_)
        refine r_iload_n (pc := 31) 2 dX7_row_31 rfl rfl ?_
        refine k_X3_renew (pc := 32) lm_RX7_96  (by decide) (Nat.le_of_ble_eq_true rfl) dX7_row_32 (ib_lt h5) (fun w2 h6 => ?_)
        refine r_iload_n (pc := 35) 2 dX7_row_35 rfl rfl ?_
        exact r_iret (pc := 36) rfl dX7_row_36
      · refine r_aload_n (pc := 19) 0 dX7_row_19 rfl rfl ?_
        refine r_iconst (pc := 20) dX7_row_20 kc_iconst_5 ?_
        refine k_X7_found (pc := 21) lm_RX7_92  (by decide) (Nat.le_of_ble_eq_true rfl) dX7_row_21 (fun w3 h7 => ?_)
        exact r_iret (pc := 24) rfl dX7_row_24
    · refine r_iconst (pc := 13) dX7_row_13 kc_iconst_m1 ?_
      exact r_iret (pc := 14) rfl dX7_row_14
theorem ok_X7_row : yOk yX7_row cX7_row 3 (some .int) := ⟨in_lwG (by decide +kernel) rfl, in_lwG (by decide +kernel) rfl, by decide, by decide, by decide⟩
theorem k_X7_row {en : En} {Ex : (Nat → Prop) → State → Prop} {mi : Mi} {α : Type} {ev : α → Option Value × Sg} {pc index : Nat} {lv : List (Nat × Value)} {rest : List Value} {σ : Sg} {N : Nat} {k : (Int32 × Sg) → Option α} {p0 : Int32} {p1 : Int32} (hlink : Cond.methodLink mi.1 index yX7_row ∈ lwG) (hroom : 3 + 1 ≤ mi.2.2.2.2) (hcat : (rest.map fun v => v.category).sum ≤ 8) (hd : decode mi.2.1 pc = .ok (.invokevirtual index, 3))  (h : ∀ w : Int32 × Sg, f_X7_row N p0 p1 σ = some w → RR en Ex mi ev (pc + 3) lv (.int w.1 :: rest) w.2 (k w)) : RR en Ex mi ev pc lv (.int p1 :: .int p0 :: .ref (ad en 0 0 0) :: rest) σ ((f_X7_row N p0 p1 σ).bind k) :=
  r_callV (n := 2) [.int p0, .int p1] ok_X7_row hlink (in_lwG (by decide +kernel) rfl) (in_lwG (by decide +kernel) rfl) (by decide +kernel) rfl hroom (by decide) o0 rfl rfl hcat (R_X7_row en N p0 p1  σ) (Nat.le_of_ble_eq_true rfl) hd h
set_option maxHeartbeats 4000000 in
theorem RL_X7_screen_70 (en : En) (N : Nat) {k : Int32 → Sg → Option (Int32 × Sg)}   (hk : ∀ (v2 : Int32) (σ : Sg), RR en ExT mi_X7_screen evI 91 [(0, .ref (ad en 0 0 0))] [] σ (k v2 σ)) : ∀ (n : Nat) (v2 : Int32) (σ : Sg), RR en ExT mi_X7_screen evI 70 [(0, .ref (ad en 0 0 0)), (2, .int v2)] [] σ (L_X7_screen_70 N k  n v2 σ) := by
  intro n
  induction n with
  | zero => intro v2 σ; exact r_none
  | succ n ih =>
    intro v2 σ
    rw [L_X7_screen_70_s]
    refine r_iload_n (pc := 70) 1 dX7_screen_70 rfl rfl ?_
    refine r_iconst (pc := 71) dX7_screen_71 kc_iconst_3 ?_
    refine r_icmp_ge (pc := 72) 91 dX7_screen_72 (by decide) (fun h10 => ?_) (fun h10 => ?_)
    · exact r_sub [0] rfl (hk v2 σ)
    · refine r_aload_n (pc := 75) 0 dX7_screen_75 rfl rfl ?_
      refine g_X7_keptDeeds (pc := 76)  lf_RX7_39 dX7_screen_76 ?_
      refine r_iload_n (pc := 79) 1 dX7_screen_79 rfl rfl ?_
      refine r_aald (pc := 80) (n := 3) (k := 6) o13 rfl rfl rfl dX7_screen_80 (fun h11 => ?_)
      refine r_iconst (pc := 81) dX7_screen_81 kc_iconst_m1 ?_
      refine p_X1_size (pc := 82) (lt1 (ib_lt h11)) lf_RX7_85 dX7_screen_82 ?_
      refine r_iinc (pc := 85) 1 [(2, .int (v2 + (1 : Int32))), (0, .ref (ad en 0 0 0))] dX7_screen_85 rfl rfl (by decide) rfl ?_
      refine r_goto (pc := 88) 70 dX7_screen_88 (by decide) ?_
      exact r_sub [1, 0] rfl (ih (v2 + (1 : Int32)) (uI σ 10 (v2.toNatClampNeg + 1) 0 4 (-1 : Int32)))
set_option maxHeartbeats 4000000 in
theorem R_X7_screen (en : En) (N : Nat) (p0 : Int32)  (σ : Sg) : RR en ExT mi_X7_screen evI 0 [(0, .ref (ad en 0 0 0)), (1, .int p0)] [] σ (f_X7_screen N p0 σ) := by
  unfold f_X7_screen
  refine r_iload_n (pc := 0) 1 dX7_screen_0 rfl rfl ?_
  refine k_X7_isText (pc := 1) lm_RX7_122  (by decide) (Nat.le_of_ble_eq_true rfl) dX7_screen_1 (fun w1 h1 => ?_)
  refine r_if_ne (pc := 4) 9 dX7_screen_4 (by decide) (fun h2 => ?_) (fun h2 => ?_)
  · refine r_iconst (pc := 7) dX7_screen_7 kc_iconst_m1 ?_
    exact r_iret (pc := 8) rfl dX7_screen_8
  · refine r_aload_n (pc := 9) 0 dX7_screen_9 rfl rfl ?_
    refine g_X7_texts (pc := 10)  lf_RX7_17 dX7_screen_10 ?_
    refine r_iload_n (pc := 13) 1 dX7_screen_13 rfl rfl ?_
    refine r_aald (pc := 14) (n := 4) (k := 4) o4 rfl rfl rfl dX7_screen_14 (fun h3 => ?_)
    refine g_X5_size (pc := 15) (ib_lt h3) lf_RX7_126 dX7_screen_15 ?_
    refine r_iconst (pc := 18) dX7_screen_18 kc_iconst_m1 ?_
    refine r_icmp_ne (pc := 19) 28 dX7_screen_19 (by decide) (fun h4 => ?_) (fun h4 => ?_)
    · refine r_aload_n (pc := 22) 0 dX7_screen_22 rfl rfl ?_
      refine r_iconst (pc := 23) dX7_screen_23 kc_iconst_1 ?_
      refine k_X7_found (pc := 24) lm_RX7_92  (by decide) (Nat.le_of_ble_eq_true rfl) dX7_screen_24 (fun w2 h5 => ?_)
      exact r_iret (pc := 27) rfl dX7_screen_27
    · refine r_aload_n (pc := 28) 0 dX7_screen_28 rfl rfl ?_
      refine g_X7_texts (pc := 29)  lf_RX7_17 dX7_screen_29 ?_
      refine r_iload_n (pc := 32) 1 dX7_screen_32 rfl rfl ?_
      refine r_aald (pc := 33) (n := 4) (k := 4) o4 rfl rfl rfl dX7_screen_33 (fun h6 => ?_)
      refine r_aload_n (pc := 34) 0 dX7_screen_34 rfl rfl ?_
      refine g_X7_aside (pc := 35)  lf_RX7_43 dX7_screen_35 ?_
      refine k_X5_readInto (pc := 38) lm_RX7_131  (by decide) (Nat.le_of_ble_eq_true rfl) dX7_screen_38 (ib_lt h6) (by decide) (fun w3 h7 => ?_)
      refine r_bipush (pc := 41) dX7_screen_41 kc_bipush_m9 ?_
      refine r_icmp_eq (pc := 43) 49 dX7_screen_43 (by decide) (fun h8 => ?_) (fun h8 => ?_)
      · refine r_aload_n (pc := 49) 0 dX7_screen_49 rfl rfl ?_
        refine g_X7_screen (pc := 50)  lf_RX7_24 dX7_screen_50 ?_
        refine r_aload_n (pc := 53) 0 dX7_screen_53 rfl rfl ?_
        refine g_X7_aside (pc := 54)  lf_RX7_43 dX7_screen_54 ?_
        refine k_X4_become (pc := 57) lm_RX7_135  (by decide) (Nat.le_of_ble_eq_true rfl) dX7_screen_57 (by decide) (by decide) (fun w4 h9 => ?_)
        refine r_aload_n (pc := 60) 0 dX7_screen_60 rfl rfl ?_
        refine g_X7_deeds (pc := 61)  lf_RX7_31 dX7_screen_61 ?_
        refine r_iconst (pc := 64) dX7_screen_64 kc_iconst_0 ?_
        refine p_X1_size (pc := 65) (by decide) lf_RX7_85 dX7_screen_65 ?_
        refine r_iconst (pc := 68) dX7_screen_68 kc_iconst_0 ?_
        refine r_istore_n (pc := 69) [(2, .int (0 : Int32)), (0, .ref (ad en 0 0 0)), (1, .int p0)] dX7_screen_69 rfl (by decide) rfl ?_
        refine r_sub [1, 0] rfl (RL_X7_screen_70 en N   (fun v2_5 σ_5 => ?_) N (0 : Int32) (uI w4 10 0 0 4 (0 : Int32)))
        refine r_aload_n (pc := 91) 0 dX7_screen_91 rfl rfl ?_
        refine g_X7_screen (pc := 92)  lf_RX7_24 dX7_screen_92 ?_
        refine g_X4_size (pc := 95) (by decide) lf_RX7_139 dX7_screen_95 ?_
        exact r_iret (pc := 98) rfl dX7_screen_98
      · refine r_bipush (pc := 46) dX7_screen_46 kc_bipush_m4 ?_
        exact r_iret (pc := 48) rfl dX7_screen_48
theorem ok_X7_screen : yOk yX7_screen cX7_screen 3 (some .int) := ⟨in_lwG (by decide +kernel) rfl, in_lwG (by decide +kernel) rfl, by decide, by decide, by decide⟩
theorem k_X7_screen {en : En} {Ex : (Nat → Prop) → State → Prop} {mi : Mi} {α : Type} {ev : α → Option Value × Sg} {pc index : Nat} {lv : List (Nat × Value)} {rest : List Value} {σ : Sg} {N : Nat} {k : (Int32 × Sg) → Option α} {p0 : Int32} (hlink : Cond.methodLink mi.1 index yX7_screen ∈ lwG) (hroom : 6 + 1 ≤ mi.2.2.2.2) (hcat : (rest.map fun v => v.category).sum ≤ 8) (hd : decode mi.2.1 pc = .ok (.invokevirtual index, 3))  (h : ∀ w : Int32 × Sg, f_X7_screen N p0 σ = some w → RR en Ex mi ev (pc + 3) lv (.int w.1 :: rest) w.2 (k w)) : RR en Ex mi ev pc lv (.int p0 :: .ref (ad en 0 0 0) :: rest) σ ((f_X7_screen N p0 σ).bind k) :=
  r_callV (n := 1) [.int p0] ok_X7_screen hlink (in_lwG (by decide +kernel) rfl) (in_lwG (by decide +kernel) rfl) (by decide +kernel) rfl hroom (by decide) o0 rfl rfl hcat (R_X7_screen en N p0  σ) (Nat.le_of_ble_eq_true rfl) hd h
set_option maxHeartbeats 4000000 in
theorem R_X7_seen (en : En) (N : Nat) (p0 : Int32)  (σ : Sg) : RR en ExT mi_X7_seen evI 0 [(0, .ref (ad en 0 0 0)), (1, .int p0)] [] σ (f_X7_seen N p0 σ) := by
  unfold f_X7_seen
  refine r_iload_n (pc := 0) 1 dX7_seen_0 rfl rfl ?_
  refine k_X7_isCell (pc := 1) lm_RX7_174  (by decide) (Nat.le_of_ble_eq_true rfl) dX7_seen_1 (fun w1 h1 => ?_)
  refine r_if_ne (pc := 4) 9 dX7_seen_4 (by decide) (fun h2 => ?_) (fun h2 => ?_)
  · refine r_iconst (pc := 7) dX7_seen_7 kc_iconst_m1 ?_
    exact r_iret (pc := 8) rfl dX7_seen_8
  · refine r_aload_n (pc := 9) 0 dX7_seen_9 rfl rfl ?_
    refine g_X7_screen (pc := 10)  lf_RX7_24 dX7_seen_10 ?_
    refine r_iload_n (pc := 13) 1 dX7_seen_13 rfl rfl ?_
    refine k_X4_whoAt (pc := 14) lm_RX7_222  (by decide) (Nat.le_of_ble_eq_true rfl) dX7_seen_14 (by decide) (fun w2 h3 => ?_)
    refine r_istore_n (pc := 17) [(2, .int w2.1), (0, .ref (ad en 0 0 0)), (1, .int p0)] dX7_seen_17 rfl (by decide) rfl ?_
    refine r_iload_n (pc := 18) 0 dX7_seen_18 rfl rfl ?_
    refine r_iconst (pc := 19) dX7_seen_19 kc_iconst_m1 ?_
    refine r_icmp_ne (pc := 20) 26 dX7_seen_20 (by decide) (fun h4 => ?_) (fun h4 => ?_)
    · refine r_bipush (pc := 23) dX7_seen_23 kc_bipush_m9 ?_
      exact r_iret (pc := 25) rfl dX7_seen_25
    · refine r_aload_n (pc := 26) 1 dX7_seen_26 rfl rfl ?_
      refine r_aload_n (pc := 27) 1 dX7_seen_27 rfl rfl ?_
      refine g_X7_screen (pc := 28)  lf_RX7_24 dX7_seen_28 ?_
      refine r_iload_n (pc := 31) 2 dX7_seen_31 rfl rfl ?_
      refine k_X4_howManyCover (pc := 32) lm_RX7_225  (by decide) (Nat.le_of_ble_eq_true rfl) dX7_seen_32 (by decide) (fun w3 h5 => ?_)
      refine p_X7_told (pc := 35)  lf_RX7_73 dX7_seen_35 ?_
      refine r_iload_n (pc := 38) 0 dX7_seen_38 rfl rfl ?_
      exact r_iret (pc := 39) rfl dX7_seen_39
theorem ok_X7_seen : yOk yX7_seen cX7_seen 3 (some .int) := ⟨in_lwG (by decide +kernel) rfl, in_lwG (by decide +kernel) rfl, by decide, by decide, by decide⟩
theorem k_X7_seen {en : En} {Ex : (Nat → Prop) → State → Prop} {mi : Mi} {α : Type} {ev : α → Option Value × Sg} {pc index : Nat} {lv : List (Nat × Value)} {rest : List Value} {σ : Sg} {N : Nat} {k : (Int32 × Sg) → Option α} {p0 : Int32} (hlink : Cond.methodLink mi.1 index yX7_seen ∈ lwG) (hroom : 3 + 1 ≤ mi.2.2.2.2) (hcat : (rest.map fun v => v.category).sum ≤ 8) (hd : decode mi.2.1 pc = .ok (.invokevirtual index, 3))  (h : ∀ w : Int32 × Sg, f_X7_seen N p0 σ = some w → RR en Ex mi ev (pc + 3) lv (.int w.1 :: rest) w.2 (k w)) : RR en Ex mi ev pc lv (.int p0 :: .ref (ad en 0 0 0) :: rest) σ ((f_X7_seen N p0 σ).bind k) :=
  r_callV (n := 1) [.int p0] ok_X7_seen hlink (in_lwG (by decide +kernel) rfl) (in_lwG (by decide +kernel) rfl) (by decide +kernel) rfl hroom (by decide) o0 rfl rfl hcat (R_X7_seen en N p0  σ) (Nat.le_of_ble_eq_true rfl) hd h
set_option maxHeartbeats 4000000 in
theorem RL_X7_shift_65 (en : En) (N : Nat) {k : Int32 → Int32 → Int32 → Sg → Option (Int32 × Sg)} (a1 : Int32) (a3j : Nat) (a4 : Int32) (a5 : Int32) (a8 : Int32) (ha3j : a3j < 7) (hk : ∀ (v6 : Int32) (v7 : Int32) (v9 : Int32) (σ : Sg), RR en ExT mi_X7_shift evI 146 [(0, .ref (ad en 0 0 0)), (1, .int a1), (3, .ref (ad en 9 1 a3j)), (4, .int a4), (5, .int a5), (6, .int v6), (7, .int v7), (8, .int a8)] [] σ (k v6 v7 v9 σ)) : ∀ (n : Nat) (v6 : Int32) (v7 : Int32) (v9 : Int32) (σ : Sg), RR en ExT mi_X7_shift evI 65 [(0, .ref (ad en 0 0 0)), (1, .int a1), (3, .ref (ad en 9 1 a3j)), (4, .int a4), (5, .int a5), (6, .int v6), (7, .int v7), (8, .int a8), (9, .int v9)] [] σ (L_X7_shift_65 N k a1 a3j a4 a5 a8 n v6 v7 v9 σ) := by
  intro n
  induction n with
  | zero => intro v6 v7 v9 σ; exact r_none
  | succ n ih =>
    intro v6 v7 v9 σ
    rw [L_X7_shift_65_s]
    refine r_iload (pc := 65) 8 dX7_shift_65 rfl ?_
    refine r_iconst (pc := 67) dX7_shift_67 kc_iconst_3 ?_
    refine r_icmp_gt (pc := 68) 146 dX7_shift_68 (by decide) (fun h6 => ?_) (fun h6 => ?_)
    · exact r_sub [0, 1, 2, 3, 4, 5, 6, 7] rfl (hk v6 v7 v9 σ)
    · refine r_iconst (pc := 71) dX7_shift_71 kc_iconst_m1 ?_
      refine r_istore (pc := 72) [(10, .int (-1 : Int32)), (0, .ref (ad en 0 0 0)), (1, .int a1), (3, .ref (ad en 9 1 a3j)), (4, .int a4), (5, .int a5), (6, .int v6), (7, .int v7), (8, .int a8), (9, .int v9)] dX7_shift_72 (by decide) rfl ?_
      refine r_aload_n (pc := 74) 3 dX7_shift_74 rfl rfl ?_
      refine r_iload (pc := 75) 4 dX7_shift_75 rfl ?_
      refine r_iload (pc := 77) 8 dX7_shift_77 rfl ?_
      refine r_iadd (pc := 79) dX7_shift_79 ?_
      refine r_iload (pc := 80) 5 dX7_shift_80 rfl ?_
      refine r_iload (pc := 82) 9 dX7_shift_82 rfl ?_
      refine r_iadd (pc := 84) dX7_shift_84 ?_
      refine k_X2_fitsAt (pc := 85) lm_RX7_192  (by decide) (Nat.le_of_ble_eq_true rfl) dX7_shift_85 (by decide) ha3j (fun w3 h7 => ?_)
      refine r_if_eq (pc := 88) 115 dX7_shift_88 (by decide) (fun h8 => ?_) (fun h8 => ?_)
      · refine r_iload (pc := 115) 0 dX7_shift_115 rfl ?_
        refine r_iload (pc := 117) 6 dX7_shift_117 rfl ?_
        refine r_icmp_le (pc := 119) 140 dX7_shift_119 (by decide) (fun h9 => ?_) (fun h9 => ?_)
        · refine r_iinc (pc := 140) 9 [(9, .int (v9 + (1 : Int32))), (10, .int (-1 : Int32)), (0, .ref (ad en 0 0 0)), (1, .int a1), (3, .ref (ad en 9 1 a3j)), (4, .int a4), (5, .int a5), (6, .int v6), (7, .int v7), (8, .int a8)] dX7_shift_140 rfl rfl (by decide) rfl ?_
          refine r_goto (pc := 143) 65 dX7_shift_143 (by decide) ?_
          exact r_sub [2, 3, 4, 5, 6, 7, 8, 9, 0] rfl (ih v6 v7 (v9 + (1 : Int32)) w3.2)
        · refine r_iload (pc := 122) 0 dX7_shift_122 rfl ?_
          refine r_istore (pc := 124) [(6, .int (-1 : Int32)), (10, .int (-1 : Int32)), (0, .ref (ad en 0 0 0)), (1, .int a1), (3, .ref (ad en 9 1 a3j)), (4, .int a4), (5, .int a5), (7, .int v7), (8, .int a8), (9, .int v9)] dX7_shift_124 (by decide) rfl ?_
          refine r_bipush (pc := 126) dX7_shift_126 kc_bipush_10 ?_
          refine r_iconst (pc := 128) dX7_shift_128 kc_iconst_3 ?_
          refine r_iload (pc := 129) 8 dX7_shift_129 rfl ?_
          refine r_iadd (pc := 131) dX7_shift_131 ?_
          refine r_imul (pc := 132) dX7_shift_132 ?_
          refine r_iconst (pc := 133) dX7_shift_133 kc_iconst_3 ?_
          refine r_iadd (pc := 134) dX7_shift_134 ?_
          refine r_iload (pc := 135) 9 dX7_shift_135 rfl ?_
          refine r_iadd (pc := 137) dX7_shift_137 ?_
          refine r_istore (pc := 138) [(7, .int ((((10 : Int32) * ((3 : Int32) + a8)) + (3 : Int32)) + v9)), (6, .int (-1 : Int32)), (10, .int (-1 : Int32)), (0, .ref (ad en 0 0 0)), (1, .int a1), (3, .ref (ad en 9 1 a3j)), (4, .int a4), (5, .int a5), (8, .int a8), (9, .int v9)] dX7_shift_138 (by decide) rfl ?_
          refine r_iinc (pc := 140) 9 [(9, .int (v9 + (1 : Int32))), (7, .int ((((10 : Int32) * ((3 : Int32) + a8)) + (3 : Int32)) + v9)), (6, .int (-1 : Int32)), (10, .int (-1 : Int32)), (0, .ref (ad en 0 0 0)), (1, .int a1), (3, .ref (ad en 9 1 a3j)), (4, .int a4), (5, .int a5), (8, .int a8)] dX7_shift_140 rfl rfl (by decide) rfl ?_
          refine r_goto (pc := 143) 65 dX7_shift_143 (by decide) ?_
          exact r_sub [4, 5, 6, 7, 8, 2, 1, 9, 0] rfl (ih (-1 : Int32) ((((10 : Int32) * ((3 : Int32) + a8)) + (3 : Int32)) + v9) (v9 + (1 : Int32)) w3.2)
      · refine r_aload_n (pc := 91) 3 dX7_shift_91 rfl rfl ?_
        refine r_iload (pc := 92) 4 dX7_shift_92 rfl ?_
        refine r_iload (pc := 94) 8 dX7_shift_94 rfl ?_
        refine r_iadd (pc := 96) dX7_shift_96 ?_
        refine r_iload (pc := 97) 5 dX7_shift_97 rfl ?_
        refine r_iload (pc := 99) 9 dX7_shift_99 rfl ?_
        refine r_iadd (pc := 101) dX7_shift_101 ?_
        refine k_X2_lieAt (pc := 102) lm_RX7_198  (by decide) (Nat.le_of_ble_eq_true rfl) dX7_shift_102 (by decide) ha3j (fun w4 h10 => ?_)
        refine r_aload_n (pc := 105) 1 dX7_shift_105 rfl rfl ?_
        refine g_X7_aside (pc := 106)  lf_RX7_43 dX7_shift_106 ?_
        refine r_iload_n (pc := 109) 2 dX7_shift_109 rfl rfl ?_
        refine k_X4_shownNow (pc := 110) lm_RX7_252  (by decide) (Nat.le_of_ble_eq_true rfl) dX7_shift_110 (by decide) (fun w5 h11 => ?_)
        refine r_istore (pc := 113) [(10, .int w5.1), (0, .ref (ad en 0 0 0)), (1, .int a1), (3, .ref (ad en 9 1 a3j)), (4, .int a4), (5, .int a5), (6, .int v6), (7, .int v7), (8, .int a8), (9, .int v9)] dX7_shift_113 (by decide) rfl ?_
        refine r_iload (pc := 115) 0 dX7_shift_115 rfl ?_
        refine r_iload (pc := 117) 6 dX7_shift_117 rfl ?_
        refine r_icmp_le (pc := 119) 140 dX7_shift_119 (by decide) (fun h12 => ?_) (fun h12 => ?_)
        · refine r_iinc (pc := 140) 9 [(9, .int (v9 + (1 : Int32))), (10, .int w5.1), (0, .ref (ad en 0 0 0)), (1, .int a1), (3, .ref (ad en 9 1 a3j)), (4, .int a4), (5, .int a5), (6, .int v6), (7, .int v7), (8, .int a8)] dX7_shift_140 rfl rfl (by decide) rfl ?_
          refine r_goto (pc := 143) 65 dX7_shift_143 (by decide) ?_
          exact r_sub [2, 3, 4, 5, 6, 7, 8, 9, 0] rfl (ih v6 v7 (v9 + (1 : Int32)) w5.2)
        · refine r_iload (pc := 122) 0 dX7_shift_122 rfl ?_
          refine r_istore (pc := 124) [(6, .int w5.1), (10, .int w5.1), (0, .ref (ad en 0 0 0)), (1, .int a1), (3, .ref (ad en 9 1 a3j)), (4, .int a4), (5, .int a5), (7, .int v7), (8, .int a8), (9, .int v9)] dX7_shift_124 (by decide) rfl ?_
          refine r_bipush (pc := 126) dX7_shift_126 kc_bipush_10 ?_
          refine r_iconst (pc := 128) dX7_shift_128 kc_iconst_3 ?_
          refine r_iload (pc := 129) 8 dX7_shift_129 rfl ?_
          refine r_iadd (pc := 131) dX7_shift_131 ?_
          refine r_imul (pc := 132) dX7_shift_132 ?_
          refine r_iconst (pc := 133) dX7_shift_133 kc_iconst_3 ?_
          refine r_iadd (pc := 134) dX7_shift_134 ?_
          refine r_iload (pc := 135) 9 dX7_shift_135 rfl ?_
          refine r_iadd (pc := 137) dX7_shift_137 ?_
          refine r_istore (pc := 138) [(7, .int ((((10 : Int32) * ((3 : Int32) + a8)) + (3 : Int32)) + v9)), (6, .int w5.1), (10, .int w5.1), (0, .ref (ad en 0 0 0)), (1, .int a1), (3, .ref (ad en 9 1 a3j)), (4, .int a4), (5, .int a5), (8, .int a8), (9, .int v9)] dX7_shift_138 (by decide) rfl ?_
          refine r_iinc (pc := 140) 9 [(9, .int (v9 + (1 : Int32))), (7, .int ((((10 : Int32) * ((3 : Int32) + a8)) + (3 : Int32)) + v9)), (6, .int w5.1), (10, .int w5.1), (0, .ref (ad en 0 0 0)), (1, .int a1), (3, .ref (ad en 9 1 a3j)), (4, .int a4), (5, .int a5), (8, .int a8)] dX7_shift_140 rfl rfl (by decide) rfl ?_
          refine r_goto (pc := 143) 65 dX7_shift_143 (by decide) ?_
          exact r_sub [4, 5, 6, 7, 8, 2, 1, 9, 0] rfl (ih w5.1 ((((10 : Int32) * ((3 : Int32) + a8)) + (3 : Int32)) + v9) (v9 + (1 : Int32)) w5.2)
set_option maxHeartbeats 4000000 in
theorem RL_X7_shift_55 (en : En) (N : Nat) {k : Int32 → Int32 → Int32 → Sg → Option (Int32 × Sg)} (a1 : Int32) (a3j : Nat) (a4 : Int32) (a5 : Int32) (ha3j : a3j < 7) (hk : ∀ (v6 : Int32) (v7 : Int32) (v8 : Int32) (σ : Sg), RR en ExT mi_X7_shift evI 152 [(0, .ref (ad en 0 0 0)), (6, .int v6), (7, .int v7)] [] σ (k v6 v7 v8 σ)) : ∀ (n : Nat) (v6 : Int32) (v7 : Int32) (v8 : Int32) (σ : Sg), RR en ExT mi_X7_shift evI 55 [(0, .ref (ad en 0 0 0)), (1, .int a1), (3, .ref (ad en 9 1 a3j)), (4, .int a4), (5, .int a5), (6, .int v6), (7, .int v7), (8, .int v8)] [] σ (L_X7_shift_55 N k a1 a3j a4 a5 n v6 v7 v8 σ) := by
  intro n
  induction n with
  | zero => intro v6 v7 v8 σ; exact r_none
  | succ n ih =>
    intro v6 v7 v8 σ
    rw [L_X7_shift_55_s]
    refine r_iload (pc := 55) 7 dX7_shift_55 rfl ?_
    refine r_iconst (pc := 57) dX7_shift_57 kc_iconst_3 ?_
    refine r_icmp_gt (pc := 58) 152 dX7_shift_58 (by decide) (fun h5 => ?_) (fun h5 => ?_)
    · exact r_sub [0, 5, 6] rfl (hk v6 v7 v8 σ)
    · refine r_bipush (pc := 61) dX7_shift_61 kc_bipush_m3 ?_
      refine r_istore (pc := 63) [(9, .int (-3 : Int32)), (0, .ref (ad en 0 0 0)), (1, .int a1), (3, .ref (ad en 9 1 a3j)), (4, .int a4), (5, .int a5), (6, .int v6), (7, .int v7), (8, .int v8)] dX7_shift_63 (by decide) rfl ?_
      refine r_sub [1, 2, 3, 4, 5, 6, 7, 8, 0] rfl (RL_X7_shift_65 en N a1 a3j a4 a5 v8 ha3j (fun v6_6 v7_6 v9_6 σ_6 => ?_) N v6 v7 (-3 : Int32) σ)
      refine r_iinc (pc := 146) 7 [(8, .int (v8 + (1 : Int32))), (0, .ref (ad en 0 0 0)), (1, .int a1), (3, .ref (ad en 9 1 a3j)), (4, .int a4), (5, .int a5), (6, .int v6_6), (7, .int v7_6)] dX7_shift_146 rfl rfl (by decide) rfl ?_
      refine r_goto (pc := 149) 55 dX7_shift_149 (by decide) ?_
      exact r_sub [1, 2, 3, 4, 5, 6, 7, 0] rfl (ih v6_6 v7_6 (v8 + (1 : Int32)) σ_6)
set_option maxHeartbeats 4000000 in
theorem R_X7_shift (en : En) (N : Nat) (p0 : Int32)  (σ : Sg) : RR en ExT mi_X7_shift evI 0 [(0, .ref (ad en 0 0 0)), (1, .int p0)] [] σ (f_X7_shift N p0 σ) := by
  unfold f_X7_shift
  refine r_aload_n (pc := 0) 0 dX7_shift_0 rfl rfl ?_
  refine r_iload_n (pc := 1) 1 dX7_shift_1 rfl rfl ?_
  refine k_X7_refusalOfOpen (pc := 2) lm_RX7_241  (by decide) (Nat.le_of_ble_eq_true rfl) dX7_shift_2 (fun w1 h1 => ?_)
  refine r_istore_n (pc := 5) [(2, .int w1.1), (0, .ref (ad en 0 0 0)), (1, .int p0)] dX7_shift_5 rfl (by decide) rfl ?_
  refine r_iload_n (pc := 6) 0 dX7_shift_6 rfl rfl ?_
  refine r_if_eq (pc := 7) 12 dX7_shift_7 (by decide) (fun h2 => ?_) (fun h2 => ?_)
  · refine r_aload_n (pc := 12) 1 dX7_shift_12 rfl rfl ?_
    refine g_X7_aside (pc := 13)  lf_RX7_43 dX7_shift_13 ?_
    refine r_aload_n (pc := 16) 1 dX7_shift_16 rfl rfl ?_
    refine g_X7_screen (pc := 17)  lf_RX7_24 dX7_shift_17 ?_
    refine k_X4_become (pc := 20) lm_RX7_135  (by decide) (Nat.le_of_ble_eq_true rfl) dX7_shift_20 (by decide) (by decide) (fun w2 h3 => ?_)
    refine r_aload_n (pc := 23) 1 dX7_shift_23 rfl rfl ?_
    refine g_X7_aside (pc := 24)  lf_RX7_43 dX7_shift_24 ?_
    refine g_X4_panes (pc := 27) (by decide) lf_RX7_146 dX7_shift_27 ?_
    refine r_iload_n (pc := 30) 2 dX7_shift_30 rfl rfl ?_
    refine r_aald (pc := 31) (n := 7) (k := 7) (o8 (by decide)) rfl rfl rfl dX7_shift_31 (fun h4 => ?_)
    refine r_astore_n (pc := 32) [(3, .ref (ad en 9 1 p0.toNatClampNeg)), (2, .int w1.1), (0, .ref (ad en 0 0 0)), (1, .int p0)] dX7_shift_32 rfl (by decide) rfl ?_
    refine r_aload_n (pc := 33) 0 dX7_shift_33 rfl rfl ?_
    refine g_X2_left (pc := 34) (by decide) (ib_lt h4) lf_RX7_186 dX7_shift_34 ?_
    refine r_istore (pc := 37) [(4, .int (rI w2 9 1 p0.toNatClampNeg 1)), (3, .ref (ad en 9 1 p0.toNatClampNeg)), (2, .int w1.1), (0, .ref (ad en 0 0 0)), (1, .int p0)] dX7_shift_37 (by decide) rfl ?_
    refine r_aload_n (pc := 39) 1 dX7_shift_39 rfl rfl ?_
    refine g_X2_top (pc := 40) (by decide) (ib_lt h4) lf_RX7_189 dX7_shift_40 ?_
    refine r_istore (pc := 43) [(5, .int (rI w2 9 1 p0.toNatClampNeg 2)), (4, .int (rI w2 9 1 p0.toNatClampNeg 1)), (3, .ref (ad en 9 1 p0.toNatClampNeg)), (2, .int w1.1), (0, .ref (ad en 0 0 0)), (1, .int p0)] dX7_shift_43 (by decide) rfl ?_
    refine r_iconst (pc := 45) dX7_shift_45 kc_iconst_m1 ?_
    refine r_istore (pc := 46) [(6, .int (-1 : Int32)), (5, .int (rI w2 9 1 p0.toNatClampNeg 2)), (4, .int (rI w2 9 1 p0.toNatClampNeg 1)), (3, .ref (ad en 9 1 p0.toNatClampNeg)), (2, .int w1.1), (0, .ref (ad en 0 0 0)), (1, .int p0)] dX7_shift_46 (by decide) rfl ?_
    refine r_iconst (pc := 48) dX7_shift_48 kc_iconst_0 ?_
    refine r_istore (pc := 49) [(7, .int (0 : Int32)), (6, .int (-1 : Int32)), (5, .int (rI w2 9 1 p0.toNatClampNeg 2)), (4, .int (rI w2 9 1 p0.toNatClampNeg 1)), (3, .ref (ad en 9 1 p0.toNatClampNeg)), (2, .int w1.1), (0, .ref (ad en 0 0 0)), (1, .int p0)] dX7_shift_49 (by decide) rfl ?_
    refine r_bipush (pc := 51) dX7_shift_51 kc_bipush_m3 ?_
    refine r_istore (pc := 53) [(8, .int (-3 : Int32)), (7, .int (0 : Int32)), (6, .int (-1 : Int32)), (5, .int (rI w2 9 1 p0.toNatClampNeg 2)), (4, .int (rI w2 9 1 p0.toNatClampNeg 1)), (3, .ref (ad en 9 1 p0.toNatClampNeg)), (2, .int w1.1), (0, .ref (ad en 0 0 0)), (1, .int p0)] dX7_shift_53 (by decide) rfl ?_
    refine r_sub [7, 8, 5, 4, 3, 2, 1, 0] rfl (RL_X7_shift_55 en N p0 p0.toNatClampNeg (rI w2 9 1 p0.toNatClampNeg 1) (rI w2 9 1 p0.toNatClampNeg 2) (ib_lt h4) (fun v6_7 v7_7 v8_7 σ_7 => ?_) N (-1 : Int32) (0 : Int32) (-3 : Int32) w2)
    refine r_aload_n (pc := 152) 0 dX7_shift_152 rfl rfl ?_
    refine r_iload (pc := 153) 1 dX7_shift_153 rfl ?_
    refine p_X7_told (pc := 155)  lf_RX7_73 dX7_shift_155 ?_
    refine r_iload (pc := 158) 2 dX7_shift_158 rfl ?_
    exact r_iret (pc := 160) rfl dX7_shift_160
  · refine r_iload_n (pc := 10) 0 dX7_shift_10 rfl rfl ?_
    exact r_iret (pc := 11) rfl dX7_shift_11
theorem ok_X7_shift : yOk yX7_shift cX7_shift 11 (some .int) := ⟨in_lwG (by decide +kernel) rfl, in_lwG (by decide +kernel) rfl, by decide, by decide, by decide⟩
theorem k_X7_shift {en : En} {Ex : (Nat → Prop) → State → Prop} {mi : Mi} {α : Type} {ev : α → Option Value × Sg} {pc index : Nat} {lv : List (Nat × Value)} {rest : List Value} {σ : Sg} {N : Nat} {k : (Int32 × Sg) → Option α} {p0 : Int32} (hlink : Cond.methodLink mi.1 index yX7_shift ∈ lwG) (hroom : 4 + 1 ≤ mi.2.2.2.2) (hcat : (rest.map fun v => v.category).sum ≤ 8) (hd : decode mi.2.1 pc = .ok (.invokevirtual index, 3))  (h : ∀ w : Int32 × Sg, f_X7_shift N p0 σ = some w → RR en Ex mi ev (pc + 3) lv (.int w.1 :: rest) w.2 (k w)) : RR en Ex mi ev pc lv (.int p0 :: .ref (ad en 0 0 0) :: rest) σ ((f_X7_shift N p0 σ).bind k) :=
  r_callV (n := 1) [.int p0] ok_X7_shift hlink (in_lwG (by decide +kernel) rfl) (in_lwG (by decide +kernel) rfl) (by decide +kernel) rfl hroom (by decide) o0 rfl rfl hcat (R_X7_shift en N p0  σ) (Nat.le_of_ble_eq_true rfl) hd h
set_option maxHeartbeats 4000000 in
theorem RL_X7_sortIntoParts_2 (en : En) (N : Nat) {k : Int32 → Sg → Option (Sg)} (a1 : Int32) (a2 : Int32)  (hk : ∀ (v3 : Int32) (σ : Sg), RR en ExT mi_X7_sortIntoParts evV 24 [(0, .ref (ad en 0 0 0)), (1, .int a1), (2, .int a2)] [] σ (k v3 σ)) : ∀ (n : Nat) (v3 : Int32) (σ : Sg), RR en ExT mi_X7_sortIntoParts evV 2 [(0, .ref (ad en 0 0 0)), (1, .int a1), (2, .int a2), (3, .int v3)] [] σ (L_X7_sortIntoParts_2 N k a1 a2 n v3 σ) := by
  intro n
  induction n with
  | zero => intro v3 σ; exact r_none
  | succ n ih =>
    intro v3 σ
    rw [L_X7_sortIntoParts_2_s]
    refine r_iload_n (pc := 2) 3 dX7_sortIntoParts_2 rfl rfl ?_
    refine r_bipush (pc := 3) dX7_sortIntoParts_3 kc_bipush_7 ?_
    refine r_icmp_gt (pc := 5) 24 dX7_sortIntoParts_5 (by decide) (fun h1 => ?_) (fun h1 => ?_)
    · exact r_sub [0, 1, 2] rfl (hk v3 σ)
    · refine r_aload_n (pc := 8) 0 dX7_sortIntoParts_8 rfl rfl ?_
      refine g_X7_parts (pc := 9)  lf_RX7_62 dX7_sortIntoParts_9 ?_
      refine r_iload_n (pc := 12) 3 dX7_sortIntoParts_12 rfl rfl ?_
      refine r_aald (pc := 13) (n := 8) (k := 8) o18 rfl rfl rfl dX7_sortIntoParts_13 (fun h2 => ?_)
      refine r_iconst (pc := 14) dX7_sortIntoParts_14 kc_iconst_0 ?_
      refine k_J7_fill_53178 (pc := 15) lm_RX7_353  (by decide) (Nat.le_of_ble_eq_true rfl) dX7_sortIntoParts_15 (o19 (ib_lt h2)) (fun _ _ => rfl) (fun w1 h3 => ?_)
      refine r_iinc (pc := 18) 3 [(3, .int (v3 + (1 : Int32))), (0, .ref (ad en 0 0 0)), (1, .int a1), (2, .int a2)] dX7_sortIntoParts_18 rfl rfl (by decide) rfl ?_
      refine r_goto (pc := 21) 2 dX7_sortIntoParts_21 (by decide) ?_
      exact r_sub [1, 2, 3, 0] rfl (ih (v3 + (1 : Int32)) w1)
set_option maxHeartbeats 4000000 in
theorem RL_X7_sortIntoParts_67 (en : En) (N : Nat) {k : Int32 → Sg → Option (Sg)} (a1 : Int32) (a2 : Int32) (a3 : Int32)  (hk : ∀ (v4 : Int32) (σ : Sg), RR en ExT mi_X7_sortIntoParts evV 103 [(0, .ref (ad en 0 0 0)), (1, .int a1), (2, .int a2), (3, .int a3)] [] σ (k v4 σ)) : ∀ (n : Nat) (v4 : Int32) (σ : Sg), RR en ExT mi_X7_sortIntoParts evV 67 [(0, .ref (ad en 0 0 0)), (1, .int a1), (2, .int a2), (3, .int a3), (4, .int v4)] [] σ (L_X7_sortIntoParts_67 N k a1 a2 a3 n v4 σ) := by
  intro n
  induction n with
  | zero => intro v4 σ; exact r_none
  | succ n ih =>
    intro v4 σ
    rw [L_X7_sortIntoParts_67_s]
    refine r_iload (pc := 67) 4 dX7_sortIntoParts_67 rfl ?_
    refine r_bipush (pc := 69) dX7_sortIntoParts_69 kc_bipush_96 ?_
    refine r_icmp_ge (pc := 71) 103 dX7_sortIntoParts_71 (by decide) (fun h9 => ?_) (fun h9 => ?_)
    · exact r_sub [0, 1, 2, 3] rfl (hk v4 σ)
    · refine r_aload_n (pc := 74) 0 dX7_sortIntoParts_74 rfl rfl ?_
      refine g_X7_parts (pc := 75)  lf_RX7_62 dX7_sortIntoParts_75 ?_
      refine r_aload_n (pc := 78) 0 dX7_sortIntoParts_78 rfl rfl ?_
      refine g_X7_aside (pc := 79)  lf_RX7_43 dX7_sortIntoParts_79 ?_
      refine r_iload (pc := 82) 4 dX7_sortIntoParts_82 rfl ?_
      refine k_X4_whoAt (pc := 84) lm_RX7_222  (by decide) (Nat.le_of_ble_eq_true rfl) dX7_sortIntoParts_84 (by decide) (fun w5 h10 => ?_)
      refine r_iconst (pc := 87) dX7_sortIntoParts_87 kc_iconst_1 ?_
      refine r_iadd (pc := 88) dX7_sortIntoParts_88 ?_
      refine r_aald (pc := 89) (n := 8) (k := 8) o18 rfl rfl rfl dX7_sortIntoParts_89 (fun h11 => ?_)
      refine r_iload (pc := 90) 4 dX7_sortIntoParts_90 rfl ?_
      refine r_dup2 (pc := 92) dX7_sortIntoParts_92 rfl rfl ?_
      refine r_iald (pc := 93) (n := 96) (o19 (ib_lt h11)) rfl dX7_sortIntoParts_93 (fun h12 => ?_)
      refine r_iconst (pc := 94) dX7_sortIntoParts_94 kc_iconst_1 ?_
      refine r_iadd (pc := 95) dX7_sortIntoParts_95 ?_
      refine r_iast (pc := 96) (n := 96) (o19 (ib_lt h11)) rfl rfl dX7_sortIntoParts_96 (fun h13 => ?_)
      refine r_iinc (pc := 97) 4 [(4, .int (v4 + (1 : Int32))), (0, .ref (ad en 0 0 0)), (1, .int a1), (2, .int a2), (3, .int a3)] dX7_sortIntoParts_97 rfl rfl (by decide) rfl ?_
      refine r_goto (pc := 100) 67 dX7_sortIntoParts_100 (by decide) ?_
      exact r_sub [1, 2, 3, 4, 0] rfl (ih (v4 + (1 : Int32)) (uI w5.2 19 ((w5.1 + (1 : Int32)).toNatClampNeg) 0 v4.toNatClampNeg ((rI w5.2 19 ((w5.1 + (1 : Int32)).toNatClampNeg) 0 v4.toNatClampNeg) + (1 : Int32))))
set_option maxHeartbeats 4000000 in
theorem RL_X7_sortIntoParts_37 (en : En) (N : Nat) {k : Int32 → Sg → Option (Sg)} (a1 : Int32) (a2 : Int32)  (hk : ∀ (v3 : Int32) (σ : Sg), RR en ExT mi_X7_sortIntoParts evV 109 [] [] σ (k v3 σ)) : ∀ (n : Nat) (v3 : Int32) (σ : Sg), RR en ExT mi_X7_sortIntoParts evV 37 [(0, .ref (ad en 0 0 0)), (1, .int a1), (2, .int a2), (3, .int v3)] [] σ (L_X7_sortIntoParts_37 N k a1 a2 n v3 σ) := by
  intro n
  induction n with
  | zero => intro v3 σ; exact r_none
  | succ n ih =>
    intro v3 σ
    rw [L_X7_sortIntoParts_37_s]
    refine r_iload_n (pc := 37) 3 dX7_sortIntoParts_37 rfl rfl ?_
    refine r_bipush (pc := 38) dX7_sortIntoParts_38 kc_bipush_6 ?_
    refine r_icmp_ge (pc := 40) 109 dX7_sortIntoParts_40 (by decide) (fun h5 => ?_) (fun h5 => ?_)
    · exact r_sub [] rfl (hk v3 σ)
    · refine r_iload_n (pc := 43) 2 dX7_sortIntoParts_43 rfl rfl ?_
      refine r_iload_n (pc := 44) 3 dX7_sortIntoParts_44 rfl rfl ?_
      refine r_ishr (pc := 45) dX7_sortIntoParts_45 ?_
      refine r_iconst (pc := 46) dX7_sortIntoParts_46 kc_iconst_1 ?_
      refine r_iand (pc := 47) dX7_sortIntoParts_47 ?_
      refine r_if_eq (pc := 48) 103 dX7_sortIntoParts_48 (by decide) (fun h6 => ?_) (fun h6 => ?_)
      · refine r_iinc (pc := 103) 3 [(3, .int (v3 + (1 : Int32))), (0, .ref (ad en 0 0 0)), (1, .int a1), (2, .int a2)] dX7_sortIntoParts_103 rfl rfl (by decide) rfl ?_
        refine r_goto (pc := 106) 37 dX7_sortIntoParts_106 (by decide) ?_
        exact r_sub [1, 2, 3, 0] rfl (ih (v3 + (1 : Int32)) σ)
      · refine r_aload_n (pc := 51) 0 dX7_sortIntoParts_51 rfl rfl ?_
        refine g_X7_aside (pc := 52)  lf_RX7_43 dX7_sortIntoParts_52 ?_
        refine g_X4_panes (pc := 55) (by decide) lf_RX7_146 dX7_sortIntoParts_55 ?_
        refine r_iload_n (pc := 58) 1 dX7_sortIntoParts_58 rfl rfl ?_
        refine r_aald (pc := 59) (n := 7) (k := 7) (o8 (by decide)) rfl rfl rfl dX7_sortIntoParts_59 (fun h7 => ?_)
        refine r_iload_n (pc := 60) 3 dX7_sortIntoParts_60 rfl rfl ?_
        refine k_X2_turnInto (pc := 61) lm_RX7_350  (by decide) (Nat.le_of_ble_eq_true rfl) dX7_sortIntoParts_61 (by decide) (ib_lt h7) (fun w4 h8 => ?_)
        refine r_iconst (pc := 64) dX7_sortIntoParts_64 kc_iconst_0 ?_
        refine r_istore (pc := 65) [(4, .int (0 : Int32)), (0, .ref (ad en 0 0 0)), (1, .int a1), (2, .int a2), (3, .int v3)] dX7_sortIntoParts_65 (by decide) rfl ?_
        refine r_sub [1, 2, 3, 4, 0] rfl (RL_X7_sortIntoParts_67 en N a1 a2 v3  (fun v4_6 σ_6 => ?_) N (0 : Int32) w4)
        refine r_iinc (pc := 103) 3 [(3, .int (v3 + (1 : Int32))), (0, .ref (ad en 0 0 0)), (1, .int a1), (2, .int a2)] dX7_sortIntoParts_103 rfl rfl (by decide) rfl ?_
        refine r_goto (pc := 106) 37 dX7_sortIntoParts_106 (by decide) ?_
        exact r_sub [1, 2, 3, 0] rfl (ih (v3 + (1 : Int32)) σ_6)
set_option maxHeartbeats 4000000 in
theorem R_X7_sortIntoParts (en : En) (N : Nat) (p0 : Int32) (p1 : Int32)  (σ : Sg) : RR en ExT mi_X7_sortIntoParts evV 0 [(0, .ref (ad en 0 0 0)), (1, .int p0), (2, .int p1)] [] σ (f_X7_sortIntoParts N p0 p1 σ) := by
  unfold f_X7_sortIntoParts
  refine r_iconst (pc := 0) dX7_sortIntoParts_0 kc_iconst_0 ?_
  refine r_istore_n (pc := 1) [(3, .int (0 : Int32)), (0, .ref (ad en 0 0 0)), (1, .int p0), (2, .int p1)] dX7_sortIntoParts_1 rfl (by decide) rfl ?_
  refine r_sub [1, 2, 3, 0] rfl (RL_X7_sortIntoParts_2 en N p0 p1  (fun v3_2 σ_2 => ?_) N (0 : Int32) σ)
  refine r_aload_n (pc := 24) 0 dX7_sortIntoParts_24 rfl rfl ?_
  refine g_X7_aside (pc := 25)  lf_RX7_43 dX7_sortIntoParts_25 ?_
  refine r_aload_n (pc := 28) 0 dX7_sortIntoParts_28 rfl rfl ?_
  refine g_X7_screen (pc := 29)  lf_RX7_24 dX7_sortIntoParts_29 ?_
  refine k_X4_become (pc := 32) lm_RX7_135  (by decide) (Nat.le_of_ble_eq_true rfl) dX7_sortIntoParts_32 (by decide) (by decide) (fun w3 h4 => ?_)
  refine r_iconst (pc := 35) dX7_sortIntoParts_35 kc_iconst_0 ?_
  refine r_istore_n (pc := 36) [(3, .int (0 : Int32)), (0, .ref (ad en 0 0 0)), (1, .int p0), (2, .int p1)] dX7_sortIntoParts_36 rfl (by decide) rfl ?_
  refine r_sub [1, 2, 3, 0] rfl (RL_X7_sortIntoParts_37 en N p0 p1  (fun v3_7 σ_7 => ?_) N (0 : Int32) w3)
  exact r_vret (pc := 109) rfl dX7_sortIntoParts_109
theorem ok_X7_sortIntoParts : yOk yX7_sortIntoParts cX7_sortIntoParts 5 none := ⟨in_lwG (by decide +kernel) rfl, in_lwG (by decide +kernel) rfl, by decide, by decide, by decide⟩
theorem k_X7_sortIntoParts {en : En} {Ex : (Nat → Prop) → State → Prop} {mi : Mi} {α : Type} {ev : α → Option Value × Sg} {pc index : Nat} {lv : List (Nat × Value)} {rest : List Value} {σ : Sg} {N : Nat} {k : (Sg) → Option α} {p0 : Int32} {p1 : Int32} (hlink : Cond.methodLink mi.1 index yX7_sortIntoParts ∈ lwG) (hroom : 4 + 1 ≤ mi.2.2.2.2) (hcat : (rest.map fun v => v.category).sum ≤ 8) (hd : decode mi.2.1 pc = .ok (.invokevirtual index, 3))  (h : ∀ w : Sg, f_X7_sortIntoParts N p0 p1 σ = some w → RR en Ex mi ev (pc + 3) lv (rest) w (k w)) : RR en Ex mi ev pc lv (.int p1 :: .int p0 :: .ref (ad en 0 0 0) :: rest) σ ((f_X7_sortIntoParts N p0 p1 σ).bind k) :=
  r_callV (n := 2) [.int p0, .int p1] ok_X7_sortIntoParts hlink (in_lwG (by decide +kernel) rfl) (in_lwG (by decide +kernel) rfl) (by decide +kernel) rfl hroom (by decide) o0 rfl rfl hcat (R_X7_sortIntoParts en N p0 p1  σ) (Nat.le_of_ble_eq_true rfl) hd h
set_option maxHeartbeats 4000000 in
theorem R_X7_tear (en : En) (N : Nat) (p0 : Int32)  (σ : Sg) : RR en ExT mi_X7_tear evI 0 [(0, .ref (ad en 0 0 0)), (1, .int p0)] [] σ (f_X7_tear N p0 σ) := by
  unfold f_X7_tear
  refine r_iload_n (pc := 0) 1 dX7_tear_0 rfl rfl ?_
  refine k_X7_isRow (pc := 1) lm_RX7_88  (by decide) (Nat.le_of_ble_eq_true rfl) dX7_tear_1 (fun w1 h1 => ?_)
  refine r_if_ne (pc := 4) 9 dX7_tear_4 (by decide) (fun h2 => ?_) (fun h2 => ?_)
  · refine r_iconst (pc := 7) dX7_tear_7 kc_iconst_m1 ?_
    exact r_iret (pc := 8) rfl dX7_tear_8
  · refine r_aload_n (pc := 9) 0 dX7_tear_9 rfl rfl ?_
    refine g_X7_rows (pc := 10)  lf_RX7_11 dX7_tear_10 ?_
    refine r_iload_n (pc := 13) 1 dX7_tear_13 rfl rfl ?_
    refine r_aald (pc := 14) (n := 6) (k := 3) o1 rfl rfl rfl dX7_tear_14 (fun h3 => ?_)
    refine g_X3_size (pc := 15) (ib_lt h3) lf_RX7_107 dX7_tear_15 ?_
    refine r_iconst (pc := 18) dX7_tear_18 kc_iconst_m1 ?_
    refine r_icmp_ne (pc := 19) 28 dX7_tear_19 (by decide) (fun h4 => ?_) (fun h4 => ?_)
    · refine r_aload_n (pc := 22) 0 dX7_tear_22 rfl rfl ?_
      refine r_iconst (pc := 23) dX7_tear_23 kc_iconst_1 ?_
      refine k_X7_found (pc := 24) lm_RX7_92  (by decide) (Nat.le_of_ble_eq_true rfl) dX7_tear_24 (fun w2 h5 => ?_)
      exact r_iret (pc := 27) rfl dX7_tear_27
    · refine r_aload_n (pc := 28) 0 dX7_tear_28 rfl rfl ?_
      refine g_X7_rows (pc := 29)  lf_RX7_11 dX7_tear_29 ?_
      refine r_iload_n (pc := 32) 1 dX7_tear_32 rfl rfl ?_
      refine r_aald (pc := 33) (n := 6) (k := 3) o1 rfl rfl rfl dX7_tear_33 (fun h6 => ?_)
      refine r_iconst (pc := 34) dX7_tear_34 kc_iconst_m1 ?_
      refine p_X3_size (pc := 35) (ib_lt h6) lf_RX7_107 dX7_tear_35 ?_
      refine r_iconst (pc := 38) dX7_tear_38 kc_iconst_1 ?_
      exact r_iret (pc := 39) rfl dX7_tear_39
theorem ok_X7_tear : yOk yX7_tear cX7_tear 2 (some .int) := ⟨in_lwG (by decide +kernel) rfl, in_lwG (by decide +kernel) rfl, by decide, by decide, by decide⟩
theorem k_X7_tear {en : En} {Ex : (Nat → Prop) → State → Prop} {mi : Mi} {α : Type} {ev : α → Option Value × Sg} {pc index : Nat} {lv : List (Nat × Value)} {rest : List Value} {σ : Sg} {N : Nat} {k : (Int32 × Sg) → Option α} {p0 : Int32} (hlink : Cond.methodLink mi.1 index yX7_tear ∈ lwG) (hroom : 2 + 1 ≤ mi.2.2.2.2) (hcat : (rest.map fun v => v.category).sum ≤ 8) (hd : decode mi.2.1 pc = .ok (.invokevirtual index, 3))  (h : ∀ w : Int32 × Sg, f_X7_tear N p0 σ = some w → RR en Ex mi ev (pc + 3) lv (.int w.1 :: rest) w.2 (k w)) : RR en Ex mi ev pc lv (.int p0 :: .ref (ad en 0 0 0) :: rest) σ ((f_X7_tear N p0 σ).bind k) :=
  r_callV (n := 1) [.int p0] ok_X7_tear hlink (in_lwG (by decide +kernel) rfl) (in_lwG (by decide +kernel) rfl) (by decide +kernel) rfl hroom (by decide) o0 rfl rfl hcat (R_X7_tear en N p0  σ) (Nat.le_of_ble_eq_true rfl) hd h
set_option maxHeartbeats 4000000 in
theorem RL_X7_test_54 (en : En) (N : Nat) {k : Int32 → Int32 → Int32 → Sg → Option (Int32 × Sg)}   (hk : ∀ (v5 : Int32) (v6 : Int32) (v7 : Int32) (σ : Sg), RR en ExT mi_X7_test evI 90 [(0, .ref (ad en 0 0 0)), (5, .int v5), (6, .int v6)] [] σ (k v5 v6 v7 σ)) : ∀ (n : Nat) (v5 : Int32) (v6 : Int32) (v7 : Int32) (σ : Sg), RR en ExT mi_X7_test evI 54 [(0, .ref (ad en 0 0 0)), (5, .int v5), (6, .int v6), (7, .int v7)] [] σ (L_X7_test_54 N k  n v5 v6 v7 σ) := by
  intro n
  induction n with
  | zero => intro v5 v6 v7 σ; exact r_none
  | succ n ih =>
    intro v5 v6 v7 σ
    rw [L_X7_test_54_s]
    refine r_iload (pc := 54) 3 dX7_test_54 rfl ?_
    refine r_bipush (pc := 56) dX7_test_56 kc_bipush_96 ?_
    refine r_icmp_ge (pc := 58) 90 dX7_test_58 (by decide) (fun h8 => ?_) (fun h8 => ?_)
    · exact r_sub [0, 1, 2] rfl (hk v5 v6 v7 σ)
    · refine r_aload_n (pc := 61) 0 dX7_test_61 rfl rfl ?_
      refine r_iload (pc := 62) 3 dX7_test_62 rfl ?_
      refine k_X7_greatestPart (pc := 64) lm_RX7_273  (by decide) (Nat.le_of_ble_eq_true rfl) dX7_test_64 (fun w5 h9 => ?_)
      refine r_istore (pc := 67) [(8, .int w5.1), (0, .ref (ad en 0 0 0)), (5, .int v5), (6, .int v6), (7, .int v7)] dX7_test_67 (by decide) rfl ?_
      refine r_iload (pc := 69) 0 dX7_test_69 rfl ?_
      refine r_iload (pc := 71) 2 dX7_test_71 rfl ?_
      refine r_icmp_ge (pc := 73) 84 dX7_test_73 (by decide) (fun h10 => ?_) (fun h10 => ?_)
      · refine r_iinc (pc := 84) 4 [(7, .int (v7 + (1 : Int32))), (8, .int w5.1), (0, .ref (ad en 0 0 0)), (5, .int v5), (6, .int v6)] dX7_test_84 rfl rfl (by decide) rfl ?_
        refine r_goto (pc := 87) 54 dX7_test_87 (by decide) ?_
        exact r_sub [2, 3, 4, 0] rfl (ih v5 v6 (v7 + (1 : Int32)) w5.2)
      · refine r_iload (pc := 76) 0 dX7_test_76 rfl ?_
        refine r_istore (pc := 78) [(5, .int w5.1), (8, .int w5.1), (0, .ref (ad en 0 0 0)), (6, .int v6), (7, .int v7)] dX7_test_78 (by decide) rfl ?_
        refine r_iload (pc := 80) 4 dX7_test_80 rfl ?_
        refine r_istore (pc := 82) [(6, .int v7), (5, .int w5.1), (8, .int w5.1), (0, .ref (ad en 0 0 0)), (7, .int v7)] dX7_test_82 (by decide) rfl ?_
        refine r_iinc (pc := 84) 4 [(7, .int (v7 + (1 : Int32))), (6, .int v7), (5, .int w5.1), (8, .int w5.1), (0, .ref (ad en 0 0 0))] dX7_test_84 rfl rfl (by decide) rfl ?_
        refine r_goto (pc := 87) 54 dX7_test_87 (by decide) ?_
        exact r_sub [4, 2, 1, 0] rfl (ih w5.1 v7 (v7 + (1 : Int32)) w5.2)
set_option maxHeartbeats 4000000 in
theorem R_X7_test (en : En) (N : Nat) (p0 : Int32) (p1 : Int32)  (σ : Sg) : RR en ExT mi_X7_test evI 0 [(0, .ref (ad en 0 0 0)), (1, .int p0), (2, .int p1)] [] σ (f_X7_test N p0 p1 σ) := by
  unfold f_X7_test
  refine r_aload_n (pc := 0) 0 dX7_test_0 rfl rfl ?_
  refine r_iload_n (pc := 1) 1 dX7_test_1 rfl rfl ?_
  refine r_iload_n (pc := 2) 2 dX7_test_2 rfl rfl ?_
  refine k_X7_refusalOfSights (pc := 3) lm_RX7_259  (by decide) (Nat.le_of_ble_eq_true rfl) dX7_test_3 (fun w1 h1 => ?_)
  refine r_istore_n (pc := 6) [(3, .int w1.1), (0, .ref (ad en 0 0 0)), (1, .int p0), (2, .int p1)] dX7_test_6 rfl (by decide) rfl ?_
  refine r_iload_n (pc := 7) 0 dX7_test_7 rfl rfl ?_
  refine r_if_eq (pc := 8) 13 dX7_test_8 (by decide) (fun h2 => ?_) (fun h2 => ?_)
  · refine r_aload_n (pc := 13) 1 dX7_test_13 rfl rfl ?_
    refine r_iload_n (pc := 14) 2 dX7_test_14 rfl rfl ?_
    refine r_aload_n (pc := 15) 1 dX7_test_15 rfl rfl ?_
    refine g_X7_rows (pc := 16)  lf_RX7_11 dX7_test_16 ?_
    refine r_iload_n (pc := 19) 3 dX7_test_19 rfl rfl ?_
    refine r_aald (pc := 20) (n := 6) (k := 3) o1 rfl rfl rfl dX7_test_20 (fun h3 => ?_)
    refine k_X7_possibleKinds (pc := 21) lm_RX7_262  (by decide) (Nat.le_of_ble_eq_true rfl) dX7_test_21 (ib_lt h3) (fun w2 h4 => ?_)
    refine r_istore (pc := 24) [(4, .int w2.1), (3, .int w1.1), (0, .ref (ad en 0 0 0)), (1, .int p0), (2, .int p1)] dX7_test_24 (by decide) rfl ?_
    refine r_iload (pc := 26) 0 dX7_test_26 rfl ?_
    refine r_if_ne (pc := 28) 34 dX7_test_28 (by decide) (fun h5 => ?_) (fun h5 => ?_)
    · refine r_bipush (pc := 31) dX7_test_31 kc_bipush_m9 ?_
      exact r_iret (pc := 33) rfl dX7_test_33
    · refine r_aload_n (pc := 34) 2 dX7_test_34 rfl rfl ?_
      refine r_iload_n (pc := 35) 3 dX7_test_35 rfl rfl ?_
      refine r_iload (pc := 36) 0 dX7_test_36 rfl ?_
      refine k_X7_sortIntoParts (pc := 38) lm_RX7_270  (by decide) (Nat.le_of_ble_eq_true rfl) dX7_test_38 (fun w3 h6 => ?_)
      refine r_aload_n (pc := 41) 2 dX7_test_41 rfl rfl ?_
      refine r_iconst (pc := 42) dX7_test_42 kc_iconst_0 ?_
      refine k_X7_greatestPart (pc := 43) lm_RX7_273  (by decide) (Nat.le_of_ble_eq_true rfl) dX7_test_43 (fun w4 h7 => ?_)
      refine r_istore (pc := 46) [(5, .int w4.1), (4, .int w2.1), (3, .int w1.1), (0, .ref (ad en 0 0 0)), (1, .int p0), (2, .int p1)] dX7_test_46 (by decide) rfl ?_
      refine r_iconst (pc := 48) dX7_test_48 kc_iconst_0 ?_
      refine r_istore (pc := 49) [(6, .int (0 : Int32)), (5, .int w4.1), (4, .int w2.1), (3, .int w1.1), (0, .ref (ad en 0 0 0)), (1, .int p0), (2, .int p1)] dX7_test_49 (by decide) rfl ?_
      refine r_iconst (pc := 51) dX7_test_51 kc_iconst_1 ?_
      refine r_istore (pc := 52) [(7, .int (1 : Int32)), (6, .int (0 : Int32)), (5, .int w4.1), (4, .int w2.1), (3, .int w1.1), (0, .ref (ad en 0 0 0)), (1, .int p0), (2, .int p1)] dX7_test_52 (by decide) rfl ?_
      refine r_sub [5, 2, 1, 0] rfl (RL_X7_test_54 en N   (fun v5_6 v6_6 v7_6 σ_6 => ?_) N w4.1 (0 : Int32) (1 : Int32) w4.2)
      refine r_aload_n (pc := 90) 0 dX7_test_90 rfl rfl ?_
      refine r_iload (pc := 91) 1 dX7_test_91 rfl ?_
      refine p_X7_told (pc := 93)  lf_RX7_73 dX7_test_93 ?_
      refine r_iload (pc := 96) 2 dX7_test_96 rfl ?_
      exact r_iret (pc := 98) rfl dX7_test_98
  · refine r_iload_n (pc := 11) 0 dX7_test_11 rfl rfl ?_
    exact r_iret (pc := 12) rfl dX7_test_12
theorem ok_X7_test : yOk yX7_test cX7_test 9 (some .int) := ⟨in_lwG (by decide +kernel) rfl, in_lwG (by decide +kernel) rfl, by decide, by decide, by decide⟩
theorem k_X7_test {en : En} {Ex : (Nat → Prop) → State → Prop} {mi : Mi} {α : Type} {ev : α → Option Value × Sg} {pc index : Nat} {lv : List (Nat × Value)} {rest : List Value} {σ : Sg} {N : Nat} {k : (Int32 × Sg) → Option α} {p0 : Int32} {p1 : Int32} (hlink : Cond.methodLink mi.1 index yX7_test ∈ lwG) (hroom : 5 + 1 ≤ mi.2.2.2.2) (hcat : (rest.map fun v => v.category).sum ≤ 8) (hd : decode mi.2.1 pc = .ok (.invokevirtual index, 3))  (h : ∀ w : Int32 × Sg, f_X7_test N p0 p1 σ = some w → RR en Ex mi ev (pc + 3) lv (.int w.1 :: rest) w.2 (k w)) : RR en Ex mi ev pc lv (.int p1 :: .int p0 :: .ref (ad en 0 0 0) :: rest) σ ((f_X7_test N p0 p1 σ).bind k) :=
  r_callV (n := 2) [.int p0, .int p1] ok_X7_test hlink (in_lwG (by decide +kernel) rfl) (in_lwG (by decide +kernel) rfl) (by decide +kernel) rfl hroom (by decide) o0 rfl rfl hcat (R_X7_test en N p0 p1  σ) (Nat.le_of_ble_eq_true rfl) hd h
set_option maxHeartbeats 4000000 in
theorem R_X7_text (en : En) (N : Nat) (p0 : Int32) (p1 : Int32)  (σ : Sg) : RR en ExT mi_X7_text evI 0 [(0, .ref (ad en 0 0 0)), (1, .int p0), (2, .int p1)] [] σ (f_X7_text N p0 p1 σ) := by
  unfold f_X7_text
  refine r_iload_n (pc := 0) 1 dX7_text_0 rfl rfl ?_
  refine k_X7_isText (pc := 1) lm_RX7_122  (by decide) (Nat.le_of_ble_eq_true rfl) dX7_text_1 (fun w1 h1 => ?_)
  refine r_if_eq (pc := 4) 13 dX7_text_4 (by decide) (fun h2 => ?_) (fun h2 => ?_)
  · refine r_iconst (pc := 13) dX7_text_13 kc_iconst_m1 ?_
    exact r_iret (pc := 14) rfl dX7_text_14
  · refine r_iload_n (pc := 7) 2 dX7_text_7 rfl rfl ?_
    refine r_bipush (pc := 8) dX7_text_8 kc_bipush_60 ?_
    refine r_icmp_le (pc := 10) 15 dX7_text_10 (by decide) (fun h3 => ?_) (fun h3 => ?_)
    · refine r_iload_n (pc := 15) 2 dX7_text_15 rfl rfl ?_
      refine r_if_ge (pc := 16) 25 dX7_text_16 (by decide) (fun h4 => ?_) (fun h4 => ?_)
      · refine r_aload_n (pc := 25) 0 dX7_text_25 rfl rfl ?_
        refine g_X7_texts (pc := 26)  lf_RX7_17 dX7_text_26 ?_
        refine r_iload_n (pc := 29) 1 dX7_text_29 rfl rfl ?_
        refine r_aald (pc := 30) (n := 4) (k := 4) o4 rfl rfl rfl dX7_text_30 (fun h5 => ?_)
        refine r_iload_n (pc := 31) 2 dX7_text_31 rfl rfl ?_
        refine k_X5_renew (pc := 32) lm_RX7_125  (by decide) (Nat.le_of_ble_eq_true rfl) dX7_text_32 (ib_lt h5) (fun w2 h6 => ?_)
        refine r_iload_n (pc := 35) 2 dX7_text_35 rfl rfl ?_
        exact r_iret (pc := 36) rfl dX7_text_36
      · refine r_aload_n (pc := 19) 0 dX7_text_19 rfl rfl ?_
        refine r_iconst (pc := 20) dX7_text_20 kc_iconst_5 ?_
        refine k_X7_found (pc := 21) lm_RX7_92  (by decide) (Nat.le_of_ble_eq_true rfl) dX7_text_21 (fun w3 h7 => ?_)
        exact r_iret (pc := 24) rfl dX7_text_24
    · refine r_iconst (pc := 13) dX7_text_13 kc_iconst_m1 ?_
      exact r_iret (pc := 14) rfl dX7_text_14
theorem ok_X7_text : yOk yX7_text cX7_text 3 (some .int) := ⟨in_lwG (by decide +kernel) rfl, in_lwG (by decide +kernel) rfl, by decide, by decide, by decide⟩
theorem k_X7_text {en : En} {Ex : (Nat → Prop) → State → Prop} {mi : Mi} {α : Type} {ev : α → Option Value × Sg} {pc index : Nat} {lv : List (Nat × Value)} {rest : List Value} {σ : Sg} {N : Nat} {k : (Int32 × Sg) → Option α} {p0 : Int32} {p1 : Int32} (hlink : Cond.methodLink mi.1 index yX7_text ∈ lwG) (hroom : 3 + 1 ≤ mi.2.2.2.2) (hcat : (rest.map fun v => v.category).sum ≤ 8) (hd : decode mi.2.1 pc = .ok (.invokevirtual index, 3))  (h : ∀ w : Int32 × Sg, f_X7_text N p0 p1 σ = some w → RR en Ex mi ev (pc + 3) lv (.int w.1 :: rest) w.2 (k w)) : RR en Ex mi ev pc lv (.int p1 :: .int p0 :: .ref (ad en 0 0 0) :: rest) σ ((f_X7_text N p0 p1 σ).bind k) :=
  r_callV (n := 2) [.int p0, .int p1] ok_X7_text hlink (in_lwG (by decide +kernel) rfl) (in_lwG (by decide +kernel) rfl) (by decide +kernel) rfl hroom (by decide) o0 rfl rfl hcat (R_X7_text en N p0 p1  σ) (Nat.le_of_ble_eq_true rfl) hd h
set_option maxHeartbeats 4000000 in
theorem RL_X7_undo_29 (en : En) (N : Nat) {k : Int32 → Sg → Option (Int32 × Sg)} (a2 : Int32)  (hk : ∀ (v3 : Int32) (σ : Sg), RR en ExT mi_X7_undo evI 51 [(2, .int a2)] [] σ (k v3 σ)) : ∀ (n : Nat) (v3 : Int32) (σ : Sg), RR en ExT mi_X7_undo evI 29 [(0, .ref (ad en 0 0 0)), (2, .int a2), (3, .int v3)] [] σ (L_X7_undo_29 N k a2 n v3 σ) := by
  intro n
  induction n with
  | zero => intro v3 σ; exact r_none
  | succ n ih =>
    intro v3 σ
    rw [L_X7_undo_29_s]
    refine r_iload_n (pc := 29) 2 dX7_undo_29 rfl rfl ?_
    refine r_iload_n (pc := 30) 1 dX7_undo_30 rfl rfl ?_
    refine r_icmp_ge (pc := 31) 51 dX7_undo_31 (by decide) (fun h3 => ?_) (fun h3 => ?_)
    · exact r_sub [1] rfl (hk v3 σ)
    · refine r_aload_n (pc := 34) 0 dX7_undo_34 rfl rfl ?_
      refine g_X7_deeds (pc := 35)  lf_RX7_31 dX7_undo_35 ?_
      refine r_aload_n (pc := 38) 0 dX7_undo_38 rfl rfl ?_
      refine g_X7_screen (pc := 39)  lf_RX7_24 dX7_undo_39 ?_
      refine k_X1_takeBackLast (pc := 42) lm_RX7_213  (by decide) (Nat.le_of_ble_eq_true rfl) dX7_undo_42 (by decide) (by decide) (fun w1 h4 => ?_)
      refine r_iinc (pc := 45) 2 [(3, .int (v3 + (1 : Int32))), (0, .ref (ad en 0 0 0)), (2, .int a2)] dX7_undo_45 rfl rfl (by decide) rfl ?_
      refine r_goto (pc := 48) 29 dX7_undo_48 (by decide) ?_
      exact r_sub [1, 2, 0] rfl (ih (v3 + (1 : Int32)) w1)
set_option maxHeartbeats 4000000 in
theorem R_X7_undo (en : En) (N : Nat) (p0 : Int32)  (σ : Sg) : RR en ExT mi_X7_undo evI 0 [(0, .ref (ad en 0 0 0)), (1, .int p0)] [] σ (f_X7_undo N p0 σ) := by
  unfold f_X7_undo
  refine r_iload_n (pc := 0) 1 dX7_undo_0 rfl rfl ?_
  refine r_if_lt (pc := 1) 15 dX7_undo_1 (by decide) (fun h1 => ?_) (fun h1 => ?_)
  · refine r_iconst (pc := 15) dX7_undo_15 kc_iconst_m1 ?_
    exact r_iret (pc := 16) rfl dX7_undo_16
  · refine r_iload_n (pc := 4) 1 dX7_undo_4 rfl rfl ?_
    refine r_aload_n (pc := 5) 0 dX7_undo_5 rfl rfl ?_
    refine g_X7_deeds (pc := 6)  lf_RX7_31 dX7_undo_6 ?_
    refine g_X1_size (pc := 9) (by decide) lf_RX7_85 dX7_undo_9 ?_
    refine r_icmp_le (pc := 12) 17 dX7_undo_12 (by decide) (fun h2 => ?_) (fun h2 => ?_)
    · refine r_aload_n (pc := 17) 0 dX7_undo_17 rfl rfl ?_
      refine g_X7_deeds (pc := 18)  lf_RX7_31 dX7_undo_18 ?_
      refine g_X1_size (pc := 21) (by decide) lf_RX7_85 dX7_undo_21 ?_
      refine r_iload_n (pc := 24) 1 dX7_undo_24 rfl rfl ?_
      refine r_isub (pc := 25) dX7_undo_25 ?_
      refine r_istore_n (pc := 26) [(2, .int ((rI σ 10 0 0 4) - p0)), (0, .ref (ad en 0 0 0)), (1, .int p0)] dX7_undo_26 rfl (by decide) rfl ?_
      refine r_iconst (pc := 27) dX7_undo_27 kc_iconst_0 ?_
      refine r_istore_n (pc := 28) [(3, .int (0 : Int32)), (2, .int ((rI σ 10 0 0 4) - p0)), (0, .ref (ad en 0 0 0)), (1, .int p0)] dX7_undo_28 rfl (by decide) rfl ?_
      refine r_sub [2, 1, 0] rfl (RL_X7_undo_29 en N ((rI σ 10 0 0 4) - p0)  (fun v3_2 σ_2 => ?_) N (0 : Int32) σ)
      refine r_iload_n (pc := 51) 0 dX7_undo_51 rfl rfl ?_
      exact r_iret (pc := 52) rfl dX7_undo_52
    · refine r_iconst (pc := 15) dX7_undo_15 kc_iconst_m1 ?_
      exact r_iret (pc := 16) rfl dX7_undo_16
theorem ok_X7_undo : yOk yX7_undo cX7_undo 4 (some .int) := ⟨in_lwG (by decide +kernel) rfl, in_lwG (by decide +kernel) rfl, by decide, by decide, by decide⟩
theorem k_X7_undo {en : En} {Ex : (Nat → Prop) → State → Prop} {mi : Mi} {α : Type} {ev : α → Option Value × Sg} {pc index : Nat} {lv : List (Nat × Value)} {rest : List Value} {σ : Sg} {N : Nat} {k : (Int32 × Sg) → Option α} {p0 : Int32} (hlink : Cond.methodLink mi.1 index yX7_undo ∈ lwG) (hroom : 5 + 1 ≤ mi.2.2.2.2) (hcat : (rest.map fun v => v.category).sum ≤ 8) (hd : decode mi.2.1 pc = .ok (.invokevirtual index, 3))  (h : ∀ w : Int32 × Sg, f_X7_undo N p0 σ = some w → RR en Ex mi ev (pc + 3) lv (.int w.1 :: rest) w.2 (k w)) : RR en Ex mi ev pc lv (.int p0 :: .ref (ad en 0 0 0) :: rest) σ ((f_X7_undo N p0 σ).bind k) :=
  r_callV (n := 1) [.int p0] ok_X7_undo hlink (in_lwG (by decide +kernel) rfl) (in_lwG (by decide +kernel) rfl) (by decide +kernel) rfl hroom (by decide) o0 rfl rfl hcat (R_X7_undo en N p0  σ) (Nat.le_of_ble_eq_true rfl) hd h
set_option maxHeartbeats 4000000 in
theorem R_X7_upper (en : En) (N : Nat)  (σ : Sg) : RR en ExT mi_X7_upper evL 0 [(0, .ref (ad en 0 0 0))] [] σ (f_X7_upper N σ) := by
  unfold f_X7_upper
  refine r_aload_n (pc := 0) 0 dX7_upper_0 rfl rfl ?_
  refine g_X7_upperNumber (pc := 1)  lf_RX7_76 dX7_upper_1 ?_
  exact r_lret (pc := 4) rfl dX7_upper_4
theorem ok_X7_upper : yOk yX7_upper cX7_upper 1 (some .long) := ⟨in_lwG (by decide +kernel) rfl, in_lwG (by decide +kernel) rfl, by decide, by decide, by decide⟩
theorem k_X7_upper {en : En} {Ex : (Nat → Prop) → State → Prop} {mi : Mi} {α : Type} {ev : α → Option Value × Sg} {pc index : Nat} {lv : List (Nat × Value)} {rest : List Value} {σ : Sg} {N : Nat} {k : (Int64 × Sg) → Option α}  (hlink : Cond.methodLink mi.1 index yX7_upper ∈ lwG) (hroom : 1 + 1 ≤ mi.2.2.2.2) (hcat : (rest.map fun v => v.category).sum ≤ 8) (hd : decode mi.2.1 pc = .ok (.invokevirtual index, 3))  (h : ∀ w : Int64 × Sg, f_X7_upper N  σ = some w → RR en Ex mi ev (pc + 3) lv (.long w.1 :: rest) w.2 (k w)) : RR en Ex mi ev pc lv (.ref (ad en 0 0 0) :: rest) σ ((f_X7_upper N  σ).bind k) :=
  r_callV (n := 0) [] ok_X7_upper hlink (in_lwG (by decide +kernel) rfl) (in_lwG (by decide +kernel) rfl) (by decide +kernel) rfl hroom (by decide) o0 rfl rfl hcat (R_X7_upper en N   σ) (Nat.le_of_ble_eq_true rfl) hd h
