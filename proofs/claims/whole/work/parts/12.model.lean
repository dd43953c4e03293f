set_option maxHeartbeats 4000000 in
theorem R_X8_in (en : En) (N : Nat) (p0 : Int32) (p1 : Int32) (p2 : Int32)  (σ : Sg) : RR en ExT mi_X8_in evI 0 [(0, .int p0), (1, .int p1), (2, .int p2)] [] σ (f_X8_in N p0 p1 p2 σ) := by
  unfold f_X8_in
  refine r_iload_n (pc := 0) 0 dX8_in_0 rfl rfl ?_
  refine r_iload_n (pc := 1) 1 dX8_in_1 rfl rfl ?_
  refine r_icmp_lt (pc := 2) 14 dX8_in_2 (by decide) (fun h1 => ?_) (fun h1 => ?_)
  · refine r_iconst (pc := 14) dX8_in_14 kc_iconst_0 ?_
    exact r_zret (pc := 15) rfl rfl dX8_in_15
  · refine r_iload_n (pc := 5) 0 dX8_in_5 rfl rfl ?_
    refine r_iload_n (pc := 6) 2 dX8_in_6 rfl rfl ?_
    refine r_icmp_gt (pc := 7) 14 dX8_in_7 (by decide) (fun h2 => ?_) (fun h2 => ?_)
    · refine r_iconst (pc := 14) dX8_in_14 kc_iconst_0 ?_
      exact r_zret (pc := 15) rfl rfl dX8_in_15
    · refine r_iconst (pc := 10) dX8_in_10 kc_iconst_1 ?_
      refine r_goto (pc := 11) 15 dX8_in_11 (by decide) ?_
      exact r_zret (pc := 15) rfl rfl dX8_in_15
theorem ok_X8_in : yOk yX8_in cX8_in 3 (some .boolean) := ⟨in_lwG (by decide +kernel) rfl, in_lwG (by decide +kernel) rfl, by decide, by decide, by decide⟩
theorem k_X8_in {en : En} {Ex : (Nat → Prop) → State → Prop} {mi : Mi} {α : Type} {ev : α → Option Value × Sg} {pc index : Nat} {lv : List (Nat × Value)} {rest : List Value} {σ : Sg} {N : Nat} {k : (Int32 × Sg) → Option α} {p0 : Int32} {p1 : Int32} {p2 : Int32} (hlink : Cond.methodLink mi.1 index yX8_in ∈ lwG) (hroom : 1 + 1 ≤ mi.2.2.2.2) (hcat : (rest.map fun v => v.category).sum ≤ 8) (hd : decode mi.2.1 pc = .ok (.invokestatic index, 3))  (h : ∀ w : Int32 × Sg, f_X8_in N p0 p1 p2 σ = some w → RR en Ex mi ev (pc + 3) lv (.int w.1 :: rest) w.2 (k w)) : RR en Ex mi ev pc lv (.int p2 :: .int p1 :: .int p0 :: rest) σ ((f_X8_in N p0 p1 p2 σ).bind k) :=
  r_callS (n := 3) [.int p0, .int p1, .int p2] ok_X8_in hlink (in_lwG (by decide +kernel) rfl) (by decide +kernel) rfl hroom (by decide) hcat (R_X8_in en N p0 p1 p2  σ) (Nat.le_of_ble_eq_true rfl) hd h
theorem z_X8_in {N : Nat} {p0 : Int32} {p1 : Int32} {p2 : Int32} {σ : Sg} {w : Int32 × Sg} (h : f_X8_in N p0 p1 p2 σ = some w) : narrow .boolean (.int w.1) = .int w.1 := by
  unfold f_X8_in at h
  repeat' (split at h)
  all_goals (cases h; first | exact (rfl : narrow .boolean (.int (0 : Int32)) = .int 0) | exact (rfl : narrow .boolean (.int (1 : Int32)) = .int 1))
set_option maxHeartbeats 4000000 in
theorem R_X8_isRow (en : En) (N : Nat) (p0 : Int32)  (σ : Sg) : RR en ExT mi_X8_isRow evI 0 [(0, .int p0)] [] σ (f_X8_isRow N p0 σ) := by
  unfold f_X8_isRow
  refine r_iload_n (pc := 0) 0 dX8_isRow_0 rfl rfl ?_
  refine r_iconst (pc := 1) dX8_isRow_1 kc_iconst_0 ?_
  refine r_iconst (pc := 2) dX8_isRow_2 kc_iconst_5 ?_
  refine k_X8_in (pc := 3) lm_RX8_91  (by decide) (Nat.le_of_ble_eq_true rfl) dX8_isRow_3 (fun w1 h1 => ?_)
  exact r_zret (pc := 6) rfl (z_X8_in h1) dX8_isRow_6
theorem ok_X8_isRow : yOk yX8_isRow cX8_isRow 1 (some .boolean) := ⟨in_lwG (by decide +kernel) rfl, in_lwG (by decide +kernel) rfl, by decide, by decide, by decide⟩
theorem k_X8_isRow {en : En} {Ex : (Nat → Prop) → State → Prop} {mi : Mi} {α : Type} {ev : α → Option Value × Sg} {pc index : Nat} {lv : List (Nat × Value)} {rest : List Value} {σ : Sg} {N : Nat} {k : (Int32 × Sg) → Option α} {p0 : Int32} (hlink : Cond.methodLink mi.1 index yX8_isRow ∈ lwG) (hroom : 2 + 1 ≤ mi.2.2.2.2) (hcat : (rest.map fun v => v.category).sum ≤ 8) (hd : decode mi.2.1 pc = .ok (.invokestatic index, 3))  (h : ∀ w : Int32 × Sg, f_X8_isRow N p0 σ = some w → RR en Ex mi ev (pc + 3) lv (.int w.1 :: rest) w.2 (k w)) : RR en Ex mi ev pc lv (.int p0 :: rest) σ ((f_X8_isRow N p0 σ).bind k) :=
  r_callS (n := 1) [.int p0] ok_X8_isRow hlink (in_lwG (by decide +kernel) rfl) (by decide +kernel) rfl hroom (by decide) hcat (R_X8_isRow en N p0  σ) (Nat.le_of_ble_eq_true rfl) hd h
set_option maxHeartbeats 4000000 in
theorem R_X8_found (en : En) (N : Nat) (p0 : Int32)  (σ : Sg) : RR en ExT mi_X8_found evI 0 [(0, .ref (ad en 21 0 0)), (1, .int p0)] [] σ (f_X8_found N p0 σ) := by
  unfold f_X8_found
  refine r_aload_n (pc := 0) 0 dX8_found_0 rfl rfl ?_
  refine r_iload_n (pc := 1) 1 dX8_found_1 rfl rfl ?_
  refine p_X8_findingLast (pc := 2)  lf_RX8_85 dX8_found_2 ?_
  refine r_aload_n (pc := 5) 0 dX8_found_5 rfl rfl ?_
  refine g_X8_findingMany (pc := 6)  lf_RX8_7 dX8_found_6 ?_
  refine r_iload_n (pc := 9) 1 dX8_found_9 rfl rfl ?_
  refine r_dup2 (pc := 10) dX8_found_10 rfl rfl ?_
  refine r_iald (pc := 11) (n := 6) o22_5 rfl dX8_found_11 (fun h1 => ?_)
  refine r_iconst (pc := 12) dX8_found_12 kc_iconst_1 ?_
  refine r_iadd (pc := 13) dX8_found_13 ?_
  refine r_iast (pc := 14) (n := 6) o22_5 rfl rfl dX8_found_14 (fun h2 => ?_)
  refine r_bipush (pc := 15) dX8_found_15 kc_bipush_m3 ?_
  exact r_iret (pc := 17) rfl dX8_found_17
theorem ok_X8_found : yOk yX8_found cX8_found 2 (some .int) := ⟨in_lwG (by decide +kernel) rfl, in_lwG (by decide +kernel) rfl, by decide, by decide, by decide⟩
theorem k_X8_found {en : En} {Ex : (Nat → Prop) → State → Prop} {mi : Mi} {α : Type} {ev : α → Option Value × Sg} {pc index : Nat} {lv : List (Nat × Value)} {rest : List Value} {σ : Sg} {N : Nat} {k : (Int32 × Sg) → Option α} {p0 : Int32} (hlink : Cond.methodLink mi.1 index yX8_found ∈ lwG) (hroom : 1 + 1 ≤ mi.2.2.2.2) (hcat : (rest.map fun v => v.category).sum ≤ 8) (hd : decode mi.2.1 pc = .ok (.invokevirtual index, 3))  (h : ∀ w : Int32 × Sg, f_X8_found N p0 σ = some w → RR en Ex mi ev (pc + 3) lv (.int w.1 :: rest) w.2 (k w)) : RR en Ex mi ev pc lv (.int p0 :: .ref (ad en 21 0 0) :: rest) σ ((f_X8_found N p0 σ).bind k) :=
  r_callV (n := 1) [.int p0] ok_X8_found hlink (in_lwG (by decide +kernel) rfl) (in_lwG (by decide +kernel) rfl) (by decide +kernel) rfl hroom (by decide) o21 rfl rfl hcat (R_X8_found en N p0  σ) (Nat.le_of_ble_eq_true rfl) hd h
set_option maxHeartbeats 4000000 in
theorem R_X8_against (en : En) (N : Nat) (p0 : Int32) (p1 : Int32)  (σ : Sg) : RR en ExT mi_X8_against evI 0 [(0, .ref (ad en 21 0 0)), (1, .int p0), (2, .int p1)] [] σ (f_X8_against N p0 p1 σ) := by
  unfold f_X8_against
  refine r_iload_n (pc := 0) 1 dX8_against_0 rfl rfl ?_
  refine k_X8_isRow (pc := 1) lm_RX8_95  (by decide) (Nat.le_of_ble_eq_true rfl) dX8_against_1 (fun w1 h1 => ?_)
  refine r_if_ne (pc := 4) 11 dX8_against_4 (by decide) (fun h2 => ?_) (fun h2 => ?_)
  · refine r_iconst (pc := 7) dX8_against_7 kc_iconst_m1 ?_
    refine r_goto (pc := 8) 53 dX8_against_8 (by decide) ?_
    exact r_iret (pc := 53) rfl dX8_against_53
  · refine r_aload_n (pc := 11) 0 dX8_against_11 rfl rfl ?_
    refine g_X8_rowSize (pc := 12)  lf_RX8_16 dX8_against_12 ?_
    refine r_iload_n (pc := 15) 1 dX8_against_15 rfl rfl ?_
    refine r_iald (pc := 16) (n := 6) o22_7 rfl dX8_against_16 (fun h3 => ?_)
    refine r_if_ge (pc := 17) 28 dX8_against_17 (by decide) (fun h4 => ?_) (fun h4 => ?_)
    · refine r_iload_n (pc := 28) 2 dX8_against_28 rfl rfl ?_
      refine r_iconst (pc := 29) dX8_against_29 kc_iconst_0 ?_
      refine r_aload_n (pc := 30) 0 dX8_against_30 rfl rfl ?_
      refine g_X8_rowSize (pc := 31)  lf_RX8_16 dX8_against_31 ?_
      refine r_iload_n (pc := 34) 1 dX8_against_34 rfl rfl ?_
      refine r_iald (pc := 35) (n := 6) o22_7 rfl dX8_against_35 (fun h5 => ?_)
      refine r_iconst (pc := 36) dX8_against_36 kc_iconst_1 ?_
      refine r_isub (pc := 37) dX8_against_37 ?_
      refine k_X8_in (pc := 38) lm_RX8_91  (by decide) (Nat.le_of_ble_eq_true rfl) dX8_against_38 (fun w2 h6 => ?_)
      refine r_if_ne (pc := 41) 52 dX8_against_41 (by decide) (fun h7 => ?_) (fun h7 => ?_)
      · refine r_aload_n (pc := 44) 0 dX8_against_44 rfl rfl ?_
        refine r_iconst (pc := 45) dX8_against_45 kc_iconst_2 ?_
        refine k_X8_found (pc := 46) lm_RX8_99  (by decide) (Nat.le_of_ble_eq_true rfl) dX8_against_46 (fun w3 h8 => ?_)
        refine r_goto (pc := 49) 53 dX8_against_49 (by decide) ?_
        exact r_iret (pc := 53) rfl dX8_against_53
      · refine r_iconst (pc := 52) dX8_against_52 kc_iconst_0 ?_
        exact r_iret (pc := 53) rfl dX8_against_53
    · refine r_aload_n (pc := 20) 0 dX8_against_20 rfl rfl ?_
      refine r_iconst (pc := 21) dX8_against_21 kc_iconst_1 ?_
      refine k_X8_found (pc := 22) lm_RX8_99  (by decide) (Nat.le_of_ble_eq_true rfl) dX8_against_22 (fun w4 h9 => ?_)
      refine r_goto (pc := 25) 53 dX8_against_25 (by decide) ?_
      exact r_iret (pc := 53) rfl dX8_against_53
theorem ok_X8_against : yOk yX8_against cX8_against 3 (some .int) := ⟨in_lwG (by decide +kernel) rfl, in_lwG (by decide +kernel) rfl, by decide, by decide, by decide⟩
theorem k_X8_against {en : En} {Ex : (Nat → Prop) → State → Prop} {mi : Mi} {α : Type} {ev : α → Option Value × Sg} {pc index : Nat} {lv : List (Nat × Value)} {rest : List Value} {σ : Sg} {N : Nat} {k : (Int32 × Sg) → Option α} {p0 : Int32} {p1 : Int32} (hlink : Cond.methodLink mi.1 index yX8_against ∈ lwG) (hroom : 3 + 1 ≤ mi.2.2.2.2) (hcat : (rest.map fun v => v.category).sum ≤ 8) (hd : decode mi.2.1 pc = .ok (.invokevirtual index, 3))  (h : ∀ w : Int32 × Sg, f_X8_against N p0 p1 σ = some w → RR en Ex mi ev (pc + 3) lv (.int w.1 :: rest) w.2 (k w)) : RR en Ex mi ev pc lv (.int p1 :: .int p0 :: .ref (ad en 21 0 0) :: rest) σ ((f_X8_against N p0 p1 σ).bind k) :=
  r_callV (n := 2) [.int p0, .int p1] ok_X8_against hlink (in_lwG (by decide +kernel) rfl) (in_lwG (by decide +kernel) rfl) (by decide +kernel) rfl hroom (by decide) o21 rfl rfl hcat (R_X8_against en N p0 p1  σ) (Nat.le_of_ble_eq_true rfl) hd h
set_option maxHeartbeats 4000000 in
theorem R_X8_isPane (en : En) (N : Nat) (p0 : Int32)  (σ : Sg) : RR en ExT mi_X8_isPane evI 0 [(0, .ref (ad en 21 0 0)), (1, .int p0)] [] σ (f_X8_isPane N p0 σ) := by
  unfold f_X8_isPane
  refine r_iload_n (pc := 0) 1 dX8_isPane_0 rfl rfl ?_
  refine r_iconst (pc := 1) dX8_isPane_1 kc_iconst_0 ?_
  refine r_aload_n (pc := 2) 0 dX8_isPane_2 rfl rfl ?_
  refine g_X8_panes (pc := 3)  lf_RX8_143 dX8_isPane_3 ?_
  refine r_iconst (pc := 6) dX8_isPane_6 kc_iconst_1 ?_
  refine r_isub (pc := 7) dX8_isPane_7 ?_
  refine k_X8_in (pc := 8) lm_RX8_91  (by decide) (Nat.le_of_ble_eq_true rfl) dX8_isPane_8 (fun w1 h1 => ?_)
  exact r_zret (pc := 11) rfl (z_X8_in h1) dX8_isPane_11
theorem ok_X8_isPane : yOk yX8_isPane cX8_isPane 2 (some .boolean) := ⟨in_lwG (by decide +kernel) rfl, in_lwG (by decide +kernel) rfl, by decide, by decide, by decide⟩
theorem k_X8_isPane {en : En} {Ex : (Nat → Prop) → State → Prop} {mi : Mi} {α : Type} {ev : α → Option Value × Sg} {pc index : Nat} {lv : List (Nat × Value)} {rest : List Value} {σ : Sg} {N : Nat} {k : (Int32 × Sg) → Option α} {p0 : Int32} (hlink : Cond.methodLink mi.1 index yX8_isPane ∈ lwG) (hroom : 2 + 1 ≤ mi.2.2.2.2) (hcat : (rest.map fun v => v.category).sum ≤ 8) (hd : decode mi.2.1 pc = .ok (.invokevirtual index, 3))  (h : ∀ w : Int32 × Sg, f_X8_isPane N p0 σ = some w → RR en Ex mi ev (pc + 3) lv (.int w.1 :: rest) w.2 (k w)) : RR en Ex mi ev pc lv (.int p0 :: .ref (ad en 21 0 0) :: rest) σ ((f_X8_isPane N p0 σ).bind k) :=
  r_callV (n := 1) [.int p0] ok_X8_isPane hlink (in_lwG (by decide +kernel) rfl) (in_lwG (by decide +kernel) rfl) (by decide +kernel) rfl hroom (by decide) o21 rfl rfl hcat (R_X8_isPane en N p0  σ) (Nat.le_of_ble_eq_true rfl) hd h
set_option maxHeartbeats 4000000 in
theorem R_X8_has (en : En) (N : Nat) (p0 : Int32) (p1 : Int32)  (σ : Sg) : RR en ExT mi_X8_has evI 0 [(0, .int p0), (1, .int p1)] [] σ (f_X8_has N p0 p1 σ) := by
  unfold f_X8_has
  refine r_iload_n (pc := 0) 0 dX8_has_0 rfl rfl ?_
  refine r_iload_n (pc := 1) 1 dX8_has_1 rfl rfl ?_
  refine r_ishr (pc := 2) dX8_has_2 ?_
  refine r_iconst (pc := 3) dX8_has_3 kc_iconst_1 ?_
  refine r_iand (pc := 4) dX8_has_4 ?_
  refine r_iconst (pc := 5) dX8_has_5 kc_iconst_1 ?_
  refine r_icmp_ne (pc := 6) 13 dX8_has_6 (by decide) (fun h1 => ?_) (fun h1 => ?_)
  · refine r_iconst (pc := 9) dX8_has_9 kc_iconst_1 ?_
    refine r_goto (pc := 10) 14 dX8_has_10 (by decide) ?_
    exact r_zret (pc := 14) rfl rfl dX8_has_14
  · refine r_iconst (pc := 13) dX8_has_13 kc_iconst_0 ?_
    exact r_zret (pc := 14) rfl rfl dX8_has_14
theorem ok_X8_has : yOk yX8_has cX8_has 2 (some .boolean) := ⟨in_lwG (by decide +kernel) rfl, in_lwG (by decide +kernel) rfl, by decide, by decide, by decide⟩
theorem k_X8_has {en : En} {Ex : (Nat → Prop) → State → Prop} {mi : Mi} {α : Type} {ev : α → Option Value × Sg} {pc index : Nat} {lv : List (Nat × Value)} {rest : List Value} {σ : Sg} {N : Nat} {k : (Int32 × Sg) → Option α} {p0 : Int32} {p1 : Int32} (hlink : Cond.methodLink mi.1 index yX8_has ∈ lwG) (hroom : 1 + 1 ≤ mi.2.2.2.2) (hcat : (rest.map fun v => v.category).sum ≤ 8) (hd : decode mi.2.1 pc = .ok (.invokestatic index, 3))  (h : ∀ w : Int32 × Sg, f_X8_has N p0 p1 σ = some w → RR en Ex mi ev (pc + 3) lv (.int w.1 :: rest) w.2 (k w)) : RR en Ex mi ev pc lv (.int p1 :: .int p0 :: rest) σ ((f_X8_has N p0 p1 σ).bind k) :=
  r_callS (n := 2) [.int p0, .int p1] ok_X8_has hlink (in_lwG (by decide +kernel) rfl) (by decide +kernel) rfl hroom (by decide) hcat (R_X8_has en N p0 p1  σ) (Nat.le_of_ble_eq_true rfl) hd h
set_option maxHeartbeats 4000000 in
theorem R_X8_againstOpen (en : En) (N : Nat) (p0 : Int32)  (σ : Sg) : RR en ExT mi_X8_againstOpen evI 0 [(0, .ref (ad en 21 0 0)), (1, .int p0)] [] σ (f_X8_againstOpen N p0 σ) := by
  unfold f_X8_againstOpen
  refine r_aload_n (pc := 0) 0 dX8_againstOpen_0 rfl rfl ?_
  refine r_iload_n (pc := 1) 1 dX8_againstOpen_1 rfl rfl ?_
  refine k_X8_isPane (pc := 2) lm_RX8_188  (by decide) (Nat.le_of_ble_eq_true rfl) dX8_againstOpen_2 (fun w1 h1 => ?_)
  refine r_if_ne (pc := 5) 12 dX8_againstOpen_5 (by decide) (fun h2 => ?_) (fun h2 => ?_)
  · refine r_iconst (pc := 8) dX8_againstOpen_8 kc_iconst_m1 ?_
    refine r_goto (pc := 9) 32 dX8_againstOpen_9 (by decide) ?_
    exact r_iret (pc := 32) rfl dX8_againstOpen_32
  · refine r_aload_n (pc := 12) 0 dX8_againstOpen_12 rfl rfl ?_
    refine g_X8_s (pc := 13)  lf_RX8_34 dX8_againstOpen_13 ?_
    refine r_bipush (pc := 16) dX8_againstOpen_16 kc_bipush_21 ?_
    refine r_iald (pc := 18) (n := 22) o22_14 rfl dX8_againstOpen_18 (fun h3 => ?_)
    refine r_iload_n (pc := 19) 1 dX8_againstOpen_19 rfl rfl ?_
    refine k_X8_has (pc := 20) lm_RX8_157  (by decide) (Nat.le_of_ble_eq_true rfl) dX8_againstOpen_20 (fun w2 h4 => ?_)
    refine r_if_ne (pc := 23) 31 dX8_againstOpen_23 (by decide) (fun h5 => ?_) (fun h5 => ?_)
    · refine r_bipush (pc := 26) dX8_againstOpen_26 kc_bipush_m4 ?_
      refine r_goto (pc := 28) 32 dX8_againstOpen_28 (by decide) ?_
      exact r_iret (pc := 32) rfl dX8_againstOpen_32
    · refine r_iconst (pc := 31) dX8_againstOpen_31 kc_iconst_0 ?_
      exact r_iret (pc := 32) rfl dX8_againstOpen_32
theorem ok_X8_againstOpen : yOk yX8_againstOpen cX8_againstOpen 2 (some .int) := ⟨in_lwG (by decide +kernel) rfl, in_lwG (by decide +kernel) rfl, by decide, by decide, by decide⟩
theorem k_X8_againstOpen {en : En} {Ex : (Nat → Prop) → State → Prop} {mi : Mi} {α : Type} {ev : α → Option Value × Sg} {pc index : Nat} {lv : List (Nat × Value)} {rest : List Value} {σ : Sg} {N : Nat} {k : (Int32 × Sg) → Option α} {p0 : Int32} (hlink : Cond.methodLink mi.1 index yX8_againstOpen ∈ lwG) (hroom : 3 + 1 ≤ mi.2.2.2.2) (hcat : (rest.map fun v => v.category).sum ≤ 8) (hd : decode mi.2.1 pc = .ok (.invokevirtual index, 3))  (h : ∀ w : Int32 × Sg, f_X8_againstOpen N p0 σ = some w → RR en Ex mi ev (pc + 3) lv (.int w.1 :: rest) w.2 (k w)) : RR en Ex mi ev pc lv (.int p0 :: .ref (ad en 21 0 0) :: rest) σ ((f_X8_againstOpen N p0 σ).bind k) :=
  r_callV (n := 1) [.int p0] ok_X8_againstOpen hlink (in_lwG (by decide +kernel) rfl) (in_lwG (by decide +kernel) rfl) (by decide +kernel) rfl hroom (by decide) o21 rfl rfl hcat (R_X8_againstOpen en N p0  σ) (Nat.le_of_ble_eq_true rfl) hd h
set_option maxHeartbeats 4000000 in
theorem RL_X8_againstPairs_52 (en : En) (N : Nat) {k : Int32 → Sg → Option (Int32 × Sg)} (a2 : Int32)  (hk : ∀ (v3 : Int32) (σ : Sg), RR en ExT mi_X8_againstPairs evI 120 [] [] σ (k v3 σ)) : ∀ (n : Nat) (v3 : Int32) (σ : Sg), RR en ExT mi_X8_againstPairs evI 52 [(0, .ref (ad en 21 0 0)), (2, .int a2), (3, .int v3)] [] σ (L_X8_againstPairs_52 N k a2 n v3 σ) := by
  intro n
  induction n with
  | zero => intro v3 σ; exact r_none
  | succ n ih =>
    intro v3 σ
    rw [L_X8_againstPairs_52_s]
    refine r_iload_n (pc := 52) 2 dX8_againstPairs_52 rfl rfl ?_
    refine r_aload_n (pc := 53) 0 dX8_againstPairs_53 rfl rfl ?_
    refine g_X8_rowSize (pc := 54)  lf_RX8_16 dX8_againstPairs_54 ?_
    refine r_iload_n (pc := 57) 1 dX8_againstPairs_57 rfl rfl ?_
    refine r_iald (pc := 58) (n := 6) o22_7 rfl dX8_againstPairs_58 (fun h10 => ?_)
    refine r_icmp_ge (pc := 59) 120 dX8_againstPairs_59 (by decide) (fun h11 => ?_) (fun h11 => ?_)
    · exact r_sub [] rfl (hk v3 σ)
    · refine r_aload_n (pc := 62) 0 dX8_againstPairs_62 rfl rfl ?_
      refine g_X8_rows (pc := 63)  lf_RX8_13 dX8_againstPairs_63 ?_
      refine r_bipush (pc := 66) dX8_againstPairs_66 kc_bipush_40 ?_
      refine r_iload_n (pc := 68) 1 dX8_againstPairs_68 rfl rfl ?_
      refine r_imul (pc := 69) dX8_againstPairs_69 ?_
      refine r_iload_n (pc := 70) 2 dX8_againstPairs_70 rfl rfl ?_
      refine r_iadd (pc := 71) dX8_againstPairs_71 ?_
      refine r_iald (pc := 72) (n := 240) o22_6 rfl dX8_againstPairs_72 (fun h12 => ?_)
      refine r_iconst (pc := 73) dX8_againstPairs_73 kc_iconst_0 ?_
      refine r_bipush (pc := 74) dX8_againstPairs_74 kc_bipush_95 ?_
      refine k_X8_in (pc := 76) lm_RX8_91  (by decide) (Nat.le_of_ble_eq_true rfl) dX8_againstPairs_76 (fun w4 h13 => ?_)
      refine r_if_eq (pc := 79) 108 dX8_againstPairs_79 (by decide) (fun h14 => ?_) (fun h14 => ?_)
      · refine r_aload_n (pc := 108) 0 dX8_againstPairs_108 rfl rfl ?_
        refine r_iconst (pc := 109) dX8_againstPairs_109 kc_iconst_3 ?_
        refine k_X8_found (pc := 110) lm_RX8_99  (by decide) (Nat.le_of_ble_eq_true rfl) dX8_againstPairs_110 (fun w5 h15 => ?_)
        exact r_iret (pc := 113) rfl dX8_againstPairs_113
      · refine r_aload_n (pc := 82) 0 dX8_againstPairs_82 rfl rfl ?_
        refine g_X8_rows (pc := 83)  lf_RX8_13 dX8_againstPairs_83 ?_
        refine r_bipush (pc := 86) dX8_againstPairs_86 kc_bipush_40 ?_
        refine r_iload_n (pc := 88) 1 dX8_againstPairs_88 rfl rfl ?_
        refine r_imul (pc := 89) dX8_againstPairs_89 ?_
        refine r_iload_n (pc := 90) 2 dX8_againstPairs_90 rfl rfl ?_
        refine r_iadd (pc := 91) dX8_againstPairs_91 ?_
        refine r_iconst (pc := 92) dX8_againstPairs_92 kc_iconst_1 ?_
        refine r_iadd (pc := 93) dX8_againstPairs_93 ?_
        refine r_iald (pc := 94) (n := 240) o22_6 rfl dX8_againstPairs_94 (fun h16 => ?_)
        refine r_iconst (pc := 95) dX8_againstPairs_95 kc_iconst_m1 ?_
        refine r_aload_n (pc := 96) 0 dX8_againstPairs_96 rfl rfl ?_
        refine g_X8_panes (pc := 97)  lf_RX8_143 dX8_againstPairs_97 ?_
        refine r_iconst (pc := 100) dX8_againstPairs_100 kc_iconst_1 ?_
        refine r_isub (pc := 101) dX8_againstPairs_101 ?_
        refine k_X8_in (pc := 102) lm_RX8_91  (by decide) (Nat.le_of_ble_eq_true rfl) dX8_againstPairs_102 (fun w6 h17 => ?_)
        refine r_if_ne (pc := 105) 114 dX8_againstPairs_105 (by decide) (fun h18 => ?_) (fun h18 => ?_)
        · refine r_aload_n (pc := 108) 0 dX8_againstPairs_108 rfl rfl ?_
          refine r_iconst (pc := 109) dX8_againstPairs_109 kc_iconst_3 ?_
          refine k_X8_found (pc := 110) lm_RX8_99  (by decide) (Nat.le_of_ble_eq_true rfl) dX8_againstPairs_110 (fun w7 h19 => ?_)
          exact r_iret (pc := 113) rfl dX8_againstPairs_113
        · refine r_iinc (pc := 114) 2 [(3, .int (v3 + (2 : Int32))), (0, .ref (ad en 21 0 0)), (2, .int a2)] dX8_againstPairs_114 rfl rfl (by decide) rfl ?_
          refine r_goto (pc := 117) 52 dX8_againstPairs_117 (by decide) ?_
          exact r_sub [1, 2, 0] rfl (ih (v3 + (2 : Int32)) w6.2)
set_option maxHeartbeats 4000000 in
theorem R_X8_againstPairs (en : En) (N : Nat) (p0 : Int32) (p1 : Int32)  (σ : Sg) : RR en ExT mi_X8_againstPairs evI 0 [(0, .ref (ad en 21 0 0)), (1, .int p0), (2, .int p1)] [] σ (f_X8_againstPairs N p0 p1 σ) := by
  unfold f_X8_againstPairs
  refine r_aload_n (pc := 0) 0 dX8_againstPairs_0 rfl rfl ?_
  refine r_iload_n (pc := 1) 1 dX8_againstPairs_1 rfl rfl ?_
  refine k_X8_isPane (pc := 2) lm_RX8_188  (by decide) (Nat.le_of_ble_eq_true rfl) dX8_againstPairs_2 (fun w1 h1 => ?_)
  refine r_if_eq (pc := 5) 15 dX8_againstPairs_5 (by decide) (fun h2 => ?_) (fun h2 => ?_)
  · refine r_iconst (pc := 15) dX8_againstPairs_15 kc_iconst_m1 ?_
    exact r_iret (pc := 16) rfl dX8_againstPairs_16
  · refine r_iload_n (pc := 8) 2 dX8_againstPairs_8 rfl rfl ?_
    refine k_X8_isRow (pc := 9) lm_RX8_95  (by decide) (Nat.le_of_ble_eq_true rfl) dX8_againstPairs_9 (fun w2 h3 => ?_)
    refine r_if_ne (pc := 12) 17 dX8_againstPairs_12 (by decide) (fun h4 => ?_) (fun h4 => ?_)
    · refine r_iconst (pc := 15) dX8_againstPairs_15 kc_iconst_m1 ?_
      exact r_iret (pc := 16) rfl dX8_againstPairs_16
    · refine r_aload_n (pc := 17) 0 dX8_againstPairs_17 rfl rfl ?_
      refine g_X8_rowSize (pc := 18)  lf_RX8_16 dX8_againstPairs_18 ?_
      refine r_iload_n (pc := 21) 2 dX8_againstPairs_21 rfl rfl ?_
      refine r_iald (pc := 22) (n := 6) o22_7 rfl dX8_againstPairs_22 (fun h5 => ?_)
      refine r_if_ge (pc := 23) 32 dX8_againstPairs_23 (by decide) (fun h6 => ?_) (fun h6 => ?_)
      · refine r_aload_n (pc := 32) 0 dX8_againstPairs_32 rfl rfl ?_
        refine g_X8_rowSize (pc := 33)  lf_RX8_16 dX8_againstPairs_33 ?_
        refine r_iload_n (pc := 36) 2 dX8_againstPairs_36 rfl rfl ?_
        refine r_iald (pc := 37) (n := 6) o22_7 rfl dX8_againstPairs_37 (fun h7 => ?_)
        refine r_iconst (pc := 38) dX8_againstPairs_38 kc_iconst_2 ?_
        refine r_irem (pc := 39) dX8_againstPairs_39 (by decide) ?_
        refine r_iconst (pc := 40) dX8_againstPairs_40 kc_iconst_1 ?_
        refine r_icmp_ne (pc := 41) 50 dX8_againstPairs_41 (by decide) (fun h8 => ?_) (fun h8 => ?_)
        · refine r_aload_n (pc := 44) 0 dX8_againstPairs_44 rfl rfl ?_
          refine r_iconst (pc := 45) dX8_againstPairs_45 kc_iconst_5 ?_
          refine k_X8_found (pc := 46) lm_RX8_99  (by decide) (Nat.le_of_ble_eq_true rfl) dX8_againstPairs_46 (fun w3 h9 => ?_)
          exact r_iret (pc := 49) rfl dX8_againstPairs_49
        · refine r_iconst (pc := 50) dX8_againstPairs_50 kc_iconst_0 ?_
          refine r_istore_n (pc := 51) [(3, .int (0 : Int32)), (0, .ref (ad en 21 0 0)), (1, .int p0), (2, .int p1)] dX8_againstPairs_51 rfl (by decide) rfl ?_
          refine r_sub [1, 3, 0] rfl (RL_X8_againstPairs_52 en N p1  (fun v3_8 σ_8 => ?_) N (0 : Int32) w2.2)
          refine r_iconst (pc := 120) dX8_againstPairs_120 kc_iconst_0 ?_
          exact r_iret (pc := 121) rfl dX8_againstPairs_121
      · refine r_aload_n (pc := 26) 0 dX8_againstPairs_26 rfl rfl ?_
        refine r_iconst (pc := 27) dX8_againstPairs_27 kc_iconst_1 ?_
        refine k_X8_found (pc := 28) lm_RX8_99  (by decide) (Nat.le_of_ble_eq_true rfl) dX8_againstPairs_28 (fun w9 h20 => ?_)
        exact r_iret (pc := 31) rfl dX8_againstPairs_31
theorem ok_X8_againstPairs : yOk yX8_againstPairs cX8_againstPairs 4 (some .int) := ⟨in_lwG (by decide +kernel) rfl, in_lwG (by decide +kernel) rfl, by decide, by decide, by decide⟩
theorem k_X8_againstPairs {en : En} {Ex : (Nat → Prop) → State → Prop} {mi : Mi} {α : Type} {ev : α → Option Value × Sg} {pc index : Nat} {lv : List (Nat × Value)} {rest : List Value} {σ : Sg} {N : Nat} {k : (Int32 × Sg) → Option α} {p0 : Int32} {p1 : Int32} (hlink : Cond.methodLink mi.1 index yX8_againstPairs ∈ lwG) (hroom : 3 + 1 ≤ mi.2.2.2.2) (hcat : (rest.map fun v => v.category).sum ≤ 8) (hd : decode mi.2.1 pc = .ok (.invokevirtual index, 3))  (h : ∀ w : Int32 × Sg, f_X8_againstPairs N p0 p1 σ = some w → RR en Ex mi ev (pc + 3) lv (.int w.1 :: rest) w.2 (k w)) : RR en Ex mi ev pc lv (.int p1 :: .int p0 :: .ref (ad en 21 0 0) :: rest) σ ((f_X8_againstPairs N p0 p1 σ).bind k) :=
  r_callV (n := 2) [.int p0, .int p1] ok_X8_againstPairs hlink (in_lwG (by decide +kernel) rfl) (in_lwG (by decide +kernel) rfl) (by decide +kernel) rfl hroom (by decide) o21 rfl rfl hcat (R_X8_againstPairs en N p0 p1  σ) (Nat.le_of_ble_eq_true rfl) hd h
set_option maxHeartbeats 4000000 in
theorem RL_X8_asNow_2 (en : En) (N : Nat) {k : Int32 → Sg → Option (Sg)}   (hk : ∀ (v1 : Int32) (σ : Sg), RR en ExT mi_X8_asNow evV 26 [(0, .ref (ad en 21 0 0))] [] σ (k v1 σ)) : ∀ (n : Nat) (v1 : Int32) (σ : Sg), RR en ExT mi_X8_asNow evV 2 [(0, .ref (ad en 21 0 0)), (1, .int v1)] [] σ (L_X8_asNow_2 N k  n v1 σ) := by
  intro n
  induction n with
  | zero => intro v1 σ; exact r_none
  | succ n ih =>
    intro v1 σ
    rw [L_X8_asNow_2_s]
    refine r_iload_n (pc := 2) 1 dX8_asNow_2 rfl rfl ?_
    refine r_bipush (pc := 3) dX8_asNow_3 kc_bipush_22 ?_
    refine r_icmp_ge (pc := 5) 26 dX8_asNow_5 (by decide) (fun h1 => ?_) (fun h1 => ?_)
    · exact r_sub [0] rfl (hk v1 σ)
    · refine r_aload_n (pc := 8) 0 dX8_asNow_8 rfl rfl ?_
      refine g_X8_w (pc := 9)  lf_RX8_52 dX8_asNow_9 ?_
      refine r_iload_n (pc := 12) 1 dX8_asNow_12 rfl rfl ?_
      refine r_aload_n (pc := 13) 0 dX8_asNow_13 rfl rfl ?_
      refine g_X8_s (pc := 14)  lf_RX8_34 dX8_asNow_14 ?_
      refine r_iload_n (pc := 17) 1 dX8_asNow_17 rfl rfl ?_
      refine r_iald (pc := 18) (n := 22) o22_14 rfl dX8_asNow_18 (fun h2 => ?_)
      refine r_iast (pc := 19) (n := 22) o22_21 rfl rfl dX8_asNow_19 (fun h3 => ?_)
      refine r_iinc (pc := 20) 1 [(1, .int (v1 + (1 : Int32))), (0, .ref (ad en 21 0 0))] dX8_asNow_20 rfl rfl (by decide) rfl ?_
      refine r_goto (pc := 23) 2 dX8_asNow_23 (by decide) ?_
      exact r_sub [1, 0] rfl (ih (v1 + (1 : Int32)) (uI σ 22 21 0 v1.toNatClampNeg (rI σ 22 14 0 v1.toNatClampNeg)))
set_option maxHeartbeats 4000000 in
theorem RL_X8_asNow_28 (en : En) (N : Nat) {k : Int32 → Sg → Option (Sg)}   (hk : ∀ (v1 : Int32) (σ : Sg), RR en ExT mi_X8_asNow evV 52 [] [] σ (k v1 σ)) : ∀ (n : Nat) (v1 : Int32) (σ : Sg), RR en ExT mi_X8_asNow evV 28 [(0, .ref (ad en 21 0 0)), (1, .int v1)] [] σ (L_X8_asNow_28 N k  n v1 σ) := by
  intro n
  induction n with
  | zero => intro v1 σ; exact r_none
  | succ n ih =>
    intro v1 σ
    rw [L_X8_asNow_28_s]
    refine r_iload_n (pc := 28) 1 dX8_asNow_28 rfl rfl ?_
    refine r_bipush (pc := 29) dX8_asNow_29 kc_bipush_7 ?_
    refine r_icmp_ge (pc := 31) 52 dX8_asNow_31 (by decide) (fun h4 => ?_) (fun h4 => ?_)
    · exact r_sub [] rfl (hk v1 σ)
    · refine r_aload_n (pc := 34) 0 dX8_asNow_34 rfl rfl ?_
      refine g_X8_kindIf (pc := 35)  lf_RX8_49 dX8_asNow_35 ?_
      refine r_iload_n (pc := 38) 1 dX8_asNow_38 rfl rfl ?_
      refine r_aload_n (pc := 39) 0 dX8_asNow_39 rfl rfl ?_
      refine g_X8_kind (pc := 40)  lf_RX8_25 dX8_asNow_40 ?_
      refine r_iload_n (pc := 43) 1 dX8_asNow_43 rfl rfl ?_
      refine r_iald (pc := 44) (n := 7) o22_11 rfl dX8_asNow_44 (fun h5 => ?_)
      refine r_iast (pc := 45) (n := 7) o22_20 rfl rfl dX8_asNow_45 (fun h6 => ?_)
      refine r_iinc (pc := 46) 1 [(1, .int (v1 + (1 : Int32))), (0, .ref (ad en 21 0 0))] dX8_asNow_46 rfl rfl (by decide) rfl ?_
      refine r_goto (pc := 49) 28 dX8_asNow_49 (by decide) ?_
      exact r_sub [1, 0] rfl (ih (v1 + (1 : Int32)) (uI σ 22 20 0 v1.toNatClampNeg (rI σ 22 11 0 v1.toNatClampNeg)))
set_option maxHeartbeats 4000000 in
theorem R_X8_asNow (en : En) (N : Nat)  (σ : Sg) : RR en ExT mi_X8_asNow evV 0 [(0, .ref (ad en 21 0 0))] [] σ (f_X8_asNow N σ) := by
  unfold f_X8_asNow
  refine r_iconst (pc := 0) dX8_asNow_0 kc_iconst_0 ?_
  refine r_istore_n (pc := 1) [(1, .int (0 : Int32)), (0, .ref (ad en 21 0 0))] dX8_asNow_1 rfl (by decide) rfl ?_
  refine r_sub [1, 0] rfl (RL_X8_asNow_2 en N   (fun v1_1 σ_1 => ?_) N (0 : Int32) σ)
  refine r_iconst (pc := 26) dX8_asNow_26 kc_iconst_0 ?_
  refine r_istore_n (pc := 27) [(1, .int (0 : Int32)), (0, .ref (ad en 21 0 0))] dX8_asNow_27 rfl (by decide) rfl ?_
  refine r_sub [1, 0] rfl (RL_X8_asNow_28 en N   (fun v1_2 σ_2 => ?_) N (0 : Int32) σ_1)
  exact r_vret (pc := 52) rfl dX8_asNow_52
theorem ok_X8_asNow : yOk yX8_asNow cX8_asNow 2 none := ⟨in_lwG (by decide +kernel) rfl, in_lwG (by decide +kernel) rfl, by decide, by decide, by decide⟩
theorem k_X8_asNow {en : En} {Ex : (Nat → Prop) → State → Prop} {mi : Mi} {α : Type} {ev : α → Option Value × Sg} {pc index : Nat} {lv : List (Nat × Value)} {rest : List Value} {σ : Sg} {N : Nat} {k : (Sg) → Option α}  (hlink : Cond.methodLink mi.1 index yX8_asNow ∈ lwG) (hroom : 1 + 1 ≤ mi.2.2.2.2) (hcat : (rest.map fun v => v.category).sum ≤ 8) (hd : decode mi.2.1 pc = .ok (.invokevirtual index, 3))  (h : ∀ w : Sg, f_X8_asNow N  σ = some w → RR en Ex mi ev (pc + 3) lv (rest) w (k w)) : RR en Ex mi ev pc lv (.ref (ad en 21 0 0) :: rest) σ ((f_X8_asNow N  σ).bind k) :=
  r_callV (n := 0) [] ok_X8_asNow hlink (in_lwG (by decide +kernel) rfl) (in_lwG (by decide +kernel) rfl) (by decide +kernel) rfl hroom (by decide) o21 rfl rfl hcat (R_X8_asNow en N   σ) (Nat.le_of_ble_eq_true rfl) hd h
set_option maxHeartbeats 4000000 in
theorem R_X8_asked (en : En) (N : Nat)  (σ : Sg) : RR en ExT mi_X8_asked evI 0 [(0, .ref (ad en 21 0 0))] [] σ (f_X8_asked N σ) := by
  unfold f_X8_asked
  refine r_aload_n (pc := 0) 0 dX8_asked_0 rfl rfl ?_
  refine r_iconst (pc := 1) dX8_asked_1 kc_iconst_0 ?_
  refine p_X8_thrown (pc := 2)  lf_RX8_81 dX8_asked_2 ?_
  refine r_aload_n (pc := 5) 0 dX8_asked_5 rfl rfl ?_
  refine g_X8_askedLast (pc := 6)  lf_RX8_88 dX8_asked_6 ?_
  exact r_iret (pc := 9) rfl dX8_asked_9
theorem ok_X8_asked : yOk yX8_asked cX8_asked 1 (some .int) := ⟨in_lwG (by decide +kernel) rfl, in_lwG (by decide +kernel) rfl, by decide, by decide, by decide⟩
theorem k_X8_asked {en : En} {Ex : (Nat → Prop) → State → Prop} {mi : Mi} {α : Type} {ev : α → Option Value × Sg} {pc index : Nat} {lv : List (Nat × Value)} {rest : List Value} {σ : Sg} {N : Nat} {k : (Int32 × Sg) → Option α}  (hlink : Cond.methodLink mi.1 index yX8_asked ∈ lwG) (hroom : 1 + 1 ≤ mi.2.2.2.2) (hcat : (rest.map fun v => v.category).sum ≤ 8) (hd : decode mi.2.1 pc = .ok (.invokevirtual index, 3))  (h : ∀ w : Int32 × Sg, f_X8_asked N  σ = some w → RR en Ex mi ev (pc + 3) lv (.int w.1 :: rest) w.2 (k w)) : RR en Ex mi ev pc lv (.ref (ad en 21 0 0) :: rest) σ ((f_X8_asked N  σ).bind k) :=
  r_callV (n := 0) [] ok_X8_asked hlink (in_lwG (by decide +kernel) rfl) (in_lwG (by decide +kernel) rfl) (by decide +kernel) rfl hroom (by decide) o21 rfl rfl hcat (R_X8_asked en N   σ) (Nat.le_of_ble_eq_true rfl) hd h
set_option maxHeartbeats 4000000 in
theorem R_X8_tells (en : En) (N : Nat) (p0 : Int32) (p1 : Int32)  (σ : Sg) : RR en ExT mi_X8_tells evI 0 [(0, .ref (ad en 21 0 0)), (1, .int p0), (2, .int p1)] [] σ (f_X8_tells N p0 p1 σ) := by
  unfold f_X8_tells
  refine r_aload_n (pc := 0) 0 dX8_tells_0 rfl rfl ?_
  refine r_iload_n (pc := 1) 2 dX8_tells_1 rfl rfl ?_
  refine p_X8_askedLast (pc := 2)  lf_RX8_88 dX8_tells_2 ?_
  refine r_iload_n (pc := 5) 1 dX8_tells_5 rfl rfl ?_
  exact r_iret (pc := 6) rfl dX8_tells_6
theorem ok_X8_tells : yOk yX8_tells cX8_tells 3 (some .int) := ⟨in_lwG (by decide +kernel) rfl, in_lwG (by decide +kernel) rfl, by decide, by decide, by decide⟩
theorem k_X8_tells {en : En} {Ex : (Nat → Prop) → State → Prop} {mi : Mi} {α : Type} {ev : α → Option Value × Sg} {pc index : Nat} {lv : List (Nat × Value)} {rest : List Value} {σ : Sg} {N : Nat} {k : (Int32 × Sg) → Option α} {p0 : Int32} {p1 : Int32} (hlink : Cond.methodLink mi.1 index yX8_tells ∈ lwG) (hroom : 1 + 1 ≤ mi.2.2.2.2) (hcat : (rest.map fun v => v.category).sum ≤ 8) (hd : decode mi.2.1 pc = .ok (.invokevirtual index, 3))  (h : ∀ w : Int32 × Sg, f_X8_tells N p0 p1 σ = some w → RR en Ex mi ev (pc + 3) lv (.int w.1 :: rest) w.2 (k w)) : RR en Ex mi ev pc lv (.int p1 :: .int p0 :: .ref (ad en 21 0 0) :: rest) σ ((f_X8_tells N p0 p1 σ).bind k) :=
  r_callV (n := 2) [.int p0, .int p1] ok_X8_tells hlink (in_lwG (by decide +kernel) rfl) (in_lwG (by decide +kernel) rfl) (by decide +kernel) rfl hroom (by decide) o21 rfl rfl hcat (R_X8_tells en N p0 p1  σ) (Nat.le_of_ble_eq_true rfl) hd h
set_option maxHeartbeats 4000000 in
theorem R_X8_at (en : En) (N : Nat) (p0 : Int32) (p1 : Int32)  (σ : Sg) : RR en ExT mi_X8_at evI 0 [(0, .ref (ad en 21 0 0)), (1, .int p0), (2, .int p1)] [] σ (f_X8_at N p0 p1 σ) := by
  unfold f_X8_at
  refine r_aload_n (pc := 0) 0 dX8_at_0 rfl rfl ?_
  refine r_iconst (pc := 1) dX8_at_1 kc_iconst_0 ?_
  refine p_X8_thrown (pc := 2)  lf_RX8_81 dX8_at_2 ?_
  refine r_aload_n (pc := 5) 0 dX8_at_5 rfl rfl ?_
  refine r_iload_n (pc := 6) 1 dX8_at_6 rfl rfl ?_
  refine r_iload_n (pc := 7) 2 dX8_at_7 rfl rfl ?_
  refine k_X8_against (pc := 8) lm_RX8_103  (by decide) (Nat.le_of_ble_eq_true rfl) dX8_at_8 (fun w1 h1 => ?_)
  refine r_istore_n (pc := 11) [(3, .int w1.1), (0, .ref (ad en 21 0 0)), (1, .int p0), (2, .int p1)] dX8_at_11 rfl (by decide) rfl ?_
  refine r_iload_n (pc := 12) 0 dX8_at_12 rfl rfl ?_
  refine r_if_eq (pc := 13) 20 dX8_at_13 (by decide) (fun h2 => ?_) (fun h2 => ?_)
  · refine r_aload_n (pc := 20) 1 dX8_at_20 rfl rfl ?_
    refine r_iconst (pc := 21) dX8_at_21 kc_iconst_1 ?_
    refine r_aload_n (pc := 22) 1 dX8_at_22 rfl rfl ?_
    refine g_X8_rows (pc := 23)  lf_RX8_13 dX8_at_23 ?_
    refine r_bipush (pc := 26) dX8_at_26 kc_bipush_40 ?_
    refine r_iload_n (pc := 28) 2 dX8_at_28 rfl rfl ?_
    refine r_imul (pc := 29) dX8_at_29 ?_
    refine r_iload_n (pc := 30) 3 dX8_at_30 rfl rfl ?_
    refine r_iadd (pc := 31) dX8_at_31 ?_
    refine r_iald (pc := 32) (n := 240) o22_6 rfl dX8_at_32 (fun h3 => ?_)
    refine k_X8_tells (pc := 33) lm_RX8_107  (by decide) (Nat.le_of_ble_eq_true rfl) dX8_at_33 (fun w2 h4 => ?_)
    exact r_iret (pc := 36) rfl dX8_at_36
  · refine r_iload_n (pc := 16) 0 dX8_at_16 rfl rfl ?_
    refine r_goto (pc := 17) 36 dX8_at_17 (by decide) ?_
    exact r_iret (pc := 36) rfl dX8_at_36
theorem ok_X8_at : yOk yX8_at cX8_at 4 (some .int) := ⟨in_lwG (by decide +kernel) rfl, in_lwG (by decide +kernel) rfl, by decide, by decide, by decide⟩
theorem k_X8_at {en : En} {Ex : (Nat → Prop) → State → Prop} {mi : Mi} {α : Type} {ev : α → Option Value × Sg} {pc index : Nat} {lv : List (Nat × Value)} {rest : List Value} {σ : Sg} {N : Nat} {k : (Int32 × Sg) → Option α} {p0 : Int32} {p1 : Int32} (hlink : Cond.methodLink mi.1 index yX8_at ∈ lwG) (hroom : 4 + 1 ≤ mi.2.2.2.2) (hcat : (rest.map fun v => v.category).sum ≤ 8) (hd : decode mi.2.1 pc = .ok (.invokevirtual index, 3))  (h : ∀ w : Int32 × Sg, f_X8_at N p0 p1 σ = some w → RR en Ex mi ev (pc + 3) lv (.int w.1 :: rest) w.2 (k w)) : RR en Ex mi ev pc lv (.int p1 :: .int p0 :: .ref (ad en 21 0 0) :: rest) σ ((f_X8_at N p0 p1 σ).bind k) :=
  r_callV (n := 2) [.int p0, .int p1] ok_X8_at hlink (in_lwG (by decide +kernel) rfl) (in_lwG (by decide +kernel) rfl) (by decide +kernel) rfl hroom (by decide) o21 rfl rfl hcat (R_X8_at en N p0 p1  σ) (Nat.le_of_ble_eq_true rfl) hd h
set_option maxHeartbeats 4000000 in
theorem R_X8_byteAt (en : En) (N : Nat) (p0 : Int32)  (σ : Sg) : RR en ExT mi_X8_byteAt evI 0 [(0, .ref (ad en 21 0 0)), (1, .int p0)] [] σ (f_X8_byteAt N p0 σ) := by
  unfold f_X8_byteAt
  refine r_iload_n (pc := 0) 1 dX8_byteAt_0 rfl rfl ?_
  refine r_aload_n (pc := 1) 0 dX8_byteAt_1 rfl rfl ?_
  refine g_X8_byteSize (pc := 2)  lf_RX8_22 dX8_byteAt_2 ?_
  refine r_aload_n (pc := 5) 0 dX8_byteAt_5 rfl rfl ?_
  refine g_X8_of (pc := 6)  lf_RX8_116 dX8_byteAt_6 ?_
  refine r_iald (pc := 9) (n := 4) o22_9 rfl dX8_byteAt_9 (fun h1 => ?_)
  refine r_icmp_ge (pc := 10) 30 dX8_byteAt_10 (by decide) (fun h2 => ?_) (fun h2 => ?_)
  · refine r_sipush (pc := 30) dX8_byteAt_30 kc_sipush_m1000 ?_
    exact r_iret (pc := 33) rfl dX8_byteAt_33
  · refine r_aload_n (pc := 13) 0 dX8_byteAt_13 rfl rfl ?_
    refine g_X8_bytes (pc := 14)  lf_RX8_19 dX8_byteAt_14 ?_
    refine r_bipush (pc := 17) dX8_byteAt_17 kc_bipush_60 ?_
    refine r_aload_n (pc := 19) 0 dX8_byteAt_19 rfl rfl ?_
    refine g_X8_of (pc := 20)  lf_RX8_116 dX8_byteAt_20 ?_
    refine r_imul (pc := 23) dX8_byteAt_23 ?_
    refine r_iload_n (pc := 24) 1 dX8_byteAt_24 rfl rfl ?_
    refine r_iadd (pc := 25) dX8_byteAt_25 ?_
    refine r_iald (pc := 26) (n := 240) o22_8 rfl dX8_byteAt_26 (fun h3 => ?_)
    refine r_goto (pc := 27) 33 dX8_byteAt_27 (by decide) ?_
    exact r_iret (pc := 33) rfl dX8_byteAt_33
theorem ok_X8_byteAt : yOk yX8_byteAt cX8_byteAt 2 (some .int) := ⟨in_lwG (by decide +kernel) rfl, in_lwG (by decide +kernel) rfl, by decide, by decide, by decide⟩
theorem k_X8_byteAt {en : En} {Ex : (Nat → Prop) → State → Prop} {mi : Mi} {α : Type} {ev : α → Option Value × Sg} {pc index : Nat} {lv : List (Nat × Value)} {rest : List Value} {σ : Sg} {N : Nat} {k : (Int32 × Sg) → Option α} {p0 : Int32} (hlink : Cond.methodLink mi.1 index yX8_byteAt ∈ lwG) (hroom : 1 + 1 ≤ mi.2.2.2.2) (hcat : (rest.map fun v => v.category).sum ≤ 8) (hd : decode mi.2.1 pc = .ok (.invokevirtual index, 3))  (h : ∀ w : Int32 × Sg, f_X8_byteAt N p0 σ = some w → RR en Ex mi ev (pc + 3) lv (.int w.1 :: rest) w.2 (k w)) : RR en Ex mi ev pc lv (.int p0 :: .ref (ad en 21 0 0) :: rest) σ ((f_X8_byteAt N p0 σ).bind k) :=
  r_callV (n := 1) [.int p0] ok_X8_byteAt hlink (in_lwG (by decide +kernel) rfl) (in_lwG (by decide +kernel) rfl) (by decide +kernel) rfl hroom (by decide) o21 rfl rfl hcat (R_X8_byteAt en N p0  σ) (Nat.le_of_ble_eq_true rfl) hd h
set_option maxHeartbeats 4000000 in
theorem RL_X8_blanks_0 (en : En) (N : Nat) {k : Sg → Option (Sg)}   (hk : ∀ (σ : Sg), RR en ExT mi_X8_blanks evV 26 [] [] σ (k σ)) : ∀ (n : Nat) (σ : Sg), RR en ExT mi_X8_blanks evV 0 [(0, .ref (ad en 21 0 0))] [] σ (L_X8_blanks_0 N k  n σ) := by
  intro n
  induction n with
  | zero => intro σ; exact r_none
  | succ n ih =>
    intro σ
    rw [L_X8_blanks_0_s]
    refine r_aload_n (pc := 0) 0 dX8_blanks_0 rfl rfl ?_
    refine r_aload_n (pc := 1) 0 dX8_blanks_1 rfl rfl ?_
    refine g_X8_place (pc := 2)  lf_RX8_119 dX8_blanks_2 ?_
    refine k_X8_byteAt (pc := 5) lm_RX8_122  (by decide) (Nat.le_of_ble_eq_true rfl) dX8_blanks_5 (fun w1 h1 => ?_)
    refine r_bipush (pc := 8) dX8_blanks_8 kc_bipush_32 ?_
    refine r_icmp_ne (pc := 10) 26 dX8_blanks_10 (by decide) (fun h2 => ?_) (fun h2 => ?_)
    · refine r_aload_n (pc := 13) 0 dX8_blanks_13 rfl rfl ?_
      refine r_dup (pc := 14) dX8_blanks_14 rfl ?_
      refine g_X8_place (pc := 15)  lf_RX8_119 dX8_blanks_15 ?_
      refine r_iconst (pc := 18) dX8_blanks_18 kc_iconst_1 ?_
      refine r_iadd (pc := 19) dX8_blanks_19 ?_
      refine p_X8_place (pc := 20)  lf_RX8_119 dX8_blanks_20 ?_
      refine r_goto (pc := 23) 0 dX8_blanks_23 (by decide) ?_
      exact r_sub [0] rfl (ih (uI w1.2 21 0 0 27 ((rI w1.2 21 0 0 27) + (1 : Int32))))
    · exact r_sub [] rfl (hk w1.2)
set_option maxHeartbeats 4000000 in
theorem R_X8_blanks (en : En) (N : Nat)  (σ : Sg) : RR en ExT mi_X8_blanks evV 0 [(0, .ref (ad en 21 0 0))] [] σ (f_X8_blanks N σ) := by
  unfold f_X8_blanks
  refine r_sub [0] rfl (RL_X8_blanks_0 en N   (fun σ_2 => ?_) N σ)
  exact r_vret (pc := 26) rfl dX8_blanks_26
theorem ok_X8_blanks : yOk yX8_blanks cX8_blanks 1 none := ⟨in_lwG (by decide +kernel) rfl, in_lwG (by decide +kernel) rfl, by decide, by decide, by decide⟩
theorem k_X8_blanks {en : En} {Ex : (Nat → Prop) → State → Prop} {mi : Mi} {α : Type} {ev : α → Option Value × Sg} {pc index : Nat} {lv : List (Nat × Value)} {rest : List Value} {σ : Sg} {N : Nat} {k : (Sg) → Option α}  (hlink : Cond.methodLink mi.1 index yX8_blanks ∈ lwG) (hroom : 2 + 1 ≤ mi.2.2.2.2) (hcat : (rest.map fun v => v.category).sum ≤ 8) (hd : decode mi.2.1 pc = .ok (.invokevirtual index, 3))  (h : ∀ w : Sg, f_X8_blanks N  σ = some w → RR en Ex mi ev (pc + 3) lv (rest) w (k w)) : RR en Ex mi ev pc lv (.ref (ad en 21 0 0) :: rest) σ ((f_X8_blanks N  σ).bind k) :=
  r_callV (n := 0) [] ok_X8_blanks hlink (in_lwG (by decide +kernel) rfl) (in_lwG (by decide +kernel) rfl) (by decide +kernel) rfl hroom (by decide) o21 rfl rfl hcat (R_X8_blanks en N   σ) (Nat.le_of_ble_eq_true rfl) hd h
set_option maxHeartbeats 4000000 in
theorem R_X8_isCovered (en : En) (N : Nat) (p0 : Int32) (p1 : Int32) (p2 : Int32) (p3 : Int32) (p4 : Int32)  (σ : Sg) : RR en ExT mi_X8_isCovered evI 0 [(0, .ref (ad en 21 0 0)), (1, .int p0), (2, .int p1), (3, .int p2), (4, .int p3), (5, .int p4)] [] σ (f_X8_isCovered N p0 p1 p2 p3 p4 σ) := by
  unfold f_X8_isCovered
  refine r_iload (pc := 0) 5 dX8_isCovered_0 rfl ?_
  refine r_bipush (pc := 2) dX8_isCovered_2 kc_bipush_12 ?_
  refine r_irem (pc := 4) dX8_isCovered_4 (by decide) ?_
  refine r_iload_n (pc := 5) 3 dX8_isCovered_5 rfl rfl ?_
  refine r_isub (pc := 6) dX8_isCovered_6 ?_
  refine r_istore (pc := 7) [(6, .int ((p4 - p4 / (12 : Int32) * (12 : Int32)) - p2)), (0, .ref (ad en 21 0 0)), (1, .int p0), (2, .int p1), (3, .int p2), (4, .int p3), (5, .int p4)] dX8_isCovered_7 (by decide) rfl ?_
  refine r_iload (pc := 9) 6 dX8_isCovered_9 rfl ?_
  refine r_bipush (pc := 11) dX8_isCovered_11 kc_bipush_12 ?_
  refine r_idiv (pc := 13) dX8_isCovered_13 (by decide) ?_
  refine r_iload (pc := 14) 5 dX8_isCovered_14 rfl ?_
  refine r_isub (pc := 16) dX8_isCovered_16 ?_
  refine r_istore (pc := 17) [(7, .int ((p4 / (12 : Int32)) - p3)), (6, .int ((p4 - p4 / (12 : Int32) * (12 : Int32)) - p2)), (0, .ref (ad en 21 0 0)), (1, .int p0), (2, .int p1), (3, .int p2), (4, .int p3), (5, .int p4)] dX8_isCovered_17 (by decide) rfl ?_
  refine r_iload (pc := 19) 1 dX8_isCovered_19 rfl ?_
  refine r_iconst (pc := 21) dX8_isCovered_21 kc_iconst_0 ?_
  refine r_aload_n (pc := 22) 2 dX8_isCovered_22 rfl rfl ?_
  refine g_X8_wide (pc := 23)  lf_RX8_28 dX8_isCovered_23 ?_
  refine r_iload_n (pc := 26) 4 dX8_isCovered_26 rfl rfl ?_
  refine r_iald (pc := 27) (n := 7) o22_12 rfl dX8_isCovered_27 (fun h1 => ?_)
  refine r_iconst (pc := 28) dX8_isCovered_28 kc_iconst_1 ?_
  refine r_isub (pc := 29) dX8_isCovered_29 ?_
  refine k_X8_in (pc := 30) lm_RX8_91  (by decide) (Nat.le_of_ble_eq_true rfl) dX8_isCovered_30 (fun w1 h2 => ?_)
  refine r_if_eq (pc := 33) 53 dX8_isCovered_33 (by decide) (fun h3 => ?_) (fun h3 => ?_)
  · refine r_iconst (pc := 53) dX8_isCovered_53 kc_iconst_0 ?_
    exact r_zret (pc := 54) rfl rfl dX8_isCovered_54
  · refine r_iload (pc := 36) 0 dX8_isCovered_36 rfl ?_
    refine r_iconst (pc := 38) dX8_isCovered_38 kc_iconst_0 ?_
    refine r_aload_n (pc := 39) 2 dX8_isCovered_39 rfl rfl ?_
    refine g_X8_high (pc := 40)  lf_RX8_31 dX8_isCovered_40 ?_
    refine r_iload_n (pc := 43) 4 dX8_isCovered_43 rfl rfl ?_
    refine r_iald (pc := 44) (n := 7) o22_13 rfl dX8_isCovered_44 (fun h4 => ?_)
    refine r_iconst (pc := 45) dX8_isCovered_45 kc_iconst_1 ?_
    refine r_isub (pc := 46) dX8_isCovered_46 ?_
    refine k_X8_in (pc := 47) lm_RX8_91  (by decide) (Nat.le_of_ble_eq_true rfl) dX8_isCovered_47 (fun w2 h5 => ?_)
    refine r_if_ne (pc := 50) 55 dX8_isCovered_50 (by decide) (fun h6 => ?_) (fun h6 => ?_)
    · refine r_iconst (pc := 53) dX8_isCovered_53 kc_iconst_0 ?_
      exact r_zret (pc := 54) rfl rfl dX8_isCovered_54
    · refine r_iload (pc := 55) 1 dX8_isCovered_55 rfl ?_
      refine r_if_eq (pc := 57) 65 dX8_isCovered_57 (by decide) (fun h7 => ?_) (fun h7 => ?_)
      · refine r_iconst (pc := 65) dX8_isCovered_65 kc_iconst_1 ?_
        refine r_goto (pc := 66) 70 dX8_isCovered_66 (by decide) ?_
        refine r_istore (pc := 70) [(8, .int (1 : Int32)), (7, .int ((p4 / (12 : Int32)) - p3)), (6, .int ((p4 - p4 / (12 : Int32) * (12 : Int32)) - p2)), (0, .ref (ad en 21 0 0)), (1, .int p0), (2, .int p1), (3, .int p2), (4, .int p3), (5, .int p4)] dX8_isCovered_70 (by decide) rfl ?_
        refine r_iload (pc := 72) 0 dX8_isCovered_72 rfl ?_
        refine r_if_ne_f (pc := 74) 103 dX8_isCovered_74 (by decide) (by decide) ?_
        refine r_iconst (pc := 103) dX8_isCovered_103 kc_iconst_1 ?_
        refine r_goto (pc := 104) 108 dX8_isCovered_104 (by decide) ?_
        refine r_istore (pc := 108) [(9, .int (1 : Int32)), (8, .int (1 : Int32)), (7, .int ((p4 / (12 : Int32)) - p3)), (6, .int ((p4 - p4 / (12 : Int32) * (12 : Int32)) - p2)), (0, .ref (ad en 21 0 0)), (1, .int p0), (2, .int p1), (3, .int p2), (4, .int p3), (5, .int p4)] dX8_isCovered_108 (by decide) rfl ?_
        refine r_iload (pc := 110) 9 dX8_isCovered_110 rfl ?_
        refine r_bipush (pc := 112) dX8_isCovered_112 kc_bipush_12 ?_
        refine r_irem (pc := 114) dX8_isCovered_114 (by decide) ?_
        refine r_iload (pc := 115) 9 dX8_isCovered_115 rfl ?_
        refine r_bipush (pc := 117) dX8_isCovered_117 kc_bipush_12 ?_
        refine r_idiv (pc := 119) dX8_isCovered_119 (by decide) ?_
        refine r_iadd (pc := 120) dX8_isCovered_120 ?_
        refine r_iconst (pc := 121) dX8_isCovered_121 kc_iconst_2 ?_
        refine r_irem (pc := 122) dX8_isCovered_122 (by decide) ?_
        refine r_if_ne (pc := 123) 130 dX8_isCovered_123 (by decide) (fun h8 => ?_) (fun h8 => ?_)
        · refine r_iconst (pc := 126) dX8_isCovered_126 kc_iconst_1 ?_
          refine r_goto (pc := 127) 131 dX8_isCovered_127 (by decide) ?_
          refine r_istore (pc := 131) [(10, .int (1 : Int32)), (9, .int (1 : Int32)), (8, .int (1 : Int32)), (7, .int ((p4 / (12 : Int32)) - p3)), (6, .int ((p4 - p4 / (12 : Int32) * (12 : Int32)) - p2)), (0, .ref (ad en 21 0 0)), (1, .int p0), (2, .int p1), (3, .int p2), (4, .int p3), (5, .int p4)] dX8_isCovered_131 (by decide) rfl ?_
          refine r_iload_n (pc := 133) 6 dX8_isCovered_133 rfl rfl ?_
          refine r_iconst (pc := 134) dX8_isCovered_134 kc_iconst_1 ?_
          refine r_icmp_ne (pc := 135) 143 dX8_isCovered_135 (by decide) (fun h9 => ?_) (fun h9 => ?_)
          · refine r_iload (pc := 138) 1 dX8_isCovered_138 rfl ?_
            refine r_goto (pc := 140) 183 dX8_isCovered_140 (by decide) ?_
            exact r_zret (pc := 183) rfl rfl dX8_isCovered_183
          · refine r_iload_n (pc := 143) 6 dX8_isCovered_143 rfl rfl ?_
            refine r_iconst (pc := 144) dX8_isCovered_144 kc_iconst_2 ?_
            refine r_icmp_ne (pc := 145) 153 dX8_isCovered_145 (by decide) (fun h10 => ?_) (fun h10 => ?_)
            · refine r_iload (pc := 148) 0 dX8_isCovered_148 rfl ?_
              refine r_goto (pc := 150) 183 dX8_isCovered_150 (by decide) ?_
              exact r_zret (pc := 183) rfl rfl dX8_isCovered_183
            · refine r_iload_n (pc := 153) 6 dX8_isCovered_153 rfl rfl ?_
              refine r_iconst (pc := 154) dX8_isCovered_154 kc_iconst_4 ?_
              refine r_icmp_ne (pc := 155) 163 dX8_isCovered_155 (by decide) (fun h11 => ?_) (fun h11 => ?_)
              · refine r_iload (pc := 158) 2 dX8_isCovered_158 rfl ?_
                refine r_goto (pc := 160) 183 dX8_isCovered_160 (by decide) ?_
                exact r_zret (pc := 183) rfl rfl dX8_isCovered_183
              · refine r_iload_n (pc := 163) 6 dX8_isCovered_163 rfl rfl ?_
                refine r_iconst (pc := 164) dX8_isCovered_164 kc_iconst_5 ?_
                refine r_icmp_ne (pc := 165) 178 dX8_isCovered_165 (by decide) (fun h12 => ?_) (fun h12 => ?_)
                · refine r_iload (pc := 168) 0 dX8_isCovered_168 rfl ?_
                  refine r_if_eq_f (pc := 170) 182 dX8_isCovered_170 (by decide) (by decide) ?_
                  refine r_iload (pc := 173) 1 dX8_isCovered_173 rfl ?_
                  refine r_if_ne_f (pc := 175) 182 dX8_isCovered_175 (by decide) (by decide) ?_
                  refine r_iconst (pc := 182) dX8_isCovered_182 kc_iconst_0 ?_
                  exact r_zret (pc := 183) rfl rfl dX8_isCovered_183
                · refine r_iconst (pc := 178) dX8_isCovered_178 kc_iconst_1 ?_
                  refine r_goto (pc := 179) 183 dX8_isCovered_179 (by decide) ?_
                  exact r_zret (pc := 183) rfl rfl dX8_isCovered_183
        · refine r_iconst (pc := 130) dX8_isCovered_130 kc_iconst_0 ?_
          refine r_istore (pc := 131) [(10, .int (0 : Int32)), (9, .int (1 : Int32)), (8, .int (1 : Int32)), (7, .int ((p4 / (12 : Int32)) - p3)), (6, .int ((p4 - p4 / (12 : Int32) * (12 : Int32)) - p2)), (0, .ref (ad en 21 0 0)), (1, .int p0), (2, .int p1), (3, .int p2), (4, .int p3), (5, .int p4)] dX8_isCovered_131 (by decide) rfl ?_
          refine r_iload_n (pc := 133) 6 dX8_isCovered_133 rfl rfl ?_
          refine r_iconst (pc := 134) dX8_isCovered_134 kc_iconst_1 ?_
          refine r_icmp_ne (pc := 135) 143 dX8_isCovered_135 (by decide) (fun h13 => ?_) (fun h13 => ?_)
          · refine r_iload (pc := 138) 1 dX8_isCovered_138 rfl ?_
            refine r_goto (pc := 140) 183 dX8_isCovered_140 (by decide) ?_
            exact r_zret (pc := 183) rfl rfl dX8_isCovered_183
          · refine r_iload_n (pc := 143) 6 dX8_isCovered_143 rfl rfl ?_
            refine r_iconst (pc := 144) dX8_isCovered_144 kc_iconst_2 ?_
            refine r_icmp_ne (pc := 145) 153 dX8_isCovered_145 (by decide) (fun h14 => ?_) (fun h14 => ?_)
            · refine r_iload (pc := 148) 0 dX8_isCovered_148 rfl ?_
              refine r_goto (pc := 150) 183 dX8_isCovered_150 (by decide) ?_
              exact r_zret (pc := 183) rfl rfl dX8_isCovered_183
            · refine r_iload_n (pc := 153) 6 dX8_isCovered_153 rfl rfl ?_
              refine r_iconst (pc := 154) dX8_isCovered_154 kc_iconst_4 ?_
              refine r_icmp_ne (pc := 155) 163 dX8_isCovered_155 (by decide) (fun h15 => ?_) (fun h15 => ?_)
              · refine r_iload (pc := 158) 2 dX8_isCovered_158 rfl ?_
                refine r_goto (pc := 160) 183 dX8_isCovered_160 (by decide) ?_
                exact r_zret (pc := 183) rfl rfl dX8_isCovered_183
              · refine r_iload_n (pc := 163) 6 dX8_isCovered_163 rfl rfl ?_
                refine r_iconst (pc := 164) dX8_isCovered_164 kc_iconst_5 ?_
                refine r_icmp_ne (pc := 165) 178 dX8_isCovered_165 (by decide) (fun h16 => ?_) (fun h16 => ?_)
                · refine r_iload (pc := 168) 0 dX8_isCovered_168 rfl ?_
                  refine r_if_eq_t (pc := 170) 182 dX8_isCovered_170 (by decide) (by decide) ?_
                  refine r_iconst (pc := 182) dX8_isCovered_182 kc_iconst_0 ?_
                  exact r_zret (pc := 183) rfl rfl dX8_isCovered_183
                · refine r_iconst (pc := 178) dX8_isCovered_178 kc_iconst_1 ?_
                  refine r_goto (pc := 179) 183 dX8_isCovered_179 (by decide) ?_
                  exact r_zret (pc := 183) rfl rfl dX8_isCovered_183
      · refine r_iload (pc := 60) 0 dX8_isCovered_60 rfl ?_
        refine r_if_ne (pc := 62) 69 dX8_isCovered_62 (by decide) (fun h17 => ?_) (fun h17 => ?_)
        · refine r_iconst (pc := 65) dX8_isCovered_65 kc_iconst_1 ?_
          refine r_goto (pc := 66) 70 dX8_isCovered_66 (by decide) ?_
          refine r_istore (pc := 70) [(8, .int (1 : Int32)), (7, .int ((p4 / (12 : Int32)) - p3)), (6, .int ((p4 - p4 / (12 : Int32) * (12 : Int32)) - p2)), (0, .ref (ad en 21 0 0)), (1, .int p0), (2, .int p1), (3, .int p2), (4, .int p3), (5, .int p4)] dX8_isCovered_70 (by decide) rfl ?_
          refine r_iload (pc := 72) 0 dX8_isCovered_72 rfl ?_
          refine r_if_ne_f (pc := 74) 103 dX8_isCovered_74 (by decide) (by decide) ?_
          refine r_iconst (pc := 103) dX8_isCovered_103 kc_iconst_1 ?_
          refine r_goto (pc := 104) 108 dX8_isCovered_104 (by decide) ?_
          refine r_istore (pc := 108) [(9, .int (1 : Int32)), (8, .int (1 : Int32)), (7, .int ((p4 / (12 : Int32)) - p3)), (6, .int ((p4 - p4 / (12 : Int32) * (12 : Int32)) - p2)), (0, .ref (ad en 21 0 0)), (1, .int p0), (2, .int p1), (3, .int p2), (4, .int p3), (5, .int p4)] dX8_isCovered_108 (by decide) rfl ?_
          refine r_iload (pc := 110) 9 dX8_isCovered_110 rfl ?_
          refine r_bipush (pc := 112) dX8_isCovered_112 kc_bipush_12 ?_
          refine r_irem (pc := 114) dX8_isCovered_114 (by decide) ?_
          refine r_iload (pc := 115) 9 dX8_isCovered_115 rfl ?_
          refine r_bipush (pc := 117) dX8_isCovered_117 kc_bipush_12 ?_
          refine r_idiv (pc := 119) dX8_isCovered_119 (by decide) ?_
          refine r_iadd (pc := 120) dX8_isCovered_120 ?_
          refine r_iconst (pc := 121) dX8_isCovered_121 kc_iconst_2 ?_
          refine r_irem (pc := 122) dX8_isCovered_122 (by decide) ?_
          refine r_if_ne (pc := 123) 130 dX8_isCovered_123 (by decide) (fun h18 => ?_) (fun h18 => ?_)
          · refine r_iconst (pc := 126) dX8_isCovered_126 kc_iconst_1 ?_
            refine r_goto (pc := 127) 131 dX8_isCovered_127 (by decide) ?_
            refine r_istore (pc := 131) [(10, .int (1 : Int32)), (9, .int (1 : Int32)), (8, .int (1 : Int32)), (7, .int ((p4 / (12 : Int32)) - p3)), (6, .int ((p4 - p4 / (12 : Int32) * (12 : Int32)) - p2)), (0, .ref (ad en 21 0 0)), (1, .int p0), (2, .int p1), (3, .int p2), (4, .int p3), (5, .int p4)] dX8_isCovered_131 (by decide) rfl ?_
            refine r_iload_n (pc := 133) 6 dX8_isCovered_133 rfl rfl ?_
            refine r_iconst (pc := 134) dX8_isCovered_134 kc_iconst_1 ?_
            refine r_icmp_ne (pc := 135) 143 dX8_isCovered_135 (by decide) (fun h19 => ?_) (fun h19 => ?_)
            · refine r_iload (pc := 138) 1 dX8_isCovered_138 rfl ?_
              refine r_goto (pc := 140) 183 dX8_isCovered_140 (by decide) ?_
              exact r_zret (pc := 183) rfl rfl dX8_isCovered_183
            · refine r_iload_n (pc := 143) 6 dX8_isCovered_143 rfl rfl ?_
              refine r_iconst (pc := 144) dX8_isCovered_144 kc_iconst_2 ?_
              refine r_icmp_ne (pc := 145) 153 dX8_isCovered_145 (by decide) (fun h20 => ?_) (fun h20 => ?_)
              · refine r_iload (pc := 148) 0 dX8_isCovered_148 rfl ?_
                refine r_goto (pc := 150) 183 dX8_isCovered_150 (by decide) ?_
                exact r_zret (pc := 183) rfl rfl dX8_isCovered_183
              · refine r_iload_n (pc := 153) 6 dX8_isCovered_153 rfl rfl ?_
                refine r_iconst (pc := 154) dX8_isCovered_154 kc_iconst_4 ?_
                refine r_icmp_ne (pc := 155) 163 dX8_isCovered_155 (by decide) (fun h21 => ?_) (fun h21 => ?_)
                · refine r_iload (pc := 158) 2 dX8_isCovered_158 rfl ?_
                  refine r_goto (pc := 160) 183 dX8_isCovered_160 (by decide) ?_
                  exact r_zret (pc := 183) rfl rfl dX8_isCovered_183
                · refine r_iload_n (pc := 163) 6 dX8_isCovered_163 rfl rfl ?_
                  refine r_iconst (pc := 164) dX8_isCovered_164 kc_iconst_5 ?_
                  refine r_icmp_ne (pc := 165) 178 dX8_isCovered_165 (by decide) (fun h22 => ?_) (fun h22 => ?_)
                  · refine r_iload (pc := 168) 0 dX8_isCovered_168 rfl ?_
                    refine r_if_eq_f (pc := 170) 182 dX8_isCovered_170 (by decide) (by decide) ?_
                    refine r_iload (pc := 173) 1 dX8_isCovered_173 rfl ?_
                    refine r_if_ne_f (pc := 175) 182 dX8_isCovered_175 (by decide) (by decide) ?_
                    refine r_iconst (pc := 182) dX8_isCovered_182 kc_iconst_0 ?_
                    exact r_zret (pc := 183) rfl rfl dX8_isCovered_183
                  · refine r_iconst (pc := 178) dX8_isCovered_178 kc_iconst_1 ?_
                    refine r_goto (pc := 179) 183 dX8_isCovered_179 (by decide) ?_
                    exact r_zret (pc := 183) rfl rfl dX8_isCovered_183
          · refine r_iconst (pc := 130) dX8_isCovered_130 kc_iconst_0 ?_
            refine r_istore (pc := 131) [(10, .int (0 : Int32)), (9, .int (1 : Int32)), (8, .int (1 : Int32)), (7, .int ((p4 / (12 : Int32)) - p3)), (6, .int ((p4 - p4 / (12 : Int32) * (12 : Int32)) - p2)), (0, .ref (ad en 21 0 0)), (1, .int p0), (2, .int p1), (3, .int p2), (4, .int p3), (5, .int p4)] dX8_isCovered_131 (by decide) rfl ?_
            refine r_iload_n (pc := 133) 6 dX8_isCovered_133 rfl rfl ?_
            refine r_iconst (pc := 134) dX8_isCovered_134 kc_iconst_1 ?_
            refine r_icmp_ne (pc := 135) 143 dX8_isCovered_135 (by decide) (fun h23 => ?_) (fun h23 => ?_)
            · refine r_iload (pc := 138) 1 dX8_isCovered_138 rfl ?_
              refine r_goto (pc := 140) 183 dX8_isCovered_140 (by decide) ?_
              exact r_zret (pc := 183) rfl rfl dX8_isCovered_183
            · refine r_iload_n (pc := 143) 6 dX8_isCovered_143 rfl rfl ?_
              refine r_iconst (pc := 144) dX8_isCovered_144 kc_iconst_2 ?_
              refine r_icmp_ne (pc := 145) 153 dX8_isCovered_145 (by decide) (fun h24 => ?_) (fun h24 => ?_)
              · refine r_iload (pc := 148) 0 dX8_isCovered_148 rfl ?_
                refine r_goto (pc := 150) 183 dX8_isCovered_150 (by decide) ?_
                exact r_zret (pc := 183) rfl rfl dX8_isCovered_183
              · refine r_iload_n (pc := 153) 6 dX8_isCovered_153 rfl rfl ?_
                refine r_iconst (pc := 154) dX8_isCovered_154 kc_iconst_4 ?_
                refine r_icmp_ne (pc := 155) 163 dX8_isCovered_155 (by decide) (fun h25 => ?_) (fun h25 => ?_)
                · refine r_iload (pc := 158) 2 dX8_isCovered_158 rfl ?_
                  refine r_goto (pc := 160) 183 dX8_isCovered_160 (by decide) ?_
                  exact r_zret (pc := 183) rfl rfl dX8_isCovered_183
                · refine r_iload_n (pc := 163) 6 dX8_isCovered_163 rfl rfl ?_
                  refine r_iconst (pc := 164) dX8_isCovered_164 kc_iconst_5 ?_
                  refine r_icmp_ne (pc := 165) 178 dX8_isCovered_165 (by decide) (fun h26 => ?_) (fun h26 => ?_)
                  · refine r_iload (pc := 168) 0 dX8_isCovered_168 rfl ?_
                    refine r_if_eq_t (pc := 170) 182 dX8_isCovered_170 (by decide) (by decide) ?_
                    refine r_iconst (pc := 182) dX8_isCovered_182 kc_iconst_0 ?_
                    exact r_zret (pc := 183) rfl rfl dX8_isCovered_183
                  · refine r_iconst (pc := 178) dX8_isCovered_178 kc_iconst_1 ?_
                    refine r_goto (pc := 179) 183 dX8_isCovered_179 (by decide) ?_
                    exact r_zret (pc := 183) rfl rfl dX8_isCovered_183
        · refine r_iconst (pc := 69) dX8_isCovered_69 kc_iconst_0 ?_
          refine r_istore (pc := 70) [(8, .int (0 : Int32)), (7, .int ((p4 / (12 : Int32)) - p3)), (6, .int ((p4 - p4 / (12 : Int32) * (12 : Int32)) - p2)), (0, .ref (ad en 21 0 0)), (1, .int p0), (2, .int p1), (3, .int p2), (4, .int p3), (5, .int p4)] dX8_isCovered_70 (by decide) rfl ?_
          refine r_iload (pc := 72) 0 dX8_isCovered_72 rfl ?_
          refine r_if_ne_t (pc := 74) 103 dX8_isCovered_74 (by decide) (by decide) ?_
          refine r_iload (pc := 77) 2 dX8_isCovered_77 rfl ?_
          refine r_aload_n (pc := 79) 3 dX8_isCovered_79 rfl rfl ?_
          refine g_X8_wide (pc := 80)  lf_RX8_28 dX8_isCovered_80 ?_
          refine r_iload_n (pc := 83) 5 dX8_isCovered_83 rfl rfl ?_
          refine r_iald (pc := 84) (n := 7) o22_12 rfl dX8_isCovered_84 (fun h27 => ?_)
          refine r_iconst (pc := 85) dX8_isCovered_85 kc_iconst_1 ?_
          refine r_isub (pc := 86) dX8_isCovered_86 ?_
          refine r_icmp_eq (pc := 87) 103 dX8_isCovered_87 (by decide) (fun h28 => ?_) (fun h28 => ?_)
          · refine r_iconst (pc := 103) dX8_isCovered_103 kc_iconst_1 ?_
            refine r_goto (pc := 104) 108 dX8_isCovered_104 (by decide) ?_
            refine r_istore (pc := 108) [(9, .int (1 : Int32)), (8, .int (0 : Int32)), (7, .int ((p4 / (12 : Int32)) - p3)), (6, .int ((p4 - p4 / (12 : Int32) * (12 : Int32)) - p2)), (0, .ref (ad en 21 0 0)), (1, .int p0), (2, .int p1), (3, .int p2), (4, .int p3), (5, .int p4)] dX8_isCovered_108 (by decide) rfl ?_
            refine r_iload (pc := 110) 9 dX8_isCovered_110 rfl ?_
            refine r_bipush (pc := 112) dX8_isCovered_112 kc_bipush_12 ?_
            refine r_irem (pc := 114) dX8_isCovered_114 (by decide) ?_
            refine r_iload (pc := 115) 9 dX8_isCovered_115 rfl ?_
            refine r_bipush (pc := 117) dX8_isCovered_117 kc_bipush_12 ?_
            refine r_idiv (pc := 119) dX8_isCovered_119 (by decide) ?_
            refine r_iadd (pc := 120) dX8_isCovered_120 ?_
            refine r_iconst (pc := 121) dX8_isCovered_121 kc_iconst_2 ?_
            refine r_irem (pc := 122) dX8_isCovered_122 (by decide) ?_
            refine r_if_ne (pc := 123) 130 dX8_isCovered_123 (by decide) (fun h29 => ?_) (fun h29 => ?_)
            · refine r_iconst (pc := 126) dX8_isCovered_126 kc_iconst_1 ?_
              refine r_goto (pc := 127) 131 dX8_isCovered_127 (by decide) ?_
              refine r_istore (pc := 131) [(10, .int (1 : Int32)), (9, .int (1 : Int32)), (8, .int (0 : Int32)), (7, .int ((p4 / (12 : Int32)) - p3)), (6, .int ((p4 - p4 / (12 : Int32) * (12 : Int32)) - p2)), (0, .ref (ad en 21 0 0)), (1, .int p0), (2, .int p1), (3, .int p2), (4, .int p3), (5, .int p4)] dX8_isCovered_131 (by decide) rfl ?_
              refine r_iload_n (pc := 133) 6 dX8_isCovered_133 rfl rfl ?_
              refine r_iconst (pc := 134) dX8_isCovered_134 kc_iconst_1 ?_
              refine r_icmp_ne (pc := 135) 143 dX8_isCovered_135 (by decide) (fun h30 => ?_) (fun h30 => ?_)
              · refine r_iload (pc := 138) 1 dX8_isCovered_138 rfl ?_
                refine r_goto (pc := 140) 183 dX8_isCovered_140 (by decide) ?_
                exact r_zret (pc := 183) rfl rfl dX8_isCovered_183
              · refine r_iload_n (pc := 143) 6 dX8_isCovered_143 rfl rfl ?_
                refine r_iconst (pc := 144) dX8_isCovered_144 kc_iconst_2 ?_
                refine r_icmp_ne (pc := 145) 153 dX8_isCovered_145 (by decide) (fun h31 => ?_) (fun h31 => ?_)
                · refine r_iload (pc := 148) 0 dX8_isCovered_148 rfl ?_
                  refine r_goto (pc := 150) 183 dX8_isCovered_150 (by decide) ?_
                  exact r_zret (pc := 183) rfl rfl dX8_isCovered_183
                · refine r_iload_n (pc := 153) 6 dX8_isCovered_153 rfl rfl ?_
                  refine r_iconst (pc := 154) dX8_isCovered_154 kc_iconst_4 ?_
                  refine r_icmp_ne (pc := 155) 163 dX8_isCovered_155 (by decide) (fun h32 => ?_) (fun h32 => ?_)
                  · refine r_iload (pc := 158) 2 dX8_isCovered_158 rfl ?_
                    refine r_goto (pc := 160) 183 dX8_isCovered_160 (by decide) ?_
                    exact r_zret (pc := 183) rfl rfl dX8_isCovered_183
                  · refine r_iload_n (pc := 163) 6 dX8_isCovered_163 rfl rfl ?_
                    refine r_iconst (pc := 164) dX8_isCovered_164 kc_iconst_5 ?_
                    refine r_icmp_ne (pc := 165) 178 dX8_isCovered_165 (by decide) (fun h33 => ?_) (fun h33 => ?_)
                    · refine r_iload (pc := 168) 0 dX8_isCovered_168 rfl ?_
                      refine r_if_eq_f (pc := 170) 182 dX8_isCovered_170 (by decide) (by decide) ?_
                      refine r_iload (pc := 173) 1 dX8_isCovered_173 rfl ?_
                      refine r_if_ne_f (pc := 175) 182 dX8_isCovered_175 (by decide) (by decide) ?_
                      refine r_iconst (pc := 182) dX8_isCovered_182 kc_iconst_0 ?_
                      exact r_zret (pc := 183) rfl rfl dX8_isCovered_183
                    · refine r_iconst (pc := 178) dX8_isCovered_178 kc_iconst_1 ?_
                      refine r_goto (pc := 179) 183 dX8_isCovered_179 (by decide) ?_
                      exact r_zret (pc := 183) rfl rfl dX8_isCovered_183
            · refine r_iconst (pc := 130) dX8_isCovered_130 kc_iconst_0 ?_
              refine r_istore (pc := 131) [(10, .int (0 : Int32)), (9, .int (1 : Int32)), (8, .int (0 : Int32)), (7, .int ((p4 / (12 : Int32)) - p3)), (6, .int ((p4 - p4 / (12 : Int32) * (12 : Int32)) - p2)), (0, .ref (ad en 21 0 0)), (1, .int p0), (2, .int p1), (3, .int p2), (4, .int p3), (5, .int p4)] dX8_isCovered_131 (by decide) rfl ?_
              refine r_iload_n (pc := 133) 6 dX8_isCovered_133 rfl rfl ?_
              refine r_iconst (pc := 134) dX8_isCovered_134 kc_iconst_1 ?_
              refine r_icmp_ne (pc := 135) 143 dX8_isCovered_135 (by decide) (fun h34 => ?_) (fun h34 => ?_)
              · refine r_iload (pc := 138) 1 dX8_isCovered_138 rfl ?_
                refine r_goto (pc := 140) 183 dX8_isCovered_140 (by decide) ?_
                exact r_zret (pc := 183) rfl rfl dX8_isCovered_183
              · refine r_iload_n (pc := 143) 6 dX8_isCovered_143 rfl rfl ?_
                refine r_iconst (pc := 144) dX8_isCovered_144 kc_iconst_2 ?_
                refine r_icmp_ne (pc := 145) 153 dX8_isCovered_145 (by decide) (fun h35 => ?_) (fun h35 => ?_)
                · refine r_iload (pc := 148) 0 dX8_isCovered_148 rfl ?_
                  refine r_goto (pc := 150) 183 dX8_isCovered_150 (by decide) ?_
                  exact r_zret (pc := 183) rfl rfl dX8_isCovered_183
                · refine r_iload_n (pc := 153) 6 dX8_isCovered_153 rfl rfl ?_
                  refine r_iconst (pc := 154) dX8_isCovered_154 kc_iconst_4 ?_
                  refine r_icmp_ne (pc := 155) 163 dX8_isCovered_155 (by decide) (fun h36 => ?_) (fun h36 => ?_)
                  · refine r_iload (pc := 158) 2 dX8_isCovered_158 rfl ?_
                    refine r_goto (pc := 160) 183 dX8_isCovered_160 (by decide) ?_
                    exact r_zret (pc := 183) rfl rfl dX8_isCovered_183
                  · refine r_iload_n (pc := 163) 6 dX8_isCovered_163 rfl rfl ?_
                    refine r_iconst (pc := 164) dX8_isCovered_164 kc_iconst_5 ?_
                    refine r_icmp_ne (pc := 165) 178 dX8_isCovered_165 (by decide) (fun h37 => ?_) (fun h37 => ?_)
                    · refine r_iload (pc := 168) 0 dX8_isCovered_168 rfl ?_
                      refine r_if_eq_t (pc := 170) 182 dX8_isCovered_170 (by decide) (by decide) ?_
                      refine r_iconst (pc := 182) dX8_isCovered_182 kc_iconst_0 ?_
                      exact r_zret (pc := 183) rfl rfl dX8_isCovered_183
                    · refine r_iconst (pc := 178) dX8_isCovered_178 kc_iconst_1 ?_
                      refine r_goto (pc := 179) 183 dX8_isCovered_179 (by decide) ?_
                      exact r_zret (pc := 183) rfl rfl dX8_isCovered_183
          · refine r_iload (pc := 90) 1 dX8_isCovered_90 rfl ?_
            refine r_aload_n (pc := 92) 3 dX8_isCovered_92 rfl rfl ?_
            refine g_X8_high (pc := 93)  lf_RX8_31 dX8_isCovered_93 ?_
            refine r_iload_n (pc := 96) 5 dX8_isCovered_96 rfl rfl ?_
            refine r_iald (pc := 97) (n := 7) o22_13 rfl dX8_isCovered_97 (fun h38 => ?_)
            refine r_iconst (pc := 98) dX8_isCovered_98 kc_iconst_1 ?_
            refine r_isub (pc := 99) dX8_isCovered_99 ?_
            refine r_icmp_ne (pc := 100) 107 dX8_isCovered_100 (by decide) (fun h39 => ?_) (fun h39 => ?_)
            · refine r_iconst (pc := 103) dX8_isCovered_103 kc_iconst_1 ?_
              refine r_goto (pc := 104) 108 dX8_isCovered_104 (by decide) ?_
              refine r_istore (pc := 108) [(9, .int (1 : Int32)), (8, .int (0 : Int32)), (7, .int ((p4 / (12 : Int32)) - p3)), (6, .int ((p4 - p4 / (12 : Int32) * (12 : Int32)) - p2)), (0, .ref (ad en 21 0 0)), (1, .int p0), (2, .int p1), (3, .int p2), (4, .int p3), (5, .int p4)] dX8_isCovered_108 (by decide) rfl ?_
              refine r_iload (pc := 110) 9 dX8_isCovered_110 rfl ?_
              refine r_bipush (pc := 112) dX8_isCovered_112 kc_bipush_12 ?_
              refine r_irem (pc := 114) dX8_isCovered_114 (by decide) ?_
              refine r_iload (pc := 115) 9 dX8_isCovered_115 rfl ?_
              refine r_bipush (pc := 117) dX8_isCovered_117 kc_bipush_12 ?_
              refine r_idiv (pc := 119) dX8_isCovered_119 (by decide) ?_
              refine r_iadd (pc := 120) dX8_isCovered_120 ?_
              refine r_iconst (pc := 121) dX8_isCovered_121 kc_iconst_2 ?_
              refine r_irem (pc := 122) dX8_isCovered_122 (by decide) ?_
              refine r_if_ne (pc := 123) 130 dX8_isCovered_123 (by decide) (fun h40 => ?_) (fun h40 => ?_)
              · refine r_iconst (pc := 126) dX8_isCovered_126 kc_iconst_1 ?_
                refine r_goto (pc := 127) 131 dX8_isCovered_127 (by decide) ?_
                refine r_istore (pc := 131) [(10, .int (1 : Int32)), (9, .int (1 : Int32)), (8, .int (0 : Int32)), (7, .int ((p4 / (12 : Int32)) - p3)), (6, .int ((p4 - p4 / (12 : Int32) * (12 : Int32)) - p2)), (0, .ref (ad en 21 0 0)), (1, .int p0), (2, .int p1), (3, .int p2), (4, .int p3), (5, .int p4)] dX8_isCovered_131 (by decide) rfl ?_
                refine r_iload_n (pc := 133) 6 dX8_isCovered_133 rfl rfl ?_
                refine r_iconst (pc := 134) dX8_isCovered_134 kc_iconst_1 ?_
                refine r_icmp_ne (pc := 135) 143 dX8_isCovered_135 (by decide) (fun h41 => ?_) (fun h41 => ?_)
                · refine r_iload (pc := 138) 1 dX8_isCovered_138 rfl ?_
                  refine r_goto (pc := 140) 183 dX8_isCovered_140 (by decide) ?_
                  exact r_zret (pc := 183) rfl rfl dX8_isCovered_183
                · refine r_iload_n (pc := 143) 6 dX8_isCovered_143 rfl rfl ?_
                  refine r_iconst (pc := 144) dX8_isCovered_144 kc_iconst_2 ?_
                  refine r_icmp_ne (pc := 145) 153 dX8_isCovered_145 (by decide) (fun h42 => ?_) (fun h42 => ?_)
                  · refine r_iload (pc := 148) 0 dX8_isCovered_148 rfl ?_
                    refine r_goto (pc := 150) 183 dX8_isCovered_150 (by decide) ?_
                    exact r_zret (pc := 183) rfl rfl dX8_isCovered_183
                  · refine r_iload_n (pc := 153) 6 dX8_isCovered_153 rfl rfl ?_
                    refine r_iconst (pc := 154) dX8_isCovered_154 kc_iconst_4 ?_
                    refine r_icmp_ne (pc := 155) 163 dX8_isCovered_155 (by decide) (fun h43 => ?_) (fun h43 => ?_)
                    · refine r_iload (pc := 158) 2 dX8_isCovered_158 rfl ?_
                      refine r_goto (pc := 160) 183 dX8_isCovered_160 (by decide) ?_
                      exact r_zret (pc := 183) rfl rfl dX8_isCovered_183
                    · refine r_iload_n (pc := 163) 6 dX8_isCovered_163 rfl rfl ?_
                      refine r_iconst (pc := 164) dX8_isCovered_164 kc_iconst_5 ?_
                      refine r_icmp_ne (pc := 165) 178 dX8_isCovered_165 (by decide) (fun h44 => ?_) (fun h44 => ?_)
                      · refine r_iload (pc := 168) 0 dX8_isCovered_168 rfl ?_
                        refine r_if_eq_f (pc := 170) 182 dX8_isCovered_170 (by decide) (by decide) ?_
                        refine r_iload (pc := 173) 1 dX8_isCovered_173 rfl ?_
                        refine r_if_ne_f (pc := 175) 182 dX8_isCovered_175 (by decide) (by decide) ?_
                        refine r_iconst (pc := 182) dX8_isCovered_182 kc_iconst_0 ?_
                        exact r_zret (pc := 183) rfl rfl dX8_isCovered_183
                      · refine r_iconst (pc := 178) dX8_isCovered_178 kc_iconst_1 ?_
                        refine r_goto (pc := 179) 183 dX8_isCovered_179 (by decide) ?_
                        exact r_zret (pc := 183) rfl rfl dX8_isCovered_183
              · refine r_iconst (pc := 130) dX8_isCovered_130 kc_iconst_0 ?_
                refine r_istore (pc := 131) [(10, .int (0 : Int32)), (9, .int (1 : Int32)), (8, .int (0 : Int32)), (7, .int ((p4 / (12 : Int32)) - p3)), (6, .int ((p4 - p4 / (12 : Int32) * (12 : Int32)) - p2)), (0, .ref (ad en 21 0 0)), (1, .int p0), (2, .int p1), (3, .int p2), (4, .int p3), (5, .int p4)] dX8_isCovered_131 (by decide) rfl ?_
                refine r_iload_n (pc := 133) 6 dX8_isCovered_133 rfl rfl ?_
                refine r_iconst (pc := 134) dX8_isCovered_134 kc_iconst_1 ?_
                refine r_icmp_ne (pc := 135) 143 dX8_isCovered_135 (by decide) (fun h45 => ?_) (fun h45 => ?_)
                · refine r_iload (pc := 138) 1 dX8_isCovered_138 rfl ?_
                  refine r_goto (pc := 140) 183 dX8_isCovered_140 (by decide) ?_
                  exact r_zret (pc := 183) rfl rfl dX8_isCovered_183
                · refine r_iload_n (pc := 143) 6 dX8_isCovered_143 rfl rfl ?_
                  refine r_iconst (pc := 144) dX8_isCovered_144 kc_iconst_2 ?_
                  refine r_icmp_ne (pc := 145) 153 dX8_isCovered_145 (by decide) (fun h46 => ?_) (fun h46 => ?_)
                  · refine r_iload (pc := 148) 0 dX8_isCovered_148 rfl ?_
                    refine r_goto (pc := 150) 183 dX8_isCovered_150 (by decide) ?_
                    exact r_zret (pc := 183) rfl rfl dX8_isCovered_183
                  · refine r_iload_n (pc := 153) 6 dX8_isCovered_153 rfl rfl ?_
                    refine r_iconst (pc := 154) dX8_isCovered_154 kc_iconst_4 ?_
                    refine r_icmp_ne (pc := 155) 163 dX8_isCovered_155 (by decide) (fun h47 => ?_) (fun h47 => ?_)
                    · refine r_iload (pc := 158) 2 dX8_isCovered_158 rfl ?_
                      refine r_goto (pc := 160) 183 dX8_isCovered_160 (by decide) ?_
                      exact r_zret (pc := 183) rfl rfl dX8_isCovered_183
                    · refine r_iload_n (pc := 163) 6 dX8_isCovered_163 rfl rfl ?_
                      refine r_iconst (pc := 164) dX8_isCovered_164 kc_iconst_5 ?_
                      refine r_icmp_ne (pc := 165) 178 dX8_isCovered_165 (by decide) (fun h48 => ?_) (fun h48 => ?_)
                      · refine r_iload (pc := 168) 0 dX8_isCovered_168 rfl ?_
                        refine r_if_eq_t (pc := 170) 182 dX8_isCovered_170 (by decide) (by decide) ?_
                        refine r_iconst (pc := 182) dX8_isCovered_182 kc_iconst_0 ?_
                        exact r_zret (pc := 183) rfl rfl dX8_isCovered_183
                      · refine r_iconst (pc := 178) dX8_isCovered_178 kc_iconst_1 ?_
                        refine r_goto (pc := 179) 183 dX8_isCovered_179 (by decide) ?_
                        exact r_zret (pc := 183) rfl rfl dX8_isCovered_183
            · refine r_iconst (pc := 107) dX8_isCovered_107 kc_iconst_0 ?_
              refine r_istore (pc := 108) [(9, .int (0 : Int32)), (8, .int (0 : Int32)), (7, .int ((p4 / (12 : Int32)) - p3)), (6, .int ((p4 - p4 / (12 : Int32) * (12 : Int32)) - p2)), (0, .ref (ad en 21 0 0)), (1, .int p0), (2, .int p1), (3, .int p2), (4, .int p3), (5, .int p4)] dX8_isCovered_108 (by decide) rfl ?_
              refine r_iload (pc := 110) 9 dX8_isCovered_110 rfl ?_
              refine r_bipush (pc := 112) dX8_isCovered_112 kc_bipush_12 ?_
              refine r_irem (pc := 114) dX8_isCovered_114 (by decide) ?_
              refine r_iload (pc := 115) 9 dX8_isCovered_115 rfl ?_
              refine r_bipush (pc := 117) dX8_isCovered_117 kc_bipush_12 ?_
              refine r_idiv (pc := 119) dX8_isCovered_119 (by decide) ?_
              refine r_iadd (pc := 120) dX8_isCovered_120 ?_
              refine r_iconst (pc := 121) dX8_isCovered_121 kc_iconst_2 ?_
              refine r_irem (pc := 122) dX8_isCovered_122 (by decide) ?_
              refine r_if_ne (pc := 123) 130 dX8_isCovered_123 (by decide) (fun h49 => ?_) (fun h49 => ?_)
              · refine r_iconst (pc := 126) dX8_isCovered_126 kc_iconst_1 ?_
                refine r_goto (pc := 127) 131 dX8_isCovered_127 (by decide) ?_
                refine r_istore (pc := 131) [(10, .int (1 : Int32)), (9, .int (0 : Int32)), (8, .int (0 : Int32)), (7, .int ((p4 / (12 : Int32)) - p3)), (6, .int ((p4 - p4 / (12 : Int32) * (12 : Int32)) - p2)), (0, .ref (ad en 21 0 0)), (1, .int p0), (2, .int p1), (3, .int p2), (4, .int p3), (5, .int p4)] dX8_isCovered_131 (by decide) rfl ?_
                refine r_iload_n (pc := 133) 6 dX8_isCovered_133 rfl rfl ?_
                refine r_iconst (pc := 134) dX8_isCovered_134 kc_iconst_1 ?_
                refine r_icmp_ne (pc := 135) 143 dX8_isCovered_135 (by decide) (fun h50 => ?_) (fun h50 => ?_)
                · refine r_iload (pc := 138) 1 dX8_isCovered_138 rfl ?_
                  refine r_goto (pc := 140) 183 dX8_isCovered_140 (by decide) ?_
                  exact r_zret (pc := 183) rfl rfl dX8_isCovered_183
                · refine r_iload_n (pc := 143) 6 dX8_isCovered_143 rfl rfl ?_
                  refine r_iconst (pc := 144) dX8_isCovered_144 kc_iconst_2 ?_
                  refine r_icmp_ne (pc := 145) 153 dX8_isCovered_145 (by decide) (fun h51 => ?_) (fun h51 => ?_)
                  · refine r_iload (pc := 148) 0 dX8_isCovered_148 rfl ?_
                    refine r_goto (pc := 150) 183 dX8_isCovered_150 (by decide) ?_
                    exact r_zret (pc := 183) rfl rfl dX8_isCovered_183
                  · refine r_iload_n (pc := 153) 6 dX8_isCovered_153 rfl rfl ?_
                    refine r_iconst (pc := 154) dX8_isCovered_154 kc_iconst_4 ?_
                    refine r_icmp_ne (pc := 155) 163 dX8_isCovered_155 (by decide) (fun h52 => ?_) (fun h52 => ?_)
                    · refine r_iload (pc := 158) 2 dX8_isCovered_158 rfl ?_
                      refine r_goto (pc := 160) 183 dX8_isCovered_160 (by decide) ?_
                      exact r_zret (pc := 183) rfl rfl dX8_isCovered_183
                    · refine r_iload_n (pc := 163) 6 dX8_isCovered_163 rfl rfl ?_
                      refine r_iconst (pc := 164) dX8_isCovered_164 kc_iconst_5 ?_
                      refine r_icmp_ne (pc := 165) 178 dX8_isCovered_165 (by decide) (fun h53 => ?_) (fun h53 => ?_)
                      · refine r_iload (pc := 168) 0 dX8_isCovered_168 rfl ?_
                        refine r_if_eq_f (pc := 170) 182 dX8_isCovered_170 (by decide) (by decide) ?_
                        refine r_iload (pc := 173) 1 dX8_isCovered_173 rfl ?_
                        refine r_if_ne_t (pc := 175) 182 dX8_isCovered_175 (by decide) (by decide) ?_
                        refine r_iconst (pc := 178) dX8_isCovered_178 kc_iconst_1 ?_
                        refine r_goto (pc := 179) 183 dX8_isCovered_179 (by decide) ?_
                        exact r_zret (pc := 183) rfl rfl dX8_isCovered_183
                      · refine r_iconst (pc := 178) dX8_isCovered_178 kc_iconst_1 ?_
                        refine r_goto (pc := 179) 183 dX8_isCovered_179 (by decide) ?_
                        exact r_zret (pc := 183) rfl rfl dX8_isCovered_183
              · refine r_iconst (pc := 130) dX8_isCovered_130 kc_iconst_0 ?_
                refine r_istore (pc := 131) [(10, .int (0 : Int32)), (9, .int (0 : Int32)), (8, .int (0 : Int32)), (7, .int ((p4 / (12 : Int32)) - p3)), (6, .int ((p4 - p4 / (12 : Int32) * (12 : Int32)) - p2)), (0, .ref (ad en 21 0 0)), (1, .int p0), (2, .int p1), (3, .int p2), (4, .int p3), (5, .int p4)] dX8_isCovered_131 (by decide) rfl ?_
                refine r_iload_n (pc := 133) 6 dX8_isCovered_133 rfl rfl ?_
                refine r_iconst (pc := 134) dX8_isCovered_134 kc_iconst_1 ?_
                refine r_icmp_ne (pc := 135) 143 dX8_isCovered_135 (by decide) (fun h54 => ?_) (fun h54 => ?_)
                · refine r_iload (pc := 138) 1 dX8_isCovered_138 rfl ?_
                  refine r_goto (pc := 140) 183 dX8_isCovered_140 (by decide) ?_
                  exact r_zret (pc := 183) rfl rfl dX8_isCovered_183
                · refine r_iload_n (pc := 143) 6 dX8_isCovered_143 rfl rfl ?_
                  refine r_iconst (pc := 144) dX8_isCovered_144 kc_iconst_2 ?_
                  refine r_icmp_ne (pc := 145) 153 dX8_isCovered_145 (by decide) (fun h55 => ?_) (fun h55 => ?_)
                  · refine r_iload (pc := 148) 0 dX8_isCovered_148 rfl ?_
                    refine r_goto (pc := 150) 183 dX8_isCovered_150 (by decide) ?_
                    exact r_zret (pc := 183) rfl rfl dX8_isCovered_183
                  · refine r_iload_n (pc := 153) 6 dX8_isCovered_153 rfl rfl ?_
                    refine r_iconst (pc := 154) dX8_isCovered_154 kc_iconst_4 ?_
                    refine r_icmp_ne (pc := 155) 163 dX8_isCovered_155 (by decide) (fun h56 => ?_) (fun h56 => ?_)
                    · refine r_iload (pc := 158) 2 dX8_isCovered_158 rfl ?_
                      refine r_goto (pc := 160) 183 dX8_isCovered_160 (by decide) ?_
                      exact r_zret (pc := 183) rfl rfl dX8_isCovered_183
                    · refine r_iload_n (pc := 163) 6 dX8_isCovered_163 rfl rfl ?_
                      refine r_iconst (pc := 164) dX8_isCovered_164 kc_iconst_5 ?_
                      refine r_icmp_ne (pc := 165) 178 dX8_isCovered_165 (by decide) (fun h57 => ?_) (fun h57 => ?_)
                      · refine r_iload (pc := 168) 0 dX8_isCovered_168 rfl ?_
                        refine r_if_eq_t (pc := 170) 182 dX8_isCovered_170 (by decide) (by decide) ?_
                        refine r_iconst (pc := 182) dX8_isCovered_182 kc_iconst_0 ?_
                        exact r_zret (pc := 183) rfl rfl dX8_isCovered_183
                      · refine r_iconst (pc := 178) dX8_isCovered_178 kc_iconst_1 ?_
                        refine r_goto (pc := 179) 183 dX8_isCovered_179 (by decide) ?_
                        exact r_zret (pc := 183) rfl rfl dX8_isCovered_183
theorem ok_X8_isCovered : yOk yX8_isCovered cX8_isCovered 11 (some .boolean) := ⟨in_lwG (by decide +kernel) rfl, in_lwG (by decide +kernel) rfl, by decide, by decide, by decide⟩
theorem k_X8_isCovered {en : En} {Ex : (Nat → Prop) → State → Prop} {mi : Mi} {α : Type} {ev : α → Option Value × Sg} {pc index : Nat} {lv : List (Nat × Value)} {rest : List Value} {σ : Sg} {N : Nat} {k : (Int32 × Sg) → Option α} {p0 : Int32} {p1 : Int32} {p2 : Int32} {p3 : Int32} {p4 : Int32} (hlink : Cond.methodLink mi.1 index yX8_isCovered ∈ lwG) (hroom : 2 + 1 ≤ mi.2.2.2.2) (hcat : (rest.map fun v => v.category).sum ≤ 8) (hd : decode mi.2.1 pc = .ok (.invokevirtual index, 3))  (h : ∀ w : Int32 × Sg, f_X8_isCovered N p0 p1 p2 p3 p4 σ = some w → RR en Ex mi ev (pc + 3) lv (.int w.1 :: rest) w.2 (k w)) : RR en Ex mi ev pc lv (.int p4 :: .int p3 :: .int p2 :: .int p1 :: .int p0 :: .ref (ad en 21 0 0) :: rest) σ ((f_X8_isCovered N p0 p1 p2 p3 p4 σ).bind k) :=
  r_callV (n := 5) [.int p0, .int p1, .int p2, .int p3, .int p4] ok_X8_isCovered hlink (in_lwG (by decide +kernel) rfl) (in_lwG (by decide +kernel) rfl) (by decide +kernel) rfl hroom (by decide) o21 rfl rfl hcat (R_X8_isCovered en N p0 p1 p2 p3 p4  σ) (Nat.le_of_ble_eq_true rfl) hd h
set_option maxHeartbeats 4000000 in
theorem RL_X8_covering_8 (en : En) (N : Nat) {k : Int64 → Int64 → Int32 → Sg → Option (Sg)} (a1 : Int32)  (hk : ∀ (v2 : Int64) (v4 : Int64) (v6 : Int32) (σ : Sg), RR en ExT mi_X8_covering evV 114 [(0, .ref (ad en 21 0 0)), (1, .int a1), (2, .long v2), (4, .long v4)] [] σ (k v2 v4 v6 σ)) : ∀ (n : Nat) (v2 : Int64) (v4 : Int64) (v6 : Int32) (σ : Sg), RR en ExT mi_X8_covering evV 8 [(0, .ref (ad en 21 0 0)), (1, .int a1), (2, .long v2), (4, .long v4), (6, .int v6)] [] σ (L_X8_covering_8 N k a1 n v2 v4 v6 σ) := by
  intro n
  induction n with
  | zero => intro v2 v4 v6 σ; exact r_none
  | succ n ih =>
    intro v2 v4 v6 σ
    rw [L_X8_covering_8_s]
    refine r_iload (pc := 8) 4 dX8_covering_8 rfl ?_
    refine r_bipush (pc := 10) dX8_covering_10 kc_bipush_48 ?_
    refine r_icmp_ge (pc := 12) 114 dX8_covering_12 (by decide) (fun h1 => ?_) (fun h1 => ?_)
    · exact r_sub [0, 1, 2, 3] rfl (hk v2 v4 v6 σ)
    · refine r_lload_n (pc := 15) 2 dX8_covering_15 rfl rfl ?_
      refine r_aload_n (pc := 16) 0 dX8_covering_16 rfl rfl ?_
      refine r_aload_n (pc := 17) 0 dX8_covering_17 rfl rfl ?_
      refine g_X8_kindIf (pc := 18)  lf_RX8_49 dX8_covering_18 ?_
      refine r_iload_n (pc := 21) 1 dX8_covering_21 rfl rfl ?_
      refine r_iald (pc := 22) (n := 7) o22_20 rfl dX8_covering_22 (fun h2 => ?_)
      refine r_iload_n (pc := 23) 1 dX8_covering_23 rfl rfl ?_
      refine r_aload_n (pc := 24) 0 dX8_covering_24 rfl rfl ?_
      refine g_X8_w (pc := 25)  lf_RX8_52 dX8_covering_25 ?_
      refine r_iconst (pc := 28) dX8_covering_28 kc_iconst_0 ?_
      refine r_iload_n (pc := 29) 1 dX8_covering_29 rfl rfl ?_
      refine r_iadd (pc := 30) dX8_covering_30 ?_
      refine r_iald (pc := 31) (n := 22) o22_21 rfl dX8_covering_31 (fun h3 => ?_)
      refine r_aload_n (pc := 32) 0 dX8_covering_32 rfl rfl ?_
      refine g_X8_w (pc := 33)  lf_RX8_52 dX8_covering_33 ?_
      refine r_bipush (pc := 36) dX8_covering_36 kc_bipush_7 ?_
      refine r_iload_n (pc := 38) 1 dX8_covering_38 rfl rfl ?_
      refine r_iadd (pc := 39) dX8_covering_39 ?_
      refine r_iald (pc := 40) (n := 22) o22_21 rfl dX8_covering_40 (fun h4 => ?_)
      refine r_iload (pc := 41) 4 dX8_covering_41 rfl ?_
      refine k_X8_isCovered (pc := 43) lm_RX8_149  (by decide) (Nat.le_of_ble_eq_true rfl) dX8_covering_43 (fun w1 h5 => ?_)
      refine r_if_eq (pc := 46) 56 dX8_covering_46 (by decide) (fun h6 => ?_) (fun h6 => ?_)
      · refine r_lconst (pc := 56) (v := 0) dX8_covering_56 rfl ?_
        refine r_lor (pc := 57) dX8_covering_57 ?_
        refine r_lstore_n (pc := 58) [(2, .long (v2 ||| (0 : Int64))), (0, .ref (ad en 21 0 0)), (1, .int a1), (4, .long v4), (6, .int v6)] dX8_covering_58 rfl (by decide) rfl ?_
        refine r_lload (pc := 59) 3 dX8_covering_59 rfl ?_
        refine r_aload_n (pc := 61) 1 dX8_covering_61 rfl rfl ?_
        refine r_aload_n (pc := 62) 1 dX8_covering_62 rfl rfl ?_
        refine g_X8_kindIf (pc := 63)  lf_RX8_49 dX8_covering_63 ?_
        refine r_iload_n (pc := 66) 2 dX8_covering_66 rfl rfl ?_
        refine r_iald (pc := 67) (n := 7) o22_20 rfl dX8_covering_67 (fun h7 => ?_)
        refine r_iload_n (pc := 68) 2 dX8_covering_68 rfl rfl ?_
        refine r_aload_n (pc := 69) 1 dX8_covering_69 rfl rfl ?_
        refine g_X8_w (pc := 70)  lf_RX8_52 dX8_covering_70 ?_
        refine r_iconst (pc := 73) dX8_covering_73 kc_iconst_0 ?_
        refine r_iload_n (pc := 74) 2 dX8_covering_74 rfl rfl ?_
        refine r_iadd (pc := 75) dX8_covering_75 ?_
        refine r_iald (pc := 76) (n := 22) o22_21 rfl dX8_covering_76 (fun h8 => ?_)
        refine r_aload_n (pc := 77) 1 dX8_covering_77 rfl rfl ?_
        refine g_X8_w (pc := 78)  lf_RX8_52 dX8_covering_78 ?_
        refine r_bipush (pc := 81) dX8_covering_81 kc_bipush_7 ?_
        refine r_iload_n (pc := 83) 2 dX8_covering_83 rfl rfl ?_
        refine r_iadd (pc := 84) dX8_covering_84 ?_
        refine r_iald (pc := 85) (n := 22) o22_21 rfl dX8_covering_85 (fun h9 => ?_)
        refine r_bipush (pc := 86) dX8_covering_86 kc_bipush_48 ?_
        refine r_iload (pc := 88) 4 dX8_covering_88 rfl ?_
        refine r_iadd (pc := 90) dX8_covering_90 ?_
        refine k_X8_isCovered (pc := 91) lm_RX8_149  (by decide) (Nat.le_of_ble_eq_true rfl) dX8_covering_91 (fun w2 h10 => ?_)
        refine r_if_eq (pc := 94) 104 dX8_covering_94 (by decide) (fun h11 => ?_) (fun h11 => ?_)
        · refine r_lconst (pc := 104) (v := 0) dX8_covering_104 rfl ?_
          refine r_lor (pc := 105) dX8_covering_105 ?_
          refine r_lstore (pc := 106) [(4, .long (v4 ||| (0 : Int64))), (2, .long (v2 ||| (0 : Int64))), (0, .ref (ad en 21 0 0)), (1, .int a1), (6, .int v6)] dX8_covering_106 (by decide) rfl ?_
          refine r_iinc (pc := 108) 4 [(6, .int (v6 + (1 : Int32))), (4, .long (v4 ||| (0 : Int64))), (2, .long (v2 ||| (0 : Int64))), (0, .ref (ad en 21 0 0)), (1, .int a1)] dX8_covering_108 rfl rfl (by decide) rfl ?_
          refine r_goto (pc := 111) 8 dX8_covering_111 (by decide) ?_
          exact r_sub [3, 4, 2, 1, 0] rfl (ih (v2 ||| (0 : Int64)) (v4 ||| (0 : Int64)) (v6 + (1 : Int32)) w2.2)
        · refine r_lconst (pc := 97) (v := 1) dX8_covering_97 rfl ?_
          refine r_iload (pc := 98) 4 dX8_covering_98 rfl ?_
          refine r_lshl (pc := 100) dX8_covering_100 ?_
          refine r_goto (pc := 101) 105 dX8_covering_101 (by decide) ?_
          refine r_lor (pc := 105) dX8_covering_105 ?_
          refine r_lstore (pc := 106) [(4, .long (v4 ||| ((1 : Int64) <<< (v6.toInt64 &&& 63)))), (2, .long (v2 ||| (0 : Int64))), (0, .ref (ad en 21 0 0)), (1, .int a1), (6, .int v6)] dX8_covering_106 (by decide) rfl ?_
          refine r_iinc (pc := 108) 4 [(6, .int (v6 + (1 : Int32))), (4, .long (v4 ||| ((1 : Int64) <<< (v6.toInt64 &&& 63)))), (2, .long (v2 ||| (0 : Int64))), (0, .ref (ad en 21 0 0)), (1, .int a1)] dX8_covering_108 rfl rfl (by decide) rfl ?_
          refine r_goto (pc := 111) 8 dX8_covering_111 (by decide) ?_
          exact r_sub [3, 4, 2, 1, 0] rfl (ih (v2 ||| (0 : Int64)) (v4 ||| ((1 : Int64) <<< (v6.toInt64 &&& 63))) (v6 + (1 : Int32)) w2.2)
      · refine r_lconst (pc := 49) (v := 1) dX8_covering_49 rfl ?_
        refine r_iload (pc := 50) 4 dX8_covering_50 rfl ?_
        refine r_lshl (pc := 52) dX8_covering_52 ?_
        refine r_goto (pc := 53) 57 dX8_covering_53 (by decide) ?_
        refine r_lor (pc := 57) dX8_covering_57 ?_
        refine r_lstore_n (pc := 58) [(2, .long (v2 ||| ((1 : Int64) <<< (v6.toInt64 &&& 63)))), (0, .ref (ad en 21 0 0)), (1, .int a1), (4, .long v4), (6, .int v6)] dX8_covering_58 rfl (by decide) rfl ?_
        refine r_lload (pc := 59) 3 dX8_covering_59 rfl ?_
        refine r_aload_n (pc := 61) 1 dX8_covering_61 rfl rfl ?_
        refine r_aload_n (pc := 62) 1 dX8_covering_62 rfl rfl ?_
        refine g_X8_kindIf (pc := 63)  lf_RX8_49 dX8_covering_63 ?_
        refine r_iload_n (pc := 66) 2 dX8_covering_66 rfl rfl ?_
        refine r_iald (pc := 67) (n := 7) o22_20 rfl dX8_covering_67 (fun h12 => ?_)
        refine r_iload_n (pc := 68) 2 dX8_covering_68 rfl rfl ?_
        refine r_aload_n (pc := 69) 1 dX8_covering_69 rfl rfl ?_
        refine g_X8_w (pc := 70)  lf_RX8_52 dX8_covering_70 ?_
        refine r_iconst (pc := 73) dX8_covering_73 kc_iconst_0 ?_
        refine r_iload_n (pc := 74) 2 dX8_covering_74 rfl rfl ?_
        refine r_iadd (pc := 75) dX8_covering_75 ?_
        refine r_iald (pc := 76) (n := 22) o22_21 rfl dX8_covering_76 (fun h13 => ?_)
        refine r_aload_n (pc := 77) 1 dX8_covering_77 rfl rfl ?_
        refine g_X8_w (pc := 78)  lf_RX8_52 dX8_covering_78 ?_
        refine r_bipush (pc := 81) dX8_covering_81 kc_bipush_7 ?_
        refine r_iload_n (pc := 83) 2 dX8_covering_83 rfl rfl ?_
        refine r_iadd (pc := 84) dX8_covering_84 ?_
        refine r_iald (pc := 85) (n := 22) o22_21 rfl dX8_covering_85 (fun h14 => ?_)
        refine r_bipush (pc := 86) dX8_covering_86 kc_bipush_48 ?_
        refine r_iload (pc := 88) 4 dX8_covering_88 rfl ?_
        refine r_iadd (pc := 90) dX8_covering_90 ?_
        refine k_X8_isCovered (pc := 91) lm_RX8_149  (by decide) (Nat.le_of_ble_eq_true rfl) dX8_covering_91 (fun w3 h15 => ?_)
        refine r_if_eq (pc := 94) 104 dX8_covering_94 (by decide) (fun h16 => ?_) (fun h16 => ?_)
        · refine r_lconst (pc := 104) (v := 0) dX8_covering_104 rfl ?_
          refine r_lor (pc := 105) dX8_covering_105 ?_
          refine r_lstore (pc := 106) [(4, .long (v4 ||| (0 : Int64))), (2, .long (v2 ||| ((1 : Int64) <<< (v6.toInt64 &&& 63)))), (0, .ref (ad en 21 0 0)), (1, .int a1), (6, .int v6)] dX8_covering_106 (by decide) rfl ?_
          refine r_iinc (pc := 108) 4 [(6, .int (v6 + (1 : Int32))), (4, .long (v4 ||| (0 : Int64))), (2, .long (v2 ||| ((1 : Int64) <<< (v6.toInt64 &&& 63)))), (0, .ref (ad en 21 0 0)), (1, .int a1)] dX8_covering_108 rfl rfl (by decide) rfl ?_
          refine r_goto (pc := 111) 8 dX8_covering_111 (by decide) ?_
          exact r_sub [3, 4, 2, 1, 0] rfl (ih (v2 ||| ((1 : Int64) <<< (v6.toInt64 &&& 63))) (v4 ||| (0 : Int64)) (v6 + (1 : Int32)) w3.2)
        · refine r_lconst (pc := 97) (v := 1) dX8_covering_97 rfl ?_
          refine r_iload (pc := 98) 4 dX8_covering_98 rfl ?_
          refine r_lshl (pc := 100) dX8_covering_100 ?_
          refine r_goto (pc := 101) 105 dX8_covering_101 (by decide) ?_
          refine r_lor (pc := 105) dX8_covering_105 ?_
          refine r_lstore (pc := 106) [(4, .long (v4 ||| ((1 : Int64) <<< (v6.toInt64 &&& 63)))), (2, .long (v2 ||| ((1 : Int64) <<< (v6.toInt64 &&& 63)))), (0, .ref (ad en 21 0 0)), (1, .int a1), (6, .int v6)] dX8_covering_106 (by decide) rfl ?_
          refine r_iinc (pc := 108) 4 [(6, .int (v6 + (1 : Int32))), (4, .long (v4 ||| ((1 : Int64) <<< (v6.toInt64 &&& 63)))), (2, .long (v2 ||| ((1 : Int64) <<< (v6.toInt64 &&& 63)))), (0, .ref (ad en 21 0 0)), (1, .int a1)] dX8_covering_108 rfl rfl (by decide) rfl ?_
          refine r_goto (pc := 111) 8 dX8_covering_111 (by decide) ?_
          exact r_sub [3, 4, 2, 1, 0] rfl (ih (v2 ||| ((1 : Int64) <<< (v6.toInt64 &&& 63))) (v4 ||| ((1 : Int64) <<< (v6.toInt64 &&& 63))) (v6 + (1 : Int32)) w3.2)
set_option maxHeartbeats 4000000 in
theorem R_X8_covering (en : En) (N : Nat) (p0 : Int32)  (σ : Sg) : RR en ExT mi_X8_covering evV 0 [(0, .ref (ad en 21 0 0)), (1, .int p0)] [] σ (f_X8_covering N p0 σ) := by
  unfold f_X8_covering
  refine r_lconst (pc := 0) (v := 0) dX8_covering_0 rfl ?_
  refine r_lstore_n (pc := 1) [(2, .long (0 : Int64)), (0, .ref (ad en 21 0 0)), (1, .int p0)] dX8_covering_1 rfl (by decide) rfl ?_
  refine r_lconst (pc := 2) (v := 0) dX8_covering_2 rfl ?_
  refine r_lstore (pc := 3) [(4, .long (0 : Int64)), (2, .long (0 : Int64)), (0, .ref (ad en 21 0 0)), (1, .int p0)] dX8_covering_3 (by decide) rfl ?_
  refine r_iconst (pc := 5) dX8_covering_5 kc_iconst_0 ?_
  refine r_istore (pc := 6) [(6, .int (0 : Int32)), (4, .long (0 : Int64)), (2, .long (0 : Int64)), (0, .ref (ad en 21 0 0)), (1, .int p0)] dX8_covering_6 (by decide) rfl ?_
  refine r_sub [3, 4, 2, 1, 0] rfl (RL_X8_covering_8 en N p0  (fun v2_4 v4_4 v6_4 σ_4 => ?_) N (0 : Int64) (0 : Int64) (0 : Int32) σ)
  refine r_aload_n (pc := 114) 0 dX8_covering_114 rfl rfl ?_
  refine g_X8_coverLow (pc := 115)  lf_RX8_55 dX8_covering_115 ?_
  refine r_iload_n (pc := 118) 1 dX8_covering_118 rfl rfl ?_
  refine r_lload_n (pc := 119) 2 dX8_covering_119 rfl rfl ?_
  refine r_last (pc := 120) (n := 7) o23_22 rfl rfl dX8_covering_120 (fun h17 => ?_)
  refine r_aload_n (pc := 121) 0 dX8_covering_121 rfl rfl ?_
  refine g_X8_coverHigh (pc := 122)  lf_RX8_59 dX8_covering_122 ?_
  refine r_iload_n (pc := 125) 1 dX8_covering_125 rfl rfl ?_
  refine r_lload (pc := 126) 3 dX8_covering_126 rfl ?_
  refine r_last (pc := 128) (n := 7) o23_23 rfl rfl dX8_covering_128 (fun h18 => ?_)
  exact r_vret (pc := 129) rfl dX8_covering_129
theorem ok_X8_covering : yOk yX8_covering cX8_covering 7 none := ⟨in_lwG (by decide +kernel) rfl, in_lwG (by decide +kernel) rfl, by decide, by decide, by decide⟩
theorem k_X8_covering {en : En} {Ex : (Nat → Prop) → State → Prop} {mi : Mi} {α : Type} {ev : α → Option Value × Sg} {pc index : Nat} {lv : List (Nat × Value)} {rest : List Value} {σ : Sg} {N : Nat} {k : (Sg) → Option α} {p0 : Int32} (hlink : Cond.methodLink mi.1 index yX8_covering ∈ lwG) (hroom : 3 + 1 ≤ mi.2.2.2.2) (hcat : (rest.map fun v => v.category).sum ≤ 8) (hd : decode mi.2.1 pc = .ok (.invokevirtual index, 3))  (h : ∀ w : Sg, f_X8_covering N p0 σ = some w → RR en Ex mi ev (pc + 3) lv (rest) w (k w)) : RR en Ex mi ev pc lv (.int p0 :: .ref (ad en 21 0 0) :: rest) σ ((f_X8_covering N p0 σ).bind k) :=
  r_callV (n := 1) [.int p0] ok_X8_covering hlink (in_lwG (by decide +kernel) rfl) (in_lwG (by decide +kernel) rfl) (by decide +kernel) rfl hroom (by decide) o21 rfl rfl hcat (R_X8_covering en N p0  σ) (Nat.le_of_ble_eq_true rfl) hd h
set_option maxHeartbeats 4000000 in
theorem RL_X8_coveringAll_2 (en : En) (N : Nat) {k : Int32 → Sg → Option (Sg)}   (hk : ∀ (v1 : Int32) (σ : Sg), RR en ExT mi_X8_coveringAll evV 21 [] [] σ (k v1 σ)) : ∀ (n : Nat) (v1 : Int32) (σ : Sg), RR en ExT mi_X8_coveringAll evV 2 [(0, .ref (ad en 21 0 0)), (1, .int v1)] [] σ (L_X8_coveringAll_2 N k  n v1 σ) := by
  intro n
  induction n with
  | zero => intro v1 σ; exact r_none
  | succ n ih =>
    intro v1 σ
    rw [L_X8_coveringAll_2_s]
    refine r_iload_n (pc := 2) 1 dX8_coveringAll_2 rfl rfl ?_
    refine r_aload_n (pc := 3) 0 dX8_coveringAll_3 rfl rfl ?_
    refine g_X8_panes (pc := 4)  lf_RX8_143 dX8_coveringAll_4 ?_
    refine r_icmp_ge (pc := 7) 21 dX8_coveringAll_7 (by decide) (fun h1 => ?_) (fun h1 => ?_)
    · exact r_sub [] rfl (hk v1 σ)
    · refine r_aload_n (pc := 10) 0 dX8_coveringAll_10 rfl rfl ?_
      refine r_iload_n (pc := 11) 1 dX8_coveringAll_11 rfl rfl ?_
      refine k_X8_covering (pc := 12) lm_RX8_153  (by decide) (Nat.le_of_ble_eq_true rfl) dX8_coveringAll_12 (fun w1 h2 => ?_)
      refine r_iinc (pc := 15) 1 [(1, .int (v1 + (1 : Int32))), (0, .ref (ad en 21 0 0))] dX8_coveringAll_15 rfl rfl (by decide) rfl ?_
      refine r_goto (pc := 18) 2 dX8_coveringAll_18 (by decide) ?_
      exact r_sub [1, 0] rfl (ih (v1 + (1 : Int32)) w1)
set_option maxHeartbeats 4000000 in
theorem R_X8_coveringAll (en : En) (N : Nat)  (σ : Sg) : RR en ExT mi_X8_coveringAll evV 0 [(0, .ref (ad en 21 0 0))] [] σ (f_X8_coveringAll N σ) := by
  unfold f_X8_coveringAll
  refine r_iconst (pc := 0) dX8_coveringAll_0 kc_iconst_0 ?_
  refine r_istore_n (pc := 1) [(1, .int (0 : Int32)), (0, .ref (ad en 21 0 0))] dX8_coveringAll_1 rfl (by decide) rfl ?_
  refine r_sub [1, 0] rfl (RL_X8_coveringAll_2 en N   (fun v1_2 σ_2 => ?_) N (0 : Int32) σ)
  exact r_vret (pc := 21) rfl dX8_coveringAll_21
theorem ok_X8_coveringAll : yOk yX8_coveringAll cX8_coveringAll 2 none := ⟨in_lwG (by decide +kernel) rfl, in_lwG (by decide +kernel) rfl, by decide, by decide, by decide⟩
theorem k_X8_coveringAll {en : En} {Ex : (Nat → Prop) → State → Prop} {mi : Mi} {α : Type} {ev : α → Option Value × Sg} {pc index : Nat} {lv : List (Nat × Value)} {rest : List Value} {σ : Sg} {N : Nat} {k : (Sg) → Option α}  (hlink : Cond.methodLink mi.1 index yX8_coveringAll ∈ lwG) (hroom : 4 + 1 ≤ mi.2.2.2.2) (hcat : (rest.map fun v => v.category).sum ≤ 8) (hd : decode mi.2.1 pc = .ok (.invokevirtual index, 3))  (h : ∀ w : Sg, f_X8_coveringAll N  σ = some w → RR en Ex mi ev (pc + 3) lv (rest) w (k w)) : RR en Ex mi ev pc lv (.ref (ad en 21 0 0) :: rest) σ ((f_X8_coveringAll N  σ).bind k) :=
  r_callV (n := 0) [] ok_X8_coveringAll hlink (in_lwG (by decide +kernel) rfl) (in_lwG (by decide +kernel) rfl) (by decide +kernel) rfl hroom (by decide) o21 rfl rfl hcat (R_X8_coveringAll en N   σ) (Nat.le_of_ble_eq_true rfl) hd h
set_option maxHeartbeats 4000000 in
theorem RL_X8_seeing_21 (en : En) (N : Nat) {k : Int64 → Int64 → Int32 → Sg → Option (Sg)} (a5 : Int32)  (hk : ∀ (v1 : Int64) (v3 : Int64) (v6 : Int32) (σ : Sg), RR en ExT mi_X8_seeing evV 165 [(0, .ref (ad en 21 0 0)), (1, .long v1), (3, .long v3), (5, .int a5)] [] σ (k v1 v3 v6 σ)) : ∀ (n : Nat) (v1 : Int64) (v3 : Int64) (v6 : Int32) (σ : Sg), RR en ExT mi_X8_seeing evV 21 [(0, .ref (ad en 21 0 0)), (1, .long v1), (3, .long v3), (5, .int a5), (6, .int v6)] [] σ (L_X8_seeing_21 N k a5 n v1 v3 v6 σ) := by
  intro n
  induction n with
  | zero => intro v1 v3 v6 σ; exact r_none
  | succ n ih =>
    intro v1 v3 v6 σ
    rw [L_X8_seeing_21_s]
    refine r_iload (pc := 21) 4 dX8_seeing_21 rfl ?_
    refine r_if_lt (pc := 23) 165 dX8_seeing_23 (by decide) (fun h2 => ?_) (fun h2 => ?_)
    · exact r_sub [0, 1, 2, 3] rfl (hk v1 v3 v6 σ)
    · refine r_aload_n (pc := 26) 0 dX8_seeing_26 rfl rfl ?_
      refine g_X8_w (pc := 27)  lf_RX8_52 dX8_seeing_27 ?_
      refine r_bipush (pc := 30) dX8_seeing_30 kc_bipush_14 ?_
      refine r_iload (pc := 32) 4 dX8_seeing_32 rfl ?_
      refine r_iadd (pc := 34) dX8_seeing_34 ?_
      refine r_iald (pc := 35) (n := 22) o22_21 rfl dX8_seeing_35 (fun h3 => ?_)
      refine r_istore (pc := 36) [(7, .int (rI σ 22 21 0 ((14 : Int32) + v6).toNatClampNeg)), (0, .ref (ad en 21 0 0)), (1, .long v1), (3, .long v3), (5, .int a5), (6, .int v6)] dX8_seeing_36 (by decide) rfl ?_
      refine r_aload_n (pc := 38) 1 dX8_seeing_38 rfl rfl ?_
      refine g_X8_kindIf (pc := 39)  lf_RX8_49 dX8_seeing_39 ?_
      refine r_iload (pc := 42) 0 dX8_seeing_42 rfl ?_
      refine r_iald (pc := 44) (n := 7) o22_20 rfl dX8_seeing_44 (fun h4 => ?_)
      refine r_iconst (pc := 45) dX8_seeing_45 kc_iconst_3 ?_
      refine r_icmp_ne (pc := 46) 53 dX8_seeing_46 (by decide) (fun h5 => ?_) (fun h5 => ?_)
      · refine r_iconst (pc := 49) dX8_seeing_49 kc_iconst_1 ?_
        refine r_goto (pc := 50) 54 dX8_seeing_50 (by decide) ?_
        refine r_iload (pc := 54) 4 dX8_seeing_54 rfl ?_
        refine r_if_ne (pc := 56) 63 dX8_seeing_56 (by decide) (fun h6 => ?_) (fun h6 => ?_)
        · refine r_iconst (pc := 59) dX8_seeing_59 kc_iconst_1 ?_
          refine r_goto (pc := 60) 64 dX8_seeing_60 (by decide) ?_
          refine r_icmp_ne_t (pc := 64) 159 dX8_seeing_64 (by decide) (by decide) ?_
          refine r_aload_n (pc := 67) 1 dX8_seeing_67 rfl rfl ?_
          refine g_X8_w (pc := 68)  lf_RX8_52 dX8_seeing_68 ?_
          refine r_bipush (pc := 71) dX8_seeing_71 kc_bipush_21 ?_
          refine r_iald (pc := 73) (n := 22) o22_21 rfl dX8_seeing_73 (fun h7 => ?_)
          refine r_iload (pc := 74) 0 dX8_seeing_74 rfl ?_
          refine k_X8_has (pc := 76) lm_RX8_157  (by decide) (Nat.le_of_ble_eq_true rfl) dX8_seeing_76 (fun w1 h8 => ?_)
          refine r_istore (pc := 79) [(8, .int w1.1), (7, .int (rI σ 22 21 0 ((14 : Int32) + v6).toNatClampNeg)), (0, .ref (ad en 21 0 0)), (1, .long v1), (3, .long v3), (5, .int a5), (6, .int v6)] dX8_seeing_79 (by decide) rfl ?_
          refine r_aload_n (pc := 81) 2 dX8_seeing_81 rfl rfl ?_
          refine g_X8_seenLow (pc := 82)  lf_RX8_62 dX8_seeing_82 ?_
          refine r_iload (pc := 85) 1 dX8_seeing_85 rfl ?_
          refine r_iload (pc := 87) 0 dX8_seeing_87 rfl ?_
          refine r_if_eq (pc := 89) 108 dX8_seeing_89 (by decide) (fun h9 => ?_) (fun h9 => ?_)
          · refine r_lconst (pc := 108) (v := 0) dX8_seeing_108 rfl ?_
            refine r_last (pc := 109) (n := 7) o23_24 rfl rfl dX8_seeing_109 (fun h10 => ?_)
            refine r_aload_n (pc := 110) 2 dX8_seeing_110 rfl rfl ?_
            refine g_X8_seenHigh (pc := 111)  lf_RX8_65 dX8_seeing_111 ?_
            refine r_iload (pc := 114) 1 dX8_seeing_114 rfl ?_
            refine r_iload (pc := 116) 0 dX8_seeing_116 rfl ?_
            refine r_if_eq_t (pc := 118) 137 dX8_seeing_118 (by decide) h9 ?_
            refine r_lconst (pc := 137) (v := 0) dX8_seeing_137 rfl ?_
            refine r_last (pc := 138) (n := 7) o23_25 rfl rfl dX8_seeing_138 (fun h11 => ?_)
            refine r_lload_n (pc := 139) 3 dX8_seeing_139 rfl rfl ?_
            refine r_aload_n (pc := 140) 2 dX8_seeing_140 rfl rfl ?_
            refine g_X8_seenLow (pc := 141)  lf_RX8_62 dX8_seeing_141 ?_
            refine r_iload (pc := 144) 1 dX8_seeing_144 rfl ?_
            refine r_lald (pc := 146) (n := 7) o23_24 rfl dX8_seeing_146 (fun h12 => ?_)
            refine r_lor (pc := 147) dX8_seeing_147 ?_
            refine r_lstore_n (pc := 148) [(1, .long (v1 ||| (rL (uL (uL w1.2 23 24 0 (rI σ 22 21 0 ((14 : Int32) + v6).toNatClampNeg).toNatClampNeg (0 : Int64)) 23 25 0 (rI σ 22 21 0 ((14 : Int32) + v6).toNatClampNeg).toNatClampNeg (0 : Int64)) 23 24 0 (rI σ 22 21 0 ((14 : Int32) + v6).toNatClampNeg).toNatClampNeg))), (8, .int w1.1), (7, .int (rI σ 22 21 0 ((14 : Int32) + v6).toNatClampNeg)), (0, .ref (ad en 21 0 0)), (3, .long v3), (5, .int a5), (6, .int v6)] dX8_seeing_148 rfl (by decide) rfl ?_
            refine r_lload_n (pc := 149) 4 dX8_seeing_149 rfl rfl ?_
            refine r_aload_n (pc := 150) 3 dX8_seeing_150 rfl rfl ?_
            refine g_X8_seenHigh (pc := 151)  lf_RX8_65 dX8_seeing_151 ?_
            refine r_iload (pc := 154) 2 dX8_seeing_154 rfl ?_
            refine r_lald (pc := 156) (n := 7) o23_25 rfl dX8_seeing_156 (fun h13 => ?_)
            refine r_lor (pc := 157) dX8_seeing_157 ?_
            refine r_lstore_n (pc := 158) [(3, .long (v3 ||| (rL (uL (uL w1.2 23 24 0 (rI σ 22 21 0 ((14 : Int32) + v6).toNatClampNeg).toNatClampNeg (0 : Int64)) 23 25 0 (rI σ 22 21 0 ((14 : Int32) + v6).toNatClampNeg).toNatClampNeg (0 : Int64)) 23 25 0 (rI σ 22 21 0 ((14 : Int32) + v6).toNatClampNeg).toNatClampNeg))), (1, .long (v1 ||| (rL (uL (uL w1.2 23 24 0 (rI σ 22 21 0 ((14 : Int32) + v6).toNatClampNeg).toNatClampNeg (0 : Int64)) 23 25 0 (rI σ 22 21 0 ((14 : Int32) + v6).toNatClampNeg).toNatClampNeg (0 : Int64)) 23 24 0 (rI σ 22 21 0 ((14 : Int32) + v6).toNatClampNeg).toNatClampNeg))), (8, .int w1.1), (7, .int (rI σ 22 21 0 ((14 : Int32) + v6).toNatClampNeg)), (0, .ref (ad en 21 0 0)), (5, .int a5), (6, .int v6)] dX8_seeing_158 rfl (by decide) rfl ?_
            refine r_iinc (pc := 159) 6 [(6, .int (v6 + (-1 : Int32))), (3, .long (v3 ||| (rL (uL (uL w1.2 23 24 0 (rI σ 22 21 0 ((14 : Int32) + v6).toNatClampNeg).toNatClampNeg (0 : Int64)) 23 25 0 (rI σ 22 21 0 ((14 : Int32) + v6).toNatClampNeg).toNatClampNeg (0 : Int64)) 23 25 0 (rI σ 22 21 0 ((14 : Int32) + v6).toNatClampNeg).toNatClampNeg))), (1, .long (v1 ||| (rL (uL (uL w1.2 23 24 0 (rI σ 22 21 0 ((14 : Int32) + v6).toNatClampNeg).toNatClampNeg (0 : Int64)) 23 25 0 (rI σ 22 21 0 ((14 : Int32) + v6).toNatClampNeg).toNatClampNeg (0 : Int64)) 23 24 0 (rI σ 22 21 0 ((14 : Int32) + v6).toNatClampNeg).toNatClampNeg))), (8, .int w1.1), (7, .int (rI σ 22 21 0 ((14 : Int32) + v6).toNatClampNeg)), (0, .ref (ad en 21 0 0)), (5, .int a5)] dX8_seeing_159 rfl rfl (by decide) rfl ?_
            refine r_goto (pc := 162) 21 dX8_seeing_162 (by decide) ?_
            exact r_sub [5, 2, 1, 6, 0] rfl (ih (v1 ||| (rL (uL (uL w1.2 23 24 0 (rI σ 22 21 0 ((14 : Int32) + v6).toNatClampNeg).toNatClampNeg (0 : Int64)) 23 25 0 (rI σ 22 21 0 ((14 : Int32) + v6).toNatClampNeg).toNatClampNeg (0 : Int64)) 23 24 0 (rI σ 22 21 0 ((14 : Int32) + v6).toNatClampNeg).toNatClampNeg)) (v3 ||| (rL (uL (uL w1.2 23 24 0 (rI σ 22 21 0 ((14 : Int32) + v6).toNatClampNeg).toNatClampNeg (0 : Int64)) 23 25 0 (rI σ 22 21 0 ((14 : Int32) + v6).toNatClampNeg).toNatClampNeg (0 : Int64)) 23 25 0 (rI σ 22 21 0 ((14 : Int32) + v6).toNatClampNeg).toNatClampNeg)) (v6 + (-1 : Int32)) (uL (uL w1.2 23 24 0 (rI σ 22 21 0 ((14 : Int32) + v6).toNatClampNeg).toNatClampNeg (0 : Int64)) 23 25 0 (rI σ 22 21 0 ((14 : Int32) + v6).toNatClampNeg).toNatClampNeg (0 : Int64)))
          · refine r_aload_n (pc := 92) 2 dX8_seeing_92 rfl rfl ?_
            refine g_X8_coverLow (pc := 93)  lf_RX8_55 dX8_seeing_93 ?_
            refine r_iload (pc := 96) 1 dX8_seeing_96 rfl ?_
            refine r_lald (pc := 98) (n := 7) o23_22 rfl dX8_seeing_98 (fun h14 => ?_)
            refine r_lload_n (pc := 99) 3 dX8_seeing_99 rfl rfl ?_
            refine r_ldc2 (pc := 100) lj_RX8_161 dX8_seeing_100 ?_
            refine r_lxor (pc := 103) dX8_seeing_103 ?_
            refine r_land (pc := 104) dX8_seeing_104 ?_
            refine r_goto (pc := 105) 109 dX8_seeing_105 (by decide) ?_
            refine r_last (pc := 109) (n := 7) o23_24 rfl rfl dX8_seeing_109 (fun h15 => ?_)
            refine r_aload_n (pc := 110) 2 dX8_seeing_110 rfl rfl ?_
            refine g_X8_seenHigh (pc := 111)  lf_RX8_65 dX8_seeing_111 ?_
            refine r_iload (pc := 114) 1 dX8_seeing_114 rfl ?_
            refine r_iload (pc := 116) 0 dX8_seeing_116 rfl ?_
            refine r_if_eq_f (pc := 118) 137 dX8_seeing_118 (by decide) h9 ?_
            refine r_aload_n (pc := 121) 2 dX8_seeing_121 rfl rfl ?_
            refine g_X8_coverHigh (pc := 122)  lf_RX8_59 dX8_seeing_122 ?_
            refine r_iload (pc := 125) 1 dX8_seeing_125 rfl ?_
            refine r_lald (pc := 127) (n := 7) o23_23 rfl dX8_seeing_127 (fun h16 => ?_)
            refine r_lload_n (pc := 128) 4 dX8_seeing_128 rfl rfl ?_
            refine r_ldc2 (pc := 129) lj_RX8_161 dX8_seeing_129 ?_
            refine r_lxor (pc := 132) dX8_seeing_132 ?_
            refine r_land (pc := 133) dX8_seeing_133 ?_
            refine r_goto (pc := 134) 138 dX8_seeing_134 (by decide) ?_
            refine r_last (pc := 138) (n := 7) o23_25 rfl rfl dX8_seeing_138 (fun h17 => ?_)
            refine r_lload_n (pc := 139) 3 dX8_seeing_139 rfl rfl ?_
            refine r_aload_n (pc := 140) 2 dX8_seeing_140 rfl rfl ?_
            refine g_X8_seenLow (pc := 141)  lf_RX8_62 dX8_seeing_141 ?_
            refine r_iload (pc := 144) 1 dX8_seeing_144 rfl ?_
            refine r_lald (pc := 146) (n := 7) o23_24 rfl dX8_seeing_146 (fun h18 => ?_)
            refine r_lor (pc := 147) dX8_seeing_147 ?_
            refine r_lstore_n (pc := 148) [(1, .long (v1 ||| (rL (uL (uL w1.2 23 24 0 (rI σ 22 21 0 ((14 : Int32) + v6).toNatClampNeg).toNatClampNeg ((rL w1.2 23 22 0 (rI σ 22 21 0 ((14 : Int32) + v6).toNatClampNeg).toNatClampNeg) &&& (v1 ^^^ (-1 : Int64)))) 23 25 0 (rI σ 22 21 0 ((14 : Int32) + v6).toNatClampNeg).toNatClampNeg ((rL (uL w1.2 23 24 0 (rI σ 22 21 0 ((14 : Int32) + v6).toNatClampNeg).toNatClampNeg ((rL w1.2 23 22 0 (rI σ 22 21 0 ((14 : Int32) + v6).toNatClampNeg).toNatClampNeg) &&& (v1 ^^^ (-1 : Int64)))) 23 23 0 (rI σ 22 21 0 ((14 : Int32) + v6).toNatClampNeg).toNatClampNeg) &&& (v3 ^^^ (-1 : Int64)))) 23 24 0 (rI σ 22 21 0 ((14 : Int32) + v6).toNatClampNeg).toNatClampNeg))), (8, .int w1.1), (7, .int (rI σ 22 21 0 ((14 : Int32) + v6).toNatClampNeg)), (0, .ref (ad en 21 0 0)), (3, .long v3), (5, .int a5), (6, .int v6)] dX8_seeing_148 rfl (by decide) rfl ?_
            refine r_lload_n (pc := 149) 4 dX8_seeing_149 rfl rfl ?_
            refine r_aload_n (pc := 150) 3 dX8_seeing_150 rfl rfl ?_
            refine g_X8_seenHigh (pc := 151)  lf_RX8_65 dX8_seeing_151 ?_
            refine r_iload (pc := 154) 2 dX8_seeing_154 rfl ?_
            refine r_lald (pc := 156) (n := 7) o23_25 rfl dX8_seeing_156 (fun h19 => ?_)
            refine r_lor (pc := 157) dX8_seeing_157 ?_
            refine r_lstore_n (pc := 158) [(3, .long (v3 ||| (rL (uL (uL w1.2 23 24 0 (rI σ 22 21 0 ((14 : Int32) + v6).toNatClampNeg).toNatClampNeg ((rL w1.2 23 22 0 (rI σ 22 21 0 ((14 : Int32) + v6).toNatClampNeg).toNatClampNeg) &&& (v1 ^^^ (-1 : Int64)))) 23 25 0 (rI σ 22 21 0 ((14 : Int32) + v6).toNatClampNeg).toNatClampNeg ((rL (uL w1.2 23 24 0 (rI σ 22 21 0 ((14 : Int32) + v6).toNatClampNeg).toNatClampNeg ((rL w1.2 23 22 0 (rI σ 22 21 0 ((14 : Int32) + v6).toNatClampNeg).toNatClampNeg) &&& (v1 ^^^ (-1 : Int64)))) 23 23 0 (rI σ 22 21 0 ((14 : Int32) + v6).toNatClampNeg).toNatClampNeg) &&& (v3 ^^^ (-1 : Int64)))) 23 25 0 (rI σ 22 21 0 ((14 : Int32) + v6).toNatClampNeg).toNatClampNeg))), (1, .long (v1 ||| (rL (uL (uL w1.2 23 24 0 (rI σ 22 21 0 ((14 : Int32) + v6).toNatClampNeg).toNatClampNeg ((rL w1.2 23 22 0 (rI σ 22 21 0 ((14 : Int32) + v6).toNatClampNeg).toNatClampNeg) &&& (v1 ^^^ (-1 : Int64)))) 23 25 0 (rI σ 22 21 0 ((14 : Int32) + v6).toNatClampNeg).toNatClampNeg ((rL (uL w1.2 23 24 0 (rI σ 22 21 0 ((14 : Int32) + v6).toNatClampNeg).toNatClampNeg ((rL w1.2 23 22 0 (rI σ 22 21 0 ((14 : Int32) + v6).toNatClampNeg).toNatClampNeg) &&& (v1 ^^^ (-1 : Int64)))) 23 23 0 (rI σ 22 21 0 ((14 : Int32) + v6).toNatClampNeg).toNatClampNeg) &&& (v3 ^^^ (-1 : Int64)))) 23 24 0 (rI σ 22 21 0 ((14 : Int32) + v6).toNatClampNeg).toNatClampNeg))), (8, .int w1.1), (7, .int (rI σ 22 21 0 ((14 : Int32) + v6).toNatClampNeg)), (0, .ref (ad en 21 0 0)), (5, .int a5), (6, .int v6)] dX8_seeing_158 rfl (by decide) rfl ?_
            refine r_iinc (pc := 159) 6 [(6, .int (v6 + (-1 : Int32))), (3, .long (v3 ||| (rL (uL (uL w1.2 23 24 0 (rI σ 22 21 0 ((14 : Int32) + v6).toNatClampNeg).toNatClampNeg ((rL w1.2 23 22 0 (rI σ 22 21 0 ((14 : Int32) + v6).toNatClampNeg).toNatClampNeg) &&& (v1 ^^^ (-1 : Int64)))) 23 25 0 (rI σ 22 21 0 ((14 : Int32) + v6).toNatClampNeg).toNatClampNeg ((rL (uL w1.2 23 24 0 (rI σ 22 21 0 ((14 : Int32) + v6).toNatClampNeg).toNatClampNeg ((rL w1.2 23 22 0 (rI σ 22 21 0 ((14 : Int32) + v6).toNatClampNeg).toNatClampNeg) &&& (v1 ^^^ (-1 : Int64)))) 23 23 0 (rI σ 22 21 0 ((14 : Int32) + v6).toNatClampNeg).toNatClampNeg) &&& (v3 ^^^ (-1 : Int64)))) 23 25 0 (rI σ 22 21 0 ((14 : Int32) + v6).toNatClampNeg).toNatClampNeg))), (1, .long (v1 ||| (rL (uL (uL w1.2 23 24 0 (rI σ 22 21 0 ((14 : Int32) + v6).toNatClampNeg).toNatClampNeg ((rL w1.2 23 22 0 (rI σ 22 21 0 ((14 : Int32) + v6).toNatClampNeg).toNatClampNeg) &&& (v1 ^^^ (-1 : Int64)))) 23 25 0 (rI σ 22 21 0 ((14 : Int32) + v6).toNatClampNeg).toNatClampNeg ((rL (uL w1.2 23 24 0 (rI σ 22 21 0 ((14 : Int32) + v6).toNatClampNeg).toNatClampNeg ((rL w1.2 23 22 0 (rI σ 22 21 0 ((14 : Int32) + v6).toNatClampNeg).toNatClampNeg) &&& (v1 ^^^ (-1 : Int64)))) 23 23 0 (rI σ 22 21 0 ((14 : Int32) + v6).toNatClampNeg).toNatClampNeg) &&& (v3 ^^^ (-1 : Int64)))) 23 24 0 (rI σ 22 21 0 ((14 : Int32) + v6).toNatClampNeg).toNatClampNeg))), (8, .int w1.1), (7, .int (rI σ 22 21 0 ((14 : Int32) + v6).toNatClampNeg)), (0, .ref (ad en 21 0 0)), (5, .int a5)] dX8_seeing_159 rfl rfl (by decide) rfl ?_
            refine r_goto (pc := 162) 21 dX8_seeing_162 (by decide) ?_
            exact r_sub [5, 2, 1, 6, 0] rfl (ih (v1 ||| (rL (uL (uL w1.2 23 24 0 (rI σ 22 21 0 ((14 : Int32) + v6).toNatClampNeg).toNatClampNeg ((rL w1.2 23 22 0 (rI σ 22 21 0 ((14 : Int32) + v6).toNatClampNeg).toNatClampNeg) &&& (v1 ^^^ (-1 : Int64)))) 23 25 0 (rI σ 22 21 0 ((14 : Int32) + v6).toNatClampNeg).toNatClampNeg ((rL (uL w1.2 23 24 0 (rI σ 22 21 0 ((14 : Int32) + v6).toNatClampNeg).toNatClampNeg ((rL w1.2 23 22 0 (rI σ 22 21 0 ((14 : Int32) + v6).toNatClampNeg).toNatClampNeg) &&& (v1 ^^^ (-1 : Int64)))) 23 23 0 (rI σ 22 21 0 ((14 : Int32) + v6).toNatClampNeg).toNatClampNeg) &&& (v3 ^^^ (-1 : Int64)))) 23 24 0 (rI σ 22 21 0 ((14 : Int32) + v6).toNatClampNeg).toNatClampNeg)) (v3 ||| (rL (uL (uL w1.2 23 24 0 (rI σ 22 21 0 ((14 : Int32) + v6).toNatClampNeg).toNatClampNeg ((rL w1.2 23 22 0 (rI σ 22 21 0 ((14 : Int32) + v6).toNatClampNeg).toNatClampNeg) &&& (v1 ^^^ (-1 : Int64)))) 23 25 0 (rI σ 22 21 0 ((14 : Int32) + v6).toNatClampNeg).toNatClampNeg ((rL (uL w1.2 23 24 0 (rI σ 22 21 0 ((14 : Int32) + v6).toNatClampNeg).toNatClampNeg ((rL w1.2 23 22 0 (rI σ 22 21 0 ((14 : Int32) + v6).toNatClampNeg).toNatClampNeg) &&& (v1 ^^^ (-1 : Int64)))) 23 23 0 (rI σ 22 21 0 ((14 : Int32) + v6).toNatClampNeg).toNatClampNeg) &&& (v3 ^^^ (-1 : Int64)))) 23 25 0 (rI σ 22 21 0 ((14 : Int32) + v6).toNatClampNeg).toNatClampNeg)) (v6 + (-1 : Int32)) (uL (uL w1.2 23 24 0 (rI σ 22 21 0 ((14 : Int32) + v6).toNatClampNeg).toNatClampNeg ((rL w1.2 23 22 0 (rI σ 22 21 0 ((14 : Int32) + v6).toNatClampNeg).toNatClampNeg) &&& (v1 ^^^ (-1 : Int64)))) 23 25 0 (rI σ 22 21 0 ((14 : Int32) + v6).toNatClampNeg).toNatClampNeg ((rL (uL w1.2 23 24 0 (rI σ 22 21 0 ((14 : Int32) + v6).toNatClampNeg).toNatClampNeg ((rL w1.2 23 22 0 (rI σ 22 21 0 ((14 : Int32) + v6).toNatClampNeg).toNatClampNeg) &&& (v1 ^^^ (-1 : Int64)))) 23 23 0 (rI σ 22 21 0 ((14 : Int32) + v6).toNatClampNeg).toNatClampNeg) &&& (v3 ^^^ (-1 : Int64)))))
        · refine r_iconst (pc := 63) dX8_seeing_63 kc_iconst_0 ?_
          refine r_icmp_ne_f (pc := 64) 159 dX8_seeing_64 (by decide) (by decide) ?_
          refine r_iinc (pc := 159) 5 [(6, .int (v6 + (-1 : Int32))), (7, .int (rI σ 22 21 0 ((14 : Int32) + v6).toNatClampNeg)), (0, .ref (ad en 21 0 0)), (1, .long v1), (3, .long v3), (5, .int a5)] dX8_seeing_159 rfl rfl (by decide) rfl ?_
          refine r_goto (pc := 162) 21 dX8_seeing_162 (by decide) ?_
          exact r_sub [2, 3, 4, 5, 0] rfl (ih v1 v3 (v6 + (-1 : Int32)) σ)
      · refine r_iconst (pc := 53) dX8_seeing_53 kc_iconst_0 ?_
        refine r_iload (pc := 54) 4 dX8_seeing_54 rfl ?_
        refine r_if_ne (pc := 56) 63 dX8_seeing_56 (by decide) (fun h20 => ?_) (fun h20 => ?_)
        · refine r_iconst (pc := 59) dX8_seeing_59 kc_iconst_1 ?_
          refine r_goto (pc := 60) 64 dX8_seeing_60 (by decide) ?_
          refine r_icmp_ne_f (pc := 64) 159 dX8_seeing_64 (by decide) (by decide) ?_
          refine r_iinc (pc := 159) 5 [(6, .int (v6 + (-1 : Int32))), (7, .int (rI σ 22 21 0 ((14 : Int32) + v6).toNatClampNeg)), (0, .ref (ad en 21 0 0)), (1, .long v1), (3, .long v3), (5, .int a5)] dX8_seeing_159 rfl rfl (by decide) rfl ?_
          refine r_goto (pc := 162) 21 dX8_seeing_162 (by decide) ?_
          exact r_sub [2, 3, 4, 5, 0] rfl (ih v1 v3 (v6 + (-1 : Int32)) σ)
        · refine r_iconst (pc := 63) dX8_seeing_63 kc_iconst_0 ?_
          refine r_icmp_ne_t (pc := 64) 159 dX8_seeing_64 (by decide) (by decide) ?_
          refine r_aload_n (pc := 67) 1 dX8_seeing_67 rfl rfl ?_
          refine g_X8_w (pc := 68)  lf_RX8_52 dX8_seeing_68 ?_
          refine r_bipush (pc := 71) dX8_seeing_71 kc_bipush_21 ?_
          refine r_iald (pc := 73) (n := 22) o22_21 rfl dX8_seeing_73 (fun h21 => ?_)
          refine r_iload (pc := 74) 0 dX8_seeing_74 rfl ?_
          refine k_X8_has (pc := 76) lm_RX8_157  (by decide) (Nat.le_of_ble_eq_true rfl) dX8_seeing_76 (fun w2 h22 => ?_)
          refine r_istore (pc := 79) [(8, .int w2.1), (7, .int (rI σ 22 21 0 ((14 : Int32) + v6).toNatClampNeg)), (0, .ref (ad en 21 0 0)), (1, .long v1), (3, .long v3), (5, .int a5), (6, .int v6)] dX8_seeing_79 (by decide) rfl ?_
          refine r_aload_n (pc := 81) 2 dX8_seeing_81 rfl rfl ?_
          refine g_X8_seenLow (pc := 82)  lf_RX8_62 dX8_seeing_82 ?_
          refine r_iload (pc := 85) 1 dX8_seeing_85 rfl ?_
          refine r_iload (pc := 87) 0 dX8_seeing_87 rfl ?_
          refine r_if_eq (pc := 89) 108 dX8_seeing_89 (by decide) (fun h23 => ?_) (fun h23 => ?_)
          · refine r_lconst (pc := 108) (v := 0) dX8_seeing_108 rfl ?_
            refine r_last (pc := 109) (n := 7) o23_24 rfl rfl dX8_seeing_109 (fun h24 => ?_)
            refine r_aload_n (pc := 110) 2 dX8_seeing_110 rfl rfl ?_
            refine g_X8_seenHigh (pc := 111)  lf_RX8_65 dX8_seeing_111 ?_
            refine r_iload (pc := 114) 1 dX8_seeing_114 rfl ?_
            refine r_iload (pc := 116) 0 dX8_seeing_116 rfl ?_
            refine r_if_eq_t (pc := 118) 137 dX8_seeing_118 (by decide) h23 ?_
            refine r_lconst (pc := 137) (v := 0) dX8_seeing_137 rfl ?_
            refine r_last (pc := 138) (n := 7) o23_25 rfl rfl dX8_seeing_138 (fun h25 => ?_)
            refine r_lload_n (pc := 139) 3 dX8_seeing_139 rfl rfl ?_
            refine r_aload_n (pc := 140) 2 dX8_seeing_140 rfl rfl ?_
            refine g_X8_seenLow (pc := 141)  lf_RX8_62 dX8_seeing_141 ?_
            refine r_iload (pc := 144) 1 dX8_seeing_144 rfl ?_
            refine r_lald (pc := 146) (n := 7) o23_24 rfl dX8_seeing_146 (fun h26 => ?_)
            refine r_lor (pc := 147) dX8_seeing_147 ?_
            refine r_lstore_n (pc := 148) [(1, .long (v1 ||| (rL (uL (uL w2.2 23 24 0 (rI σ 22 21 0 ((14 : Int32) + v6).toNatClampNeg).toNatClampNeg (0 : Int64)) 23 25 0 (rI σ 22 21 0 ((14 : Int32) + v6).toNatClampNeg).toNatClampNeg (0 : Int64)) 23 24 0 (rI σ 22 21 0 ((14 : Int32) + v6).toNatClampNeg).toNatClampNeg))), (8, .int w2.1), (7, .int (rI σ 22 21 0 ((14 : Int32) + v6).toNatClampNeg)), (0, .ref (ad en 21 0 0)), (3, .long v3), (5, .int a5), (6, .int v6)] dX8_seeing_148 rfl (by decide) rfl ?_
            refine r_lload_n (pc := 149) 4 dX8_seeing_149 rfl rfl ?_
            refine r_aload_n (pc := 150) 3 dX8_seeing_150 rfl rfl ?_
            refine g_X8_seenHigh (pc := 151)  lf_RX8_65 dX8_seeing_151 ?_
            refine r_iload (pc := 154) 2 dX8_seeing_154 rfl ?_
            refine r_lald (pc := 156) (n := 7) o23_25 rfl dX8_seeing_156 (fun h27 => ?_)
            refine r_lor (pc := 157) dX8_seeing_157 ?_
            refine r_lstore_n (pc := 158) [(3, .long (v3 ||| (rL (uL (uL w2.2 23 24 0 (rI σ 22 21 0 ((14 : Int32) + v6).toNatClampNeg).toNatClampNeg (0 : Int64)) 23 25 0 (rI σ 22 21 0 ((14 : Int32) + v6).toNatClampNeg).toNatClampNeg (0 : Int64)) 23 25 0 (rI σ 22 21 0 ((14 : Int32) + v6).toNatClampNeg).toNatClampNeg))), (1, .long (v1 ||| (rL (uL (uL w2.2 23 24 0 (rI σ 22 21 0 ((14 : Int32) + v6).toNatClampNeg).toNatClampNeg (0 : Int64)) 23 25 0 (rI σ 22 21 0 ((14 : Int32) + v6).toNatClampNeg).toNatClampNeg (0 : Int64)) 23 24 0 (rI σ 22 21 0 ((14 : Int32) + v6).toNatClampNeg).toNatClampNeg))), (8, .int w2.1), (7, .int (rI σ 22 21 0 ((14 : Int32) + v6).toNatClampNeg)), (0, .ref (ad en 21 0 0)), (5, .int a5), (6, .int v6)] dX8_seeing_158 rfl (by decide) rfl ?_
            refine r_iinc (pc := 159) 6 [(6, .int (v6 + (-1 : Int32))), (3, .long (v3 ||| (rL (uL (uL w2.2 23 24 0 (rI σ 22 21 0 ((14 : Int32) + v6).toNatClampNeg).toNatClampNeg (0 : Int64)) 23 25 0 (rI σ 22 21 0 ((14 : Int32) + v6).toNatClampNeg).toNatClampNeg (0 : Int64)) 23 25 0 (rI σ 22 21 0 ((14 : Int32) + v6).toNatClampNeg).toNatClampNeg))), (1, .long (v1 ||| (rL (uL (uL w2.2 23 24 0 (rI σ 22 21 0 ((14 : Int32) + v6).toNatClampNeg).toNatClampNeg (0 : Int64)) 23 25 0 (rI σ 22 21 0 ((14 : Int32) + v6).toNatClampNeg).toNatClampNeg (0 : Int64)) 23 24 0 (rI σ 22 21 0 ((14 : Int32) + v6).toNatClampNeg).toNatClampNeg))), (8, .int w2.1), (7, .int (rI σ 22 21 0 ((14 : Int32) + v6).toNatClampNeg)), (0, .ref (ad en 21 0 0)), (5, .int a5)] dX8_seeing_159 rfl rfl (by decide) rfl ?_
            refine r_goto (pc := 162) 21 dX8_seeing_162 (by decide) ?_
            exact r_sub [5, 2, 1, 6, 0] rfl (ih (v1 ||| (rL (uL (uL w2.2 23 24 0 (rI σ 22 21 0 ((14 : Int32) + v6).toNatClampNeg).toNatClampNeg (0 : Int64)) 23 25 0 (rI σ 22 21 0 ((14 : Int32) + v6).toNatClampNeg).toNatClampNeg (0 : Int64)) 23 24 0 (rI σ 22 21 0 ((14 : Int32) + v6).toNatClampNeg).toNatClampNeg)) (v3 ||| (rL (uL (uL w2.2 23 24 0 (rI σ 22 21 0 ((14 : Int32) + v6).toNatClampNeg).toNatClampNeg (0 : Int64)) 23 25 0 (rI σ 22 21 0 ((14 : Int32) + v6).toNatClampNeg).toNatClampNeg (0 : Int64)) 23 25 0 (rI σ 22 21 0 ((14 : Int32) + v6).toNatClampNeg).toNatClampNeg)) (v6 + (-1 : Int32)) (uL (uL w2.2 23 24 0 (rI σ 22 21 0 ((14 : Int32) + v6).toNatClampNeg).toNatClampNeg (0 : Int64)) 23 25 0 (rI σ 22 21 0 ((14 : Int32) + v6).toNatClampNeg).toNatClampNeg (0 : Int64)))
          · refine r_aload_n (pc := 92) 2 dX8_seeing_92 rfl rfl ?_
            refine g_X8_coverLow (pc := 93)  lf_RX8_55 dX8_seeing_93 ?_
            refine r_iload (pc := 96) 1 dX8_seeing_96 rfl ?_
            refine r_lald (pc := 98) (n := 7) o23_22 rfl dX8_seeing_98 (fun h28 => ?_)
            refine r_lload_n (pc := 99) 3 dX8_seeing_99 rfl rfl ?_
            refine r_ldc2 (pc := 100) lj_RX8_161 dX8_seeing_100 ?_
            refine r_lxor (pc := 103) dX8_seeing_103 ?_
            refine r_land (pc := 104) dX8_seeing_104 ?_
            refine r_goto (pc := 105) 109 dX8_seeing_105 (by decide) ?_
            refine r_last (pc := 109) (n := 7) o23_24 rfl rfl dX8_seeing_109 (fun h29 => ?_)
            refine r_aload_n (pc := 110) 2 dX8_seeing_110 rfl rfl ?_
            refine g_X8_seenHigh (pc := 111)  lf_RX8_65 dX8_seeing_111 ?_
            refine r_iload (pc := 114) 1 dX8_seeing_114 rfl ?_
            refine r_iload (pc := 116) 0 dX8_seeing_116 rfl ?_
            refine r_if_eq_f (pc := 118) 137 dX8_seeing_118 (by decide) h23 ?_
            refine r_aload_n (pc := 121) 2 dX8_seeing_121 rfl rfl ?_
            refine g_X8_coverHigh (pc := 122)  lf_RX8_59 dX8_seeing_122 ?_
            refine r_iload (pc := 125) 1 dX8_seeing_125 rfl ?_
            refine r_lald (pc := 127) (n := 7) o23_23 rfl dX8_seeing_127 (fun h30 => ?_)
            refine r_lload_n (pc := 128) 4 dX8_seeing_128 rfl rfl ?_
            refine r_ldc2 (pc := 129) lj_RX8_161 dX8_seeing_129 ?_
            refine r_lxor (pc := 132) dX8_seeing_132 ?_
            refine r_land (pc := 133) dX8_seeing_133 ?_
            refine r_goto (pc := 134) 138 dX8_seeing_134 (by decide) ?_
            refine r_last (pc := 138) (n := 7) o23_25 rfl rfl dX8_seeing_138 (fun h31 => ?_)
            refine r_lload_n (pc := 139) 3 dX8_seeing_139 rfl rfl ?_
            refine r_aload_n (pc := 140) 2 dX8_seeing_140 rfl rfl ?_
            refine g_X8_seenLow (pc := 141)  lf_RX8_62 dX8_seeing_141 ?_
            refine r_iload (pc := 144) 1 dX8_seeing_144 rfl ?_
            refine r_lald (pc := 146) (n := 7) o23_24 rfl dX8_seeing_146 (fun h32 => ?_)
            refine r_lor (pc := 147) dX8_seeing_147 ?_
            refine r_lstore_n (pc := 148) [(1, .long (v1 ||| (rL (uL (uL w2.2 23 24 0 (rI σ 22 21 0 ((14 : Int32) + v6).toNatClampNeg).toNatClampNeg ((rL w2.2 23 22 0 (rI σ 22 21 0 ((14 : Int32) + v6).toNatClampNeg).toNatClampNeg) &&& (v1 ^^^ (-1 : Int64)))) 23 25 0 (rI σ 22 21 0 ((14 : Int32) + v6).toNatClampNeg).toNatClampNeg ((rL (uL w2.2 23 24 0 (rI σ 22 21 0 ((14 : Int32) + v6).toNatClampNeg).toNatClampNeg ((rL w2.2 23 22 0 (rI σ 22 21 0 ((14 : Int32) + v6).toNatClampNeg).toNatClampNeg) &&& (v1 ^^^ (-1 : Int64)))) 23 23 0 (rI σ 22 21 0 ((14 : Int32) + v6).toNatClampNeg).toNatClampNeg) &&& (v3 ^^^ (-1 : Int64)))) 23 24 0 (rI σ 22 21 0 ((14 : Int32) + v6).toNatClampNeg).toNatClampNeg))), (8, .int w2.1), (7, .int (rI σ 22 21 0 ((14 : Int32) + v6).toNatClampNeg)), (0, .ref (ad en 21 0 0)), (3, .long v3), (5, .int a5), (6, .int v6)] dX8_seeing_148 rfl (by decide) rfl ?_
            refine r_lload_n (pc := 149) 4 dX8_seeing_149 rfl rfl ?_
            refine r_aload_n (pc := 150) 3 dX8_seeing_150 rfl rfl ?_
            refine g_X8_seenHigh (pc := 151)  lf_RX8_65 dX8_seeing_151 ?_
            refine r_iload (pc := 154) 2 dX8_seeing_154 rfl ?_
            refine r_lald (pc := 156) (n := 7) o23_25 rfl dX8_seeing_156 (fun h33 => ?_)
            refine r_lor (pc := 157) dX8_seeing_157 ?_
            refine r_lstore_n (pc := 158) [(3, .long (v3 ||| (rL (uL (uL w2.2 23 24 0 (rI σ 22 21 0 ((14 : Int32) + v6).toNatClampNeg).toNatClampNeg ((rL w2.2 23 22 0 (rI σ 22 21 0 ((14 : Int32) + v6).toNatClampNeg).toNatClampNeg) &&& (v1 ^^^ (-1 : Int64)))) 23 25 0 (rI σ 22 21 0 ((14 : Int32) + v6).toNatClampNeg).toNatClampNeg ((rL (uL w2.2 23 24 0 (rI σ 22 21 0 ((14 : Int32) + v6).toNatClampNeg).toNatClampNeg ((rL w2.2 23 22 0 (rI σ 22 21 0 ((14 : Int32) + v6).toNatClampNeg).toNatClampNeg) &&& (v1 ^^^ (-1 : Int64)))) 23 23 0 (rI σ 22 21 0 ((14 : Int32) + v6).toNatClampNeg).toNatClampNeg) &&& (v3 ^^^ (-1 : Int64)))) 23 25 0 (rI σ 22 21 0 ((14 : Int32) + v6).toNatClampNeg).toNatClampNeg))), (1, .long (v1 ||| (rL (uL (uL w2.2 23 24 0 (rI σ 22 21 0 ((14 : Int32) + v6).toNatClampNeg).toNatClampNeg ((rL w2.2 23 22 0 (rI σ 22 21 0 ((14 : Int32) + v6).toNatClampNeg).toNatClampNeg) &&& (v1 ^^^ (-1 : Int64)))) 23 25 0 (rI σ 22 21 0 ((14 : Int32) + v6).toNatClampNeg).toNatClampNeg ((rL (uL w2.2 23 24 0 (rI σ 22 21 0 ((14 : Int32) + v6).toNatClampNeg).toNatClampNeg ((rL w2.2 23 22 0 (rI σ 22 21 0 ((14 : Int32) + v6).toNatClampNeg).toNatClampNeg) &&& (v1 ^^^ (-1 : Int64)))) 23 23 0 (rI σ 22 21 0 ((14 : Int32) + v6).toNatClampNeg).toNatClampNeg) &&& (v3 ^^^ (-1 : Int64)))) 23 24 0 (rI σ 22 21 0 ((14 : Int32) + v6).toNatClampNeg).toNatClampNeg))), (8, .int w2.1), (7, .int (rI σ 22 21 0 ((14 : Int32) + v6).toNatClampNeg)), (0, .ref (ad en 21 0 0)), (5, .int a5), (6, .int v6)] dX8_seeing_158 rfl (by decide) rfl ?_
            refine r_iinc (pc := 159) 6 [(6, .int (v6 + (-1 : Int32))), (3, .long (v3 ||| (rL (uL (uL w2.2 23 24 0 (rI σ 22 21 0 ((14 : Int32) + v6).toNatClampNeg).toNatClampNeg ((rL w2.2 23 22 0 (rI σ 22 21 0 ((14 : Int32) + v6).toNatClampNeg).toNatClampNeg) &&& (v1 ^^^ (-1 : Int64)))) 23 25 0 (rI σ 22 21 0 ((14 : Int32) + v6).toNatClampNeg).toNatClampNeg ((rL (uL w2.2 23 24 0 (rI σ 22 21 0 ((14 : Int32) + v6).toNatClampNeg).toNatClampNeg ((rL w2.2 23 22 0 (rI σ 22 21 0 ((14 : Int32) + v6).toNatClampNeg).toNatClampNeg) &&& (v1 ^^^ (-1 : Int64)))) 23 23 0 (rI σ 22 21 0 ((14 : Int32) + v6).toNatClampNeg).toNatClampNeg) &&& (v3 ^^^ (-1 : Int64)))) 23 25 0 (rI σ 22 21 0 ((14 : Int32) + v6).toNatClampNeg).toNatClampNeg))), (1, .long (v1 ||| (rL (uL (uL w2.2 23 24 0 (rI σ 22 21 0 ((14 : Int32) + v6).toNatClampNeg).toNatClampNeg ((rL w2.2 23 22 0 (rI σ 22 21 0 ((14 : Int32) + v6).toNatClampNeg).toNatClampNeg) &&& (v1 ^^^ (-1 : Int64)))) 23 25 0 (rI σ 22 21 0 ((14 : Int32) + v6).toNatClampNeg).toNatClampNeg ((rL (uL w2.2 23 24 0 (rI σ 22 21 0 ((14 : Int32) + v6).toNatClampNeg).toNatClampNeg ((rL w2.2 23 22 0 (rI σ 22 21 0 ((14 : Int32) + v6).toNatClampNeg).toNatClampNeg) &&& (v1 ^^^ (-1 : Int64)))) 23 23 0 (rI σ 22 21 0 ((14 : Int32) + v6).toNatClampNeg).toNatClampNeg) &&& (v3 ^^^ (-1 : Int64)))) 23 24 0 (rI σ 22 21 0 ((14 : Int32) + v6).toNatClampNeg).toNatClampNeg))), (8, .int w2.1), (7, .int (rI σ 22 21 0 ((14 : Int32) + v6).toNatClampNeg)), (0, .ref (ad en 21 0 0)), (5, .int a5)] dX8_seeing_159 rfl rfl (by decide) rfl ?_
            refine r_goto (pc := 162) 21 dX8_seeing_162 (by decide) ?_
            exact r_sub [5, 2, 1, 6, 0] rfl (ih (v1 ||| (rL (uL (uL w2.2 23 24 0 (rI σ 22 21 0 ((14 : Int32) + v6).toNatClampNeg).toNatClampNeg ((rL w2.2 23 22 0 (rI σ 22 21 0 ((14 : Int32) + v6).toNatClampNeg).toNatClampNeg) &&& (v1 ^^^ (-1 : Int64)))) 23 25 0 (rI σ 22 21 0 ((14 : Int32) + v6).toNatClampNeg).toNatClampNeg ((rL (uL w2.2 23 24 0 (rI σ 22 21 0 ((14 : Int32) + v6).toNatClampNeg).toNatClampNeg ((rL w2.2 23 22 0 (rI σ 22 21 0 ((14 : Int32) + v6).toNatClampNeg).toNatClampNeg) &&& (v1 ^^^ (-1 : Int64)))) 23 23 0 (rI σ 22 21 0 ((14 : Int32) + v6).toNatClampNeg).toNatClampNeg) &&& (v3 ^^^ (-1 : Int64)))) 23 24 0 (rI σ 22 21 0 ((14 : Int32) + v6).toNatClampNeg).toNatClampNeg)) (v3 ||| (rL (uL (uL w2.2 23 24 0 (rI σ 22 21 0 ((14 : Int32) + v6).toNatClampNeg).toNatClampNeg ((rL w2.2 23 22 0 (rI σ 22 21 0 ((14 : Int32) + v6).toNatClampNeg).toNatClampNeg) &&& (v1 ^^^ (-1 : Int64)))) 23 25 0 (rI σ 22 21 0 ((14 : Int32) + v6).toNatClampNeg).toNatClampNeg ((rL (uL w2.2 23 24 0 (rI σ 22 21 0 ((14 : Int32) + v6).toNatClampNeg).toNatClampNeg ((rL w2.2 23 22 0 (rI σ 22 21 0 ((14 : Int32) + v6).toNatClampNeg).toNatClampNeg) &&& (v1 ^^^ (-1 : Int64)))) 23 23 0 (rI σ 22 21 0 ((14 : Int32) + v6).toNatClampNeg).toNatClampNeg) &&& (v3 ^^^ (-1 : Int64)))) 23 25 0 (rI σ 22 21 0 ((14 : Int32) + v6).toNatClampNeg).toNatClampNeg)) (v6 + (-1 : Int32)) (uL (uL w2.2 23 24 0 (rI σ 22 21 0 ((14 : Int32) + v6).toNatClampNeg).toNatClampNeg ((rL w2.2 23 22 0 (rI σ 22 21 0 ((14 : Int32) + v6).toNatClampNeg).toNatClampNeg) &&& (v1 ^^^ (-1 : Int64)))) 23 25 0 (rI σ 22 21 0 ((14 : Int32) + v6).toNatClampNeg).toNatClampNeg ((rL (uL w2.2 23 24 0 (rI σ 22 21 0 ((14 : Int32) + v6).toNatClampNeg).toNatClampNeg ((rL w2.2 23 22 0 (rI σ 22 21 0 ((14 : Int32) + v6).toNatClampNeg).toNatClampNeg) &&& (v1 ^^^ (-1 : Int64)))) 23 23 0 (rI σ 22 21 0 ((14 : Int32) + v6).toNatClampNeg).toNatClampNeg) &&& (v3 ^^^ (-1 : Int64)))))
set_option maxHeartbeats 4000000 in
theorem RL_X8_seeing_7 (en : En) (N : Nat) {k : Int64 → Int64 → Int32 → Sg → Option (Sg)}   (hk : ∀ (v1 : Int64) (v3 : Int64) (v5 : Int32) (σ : Sg), RR en ExT mi_X8_seeing evV 171 [] [] σ (k v1 v3 v5 σ)) : ∀ (n : Nat) (v1 : Int64) (v3 : Int64) (v5 : Int32) (σ : Sg), RR en ExT mi_X8_seeing evV 7 [(0, .ref (ad en 21 0 0)), (1, .long v1), (3, .long v3), (5, .int v5)] [] σ (L_X8_seeing_7 N k  n v1 v3 v5 σ) := by
  intro n
  induction n with
  | zero => intro v1 v3 v5 σ; exact r_none
  | succ n ih =>
    intro v1 v3 v5 σ
    rw [L_X8_seeing_7_s]
    refine r_iload (pc := 7) 3 dX8_seeing_7 rfl ?_
    refine r_iconst (pc := 9) dX8_seeing_9 kc_iconst_2 ?_
    refine r_icmp_ge (pc := 10) 171 dX8_seeing_10 (by decide) (fun h1 => ?_) (fun h1 => ?_)
    · exact r_sub [] rfl (hk v1 v3 v5 σ)
    · refine r_aload_n (pc := 13) 0 dX8_seeing_13 rfl rfl ?_
      refine g_X8_panes (pc := 14)  lf_RX8_143 dX8_seeing_14 ?_
      refine r_iconst (pc := 17) dX8_seeing_17 kc_iconst_1 ?_
      refine r_isub (pc := 18) dX8_seeing_18 ?_
      refine r_istore (pc := 19) [(6, .int ((rI σ 21 0 0 10) - (1 : Int32))), (0, .ref (ad en 21 0 0)), (1, .long v1), (3, .long v3), (5, .int v5)] dX8_seeing_19 (by decide) rfl ?_
      refine r_sub [1, 2, 3, 4, 0] rfl (RL_X8_seeing_21 en N v5  (fun v1_3 v3_3 v6_3 σ_3 => ?_) N v1 v3 ((rI σ 21 0 0 10) - (1 : Int32)) σ)
      refine r_iinc (pc := 165) 3 [(5, .int (v5 + (1 : Int32))), (0, .ref (ad en 21 0 0)), (1, .long v1_3), (3, .long v3_3)] dX8_seeing_165 rfl rfl (by decide) rfl ?_
      refine r_goto (pc := 168) 7 dX8_seeing_168 (by decide) ?_
      exact r_sub [1, 2, 3, 0] rfl (ih v1_3 v3_3 (v5 + (1 : Int32)) σ_3)
set_option maxHeartbeats 4000000 in
theorem R_X8_seeing (en : En) (N : Nat)  (σ : Sg) : RR en ExT mi_X8_seeing evV 0 [(0, .ref (ad en 21 0 0))] [] σ (f_X8_seeing N σ) := by
  unfold f_X8_seeing
  refine r_lconst (pc := 0) (v := 0) dX8_seeing_0 rfl ?_
  refine r_lstore_n (pc := 1) [(1, .long (0 : Int64)), (0, .ref (ad en 21 0 0))] dX8_seeing_1 rfl (by decide) rfl ?_
  refine r_lconst (pc := 2) (v := 0) dX8_seeing_2 rfl ?_
  refine r_lstore_n (pc := 3) [(3, .long (0 : Int64)), (1, .long (0 : Int64)), (0, .ref (ad en 21 0 0))] dX8_seeing_3 rfl (by decide) rfl ?_
  refine r_iconst (pc := 4) dX8_seeing_4 kc_iconst_0 ?_
  refine r_istore (pc := 5) [(5, .int (0 : Int32)), (3, .long (0 : Int64)), (1, .long (0 : Int64)), (0, .ref (ad en 21 0 0))] dX8_seeing_5 (by decide) rfl ?_
  refine r_sub [3, 2, 1, 0] rfl (RL_X8_seeing_7 en N   (fun v1_4 v3_4 v5_4 σ_4 => ?_) N (0 : Int64) (0 : Int64) (0 : Int32) σ)
  exact r_vret (pc := 171) rfl dX8_seeing_171
theorem ok_X8_seeing : yOk yX8_seeing cX8_seeing 9 none := ⟨in_lwG (by decide +kernel) rfl, in_lwG (by decide +kernel) rfl, by decide, by decide, by decide⟩
theorem k_X8_seeing {en : En} {Ex : (Nat → Prop) → State → Prop} {mi : Mi} {α : Type} {ev : α → Option Value × Sg} {pc index : Nat} {lv : List (Nat × Value)} {rest : List Value} {σ : Sg} {N : Nat} {k : (Sg) → Option α}  (hlink : Cond.methodLink mi.1 index yX8_seeing ∈ lwG) (hroom : 2 + 1 ≤ mi.2.2.2.2) (hcat : (rest.map fun v => v.category).sum ≤ 8) (hd : decode mi.2.1 pc = .ok (.invokevirtual index, 3))  (h : ∀ w : Sg, f_X8_seeing N  σ = some w → RR en Ex mi ev (pc + 3) lv (rest) w (k w)) : RR en Ex mi ev pc lv (.ref (ad en 21 0 0) :: rest) σ ((f_X8_seeing N  σ).bind k) :=
  r_callV (n := 0) [] ok_X8_seeing hlink (in_lwG (by decide +kernel) rfl) (in_lwG (by decide +kernel) rfl) (by decide +kernel) rfl hroom (by decide) o21 rfl rfl hcat (R_X8_seeing en N   σ) (Nat.le_of_ble_eq_true rfl) hd h
set_option maxHeartbeats 4000000 in
theorem R_X8_sees (en : En) (N : Nat)  (σ : Sg) : RR en ExT mi_X8_sees evV 0 [(0, .ref (ad en 21 0 0))] [] σ (f_X8_sees N σ) := by
  unfold f_X8_sees
  refine r_aload_n (pc := 0) 0 dX8_sees_0 rfl rfl ?_
  refine k_X8_asNow (pc := 1) lm_RX8_163  (by decide) (Nat.le_of_ble_eq_true rfl) dX8_sees_1 (fun w1 h1 => ?_)
  refine r_aload_n (pc := 4) 0 dX8_sees_4 rfl rfl ?_
  refine k_X8_coveringAll (pc := 5) lm_RX8_166  (by decide) (Nat.le_of_ble_eq_true rfl) dX8_sees_5 (fun w2 h2 => ?_)
  refine r_aload_n (pc := 8) 0 dX8_sees_8 rfl rfl ?_
  refine k_X8_seeing (pc := 9) lm_RX8_169  (by decide) (Nat.le_of_ble_eq_true rfl) dX8_sees_9 (fun w3 h3 => ?_)
  exact r_vret (pc := 12) rfl dX8_sees_12
theorem ok_X8_sees : yOk yX8_sees cX8_sees 1 none := ⟨in_lwG (by decide +kernel) rfl, in_lwG (by decide +kernel) rfl, by decide, by decide, by decide⟩
theorem k_X8_sees {en : En} {Ex : (Nat → Prop) → State → Prop} {mi : Mi} {α : Type} {ev : α → Option Value × Sg} {pc index : Nat} {lv : List (Nat × Value)} {rest : List Value} {σ : Sg} {N : Nat} {k : (Sg) → Option α}  (hlink : Cond.methodLink mi.1 index yX8_sees ∈ lwG) (hroom : 5 + 1 ≤ mi.2.2.2.2) (hcat : (rest.map fun v => v.category).sum ≤ 8) (hd : decode mi.2.1 pc = .ok (.invokevirtual index, 3))  (h : ∀ w : Sg, f_X8_sees N  σ = some w → RR en Ex mi ev (pc + 3) lv (rest) w (k w)) : RR en Ex mi ev pc lv (.ref (ad en 21 0 0) :: rest) σ ((f_X8_sees N  σ).bind k) :=
  r_callV (n := 0) [] ok_X8_sees hlink (in_lwG (by decide +kernel) rfl) (in_lwG (by decide +kernel) rfl) (by decide +kernel) rfl hroom (by decide) o21 rfl rfl hcat (R_X8_sees en N   σ) (Nat.le_of_ble_eq_true rfl) hd h
set_option maxHeartbeats 4000000 in
theorem RL_X8_ones_4 (en : En) (N : Nat) {k : Int32 → Int64 → Option (Int32 × Sg)} (σ : Sg)  (hk : ∀ (v2 : Int32) (v3 : Int64), RR en ExT mi_X8_ones evI 22 [(2, .int v2)] [] σ (k v2 v3)) : ∀ (n : Nat) (v2 : Int32) (v3 : Int64), RR en ExT mi_X8_ones evI 4 [(2, .int v2), (3, .long v3)] [] σ (L_X8_ones_4 N k σ n v2 v3) := by
  intro n
  induction n with
  | zero => intro v2 v3; exact r_none
  | succ n ih =>
    intro v2 v3
    rw [L_X8_ones_4_s]
    refine r_lload_n (pc := 4) 1 dX8_ones_4 rfl rfl ?_
    refine r_lconst (pc := 5) (v := 0) dX8_ones_5 rfl ?_
    refine r_lcmp (pc := 6) dX8_ones_6 ?_
    refine r_if_eq (pc := 7) 22 dX8_ones_7 (by decide) (fun h1 => ?_) (fun h1 => ?_)
    · exact r_sub [0] rfl (hk v2 v3)
    · refine r_lload_n (pc := 10) 1 dX8_ones_10 rfl rfl ?_
      refine r_lload_n (pc := 11) 1 dX8_ones_11 rfl rfl ?_
      refine r_lconst (pc := 12) (v := 1) dX8_ones_12 rfl ?_
      refine r_lsub (pc := 13) dX8_ones_13 ?_
      refine r_land (pc := 14) dX8_ones_14 ?_
      refine r_lstore_n (pc := 15) [(3, .long (v3 &&& (v3 - (1 : Int64)))), (2, .int v2)] dX8_ones_15 rfl (by decide) rfl ?_
      refine r_iinc (pc := 16) 1 [(2, .int (v2 + (1 : Int32))), (3, .long (v3 &&& (v3 - (1 : Int64))))] dX8_ones_16 rfl rfl (by decide) rfl ?_
      refine r_goto (pc := 19) 4 dX8_ones_19 (by decide) ?_
      exact r_sub [0, 1] rfl (ih (v2 + (1 : Int32)) (v3 &&& (v3 - (1 : Int64))))
set_option maxHeartbeats 4000000 in
theorem R_X8_ones (en : En) (N : Nat) (p0 : Int64)  (σ : Sg) : RR en ExT mi_X8_ones evI 0 [(0, .long p0)] [] σ (f_X8_ones N p0 σ) := by
  unfold f_X8_ones
  refine r_iconst (pc := 0) dX8_ones_0 kc_iconst_0 ?_
  refine r_istore_n (pc := 1) [(2, .int (0 : Int32)), (0, .long p0)] dX8_ones_1 rfl (by decide) rfl ?_
  refine r_lload_n (pc := 2) 1 dX8_ones_2 rfl rfl ?_
  refine r_lstore_n (pc := 3) [(3, .long p0), (2, .int (0 : Int32)), (0, .long p0)] dX8_ones_3 rfl (by decide) rfl ?_
  refine r_sub [1, 0] rfl (RL_X8_ones_4 en N σ  (fun v2_1 v3_1 => ?_) N (0 : Int32) p0)
  refine r_iload_n (pc := 22) 0 dX8_ones_22 rfl rfl ?_
  exact r_iret (pc := 23) rfl dX8_ones_23
theorem ok_X8_ones : yOk yX8_ones cX8_ones 5 (some .int) := ⟨in_lwG (by decide +kernel) rfl, in_lwG (by decide +kernel) rfl, by decide, by decide, by decide⟩
theorem k_X8_ones {en : En} {Ex : (Nat → Prop) → State → Prop} {mi : Mi} {α : Type} {ev : α → Option Value × Sg} {pc index : Nat} {lv : List (Nat × Value)} {rest : List Value} {σ : Sg} {N : Nat} {k : (Int32 × Sg) → Option α} {p0 : Int64} (hlink : Cond.methodLink mi.1 index yX8_ones ∈ lwG) (hroom : 1 + 1 ≤ mi.2.2.2.2) (hcat : (rest.map fun v => v.category).sum ≤ 8) (hd : decode mi.2.1 pc = .ok (.invokestatic index, 3))  (h : ∀ w : Int32 × Sg, f_X8_ones N p0 σ = some w → RR en Ex mi ev (pc + 3) lv (.int w.1 :: rest) w.2 (k w)) : RR en Ex mi ev pc lv (.long p0 :: rest) σ ((f_X8_ones N p0 σ).bind k) :=
  r_callS (n := 1) [.long p0] ok_X8_ones hlink (in_lwG (by decide +kernel) rfl) (by decide +kernel) rfl hroom (by decide) hcat (R_X8_ones en N p0  σ) (Nat.le_of_ble_eq_true rfl) hd h
set_option maxHeartbeats 4000000 in
theorem RL_X8_placeOf_2 (en : En) (N : Nat) {k : Int32 → Option (Int32 × Sg)} (a1 : Int32) (σ : Sg)  (hk : ∀ (v2 : Int32), RR en ExT mi_X8_placeOf evI 21 [(2, .int v2)] [] σ (k v2)) : ∀ (n : Nat) (v2 : Int32), RR en ExT mi_X8_placeOf evI 2 [(0, .ref (ad en 21 0 0)), (1, .int a1), (2, .int v2)] [] σ (L_X8_placeOf_2 N k a1 σ n v2) := by
  intro n
  induction n with
  | zero => intro v2; exact r_none
  | succ n ih =>
    intro v2
    rw [L_X8_placeOf_2_s]
    refine r_aload_n (pc := 2) 0 dX8_placeOf_2 rfl rfl ?_
    refine g_X8_s (pc := 3)  lf_RX8_34 dX8_placeOf_3 ?_
    refine r_bipush (pc := 6) dX8_placeOf_6 kc_bipush_14 ?_
    refine r_iload_n (pc := 8) 2 dX8_placeOf_8 rfl rfl ?_
    refine r_iadd (pc := 9) dX8_placeOf_9 ?_
    refine r_iald (pc := 10) (n := 22) o22_14 rfl dX8_placeOf_10 (fun h1 => ?_)
    refine r_iload_n (pc := 11) 1 dX8_placeOf_11 rfl rfl ?_
    refine r_icmp_eq (pc := 12) 21 dX8_placeOf_12 (by decide) (fun h2 => ?_) (fun h2 => ?_)
    · exact r_sub [2] rfl (hk v2)
    · refine r_iinc (pc := 15) 2 [(2, .int (v2 + (1 : Int32))), (0, .ref (ad en 21 0 0)), (1, .int a1)] dX8_placeOf_15 rfl rfl (by decide) rfl ?_
      refine r_goto (pc := 18) 2 dX8_placeOf_18 (by decide) ?_
      exact r_sub [1, 2, 0] rfl (ih (v2 + (1 : Int32)))
set_option maxHeartbeats 4000000 in
theorem R_X8_placeOf (en : En) (N : Nat) (p0 : Int32)  (σ : Sg) : RR en ExT mi_X8_placeOf evI 0 [(0, .ref (ad en 21 0 0)), (1, .int p0)] [] σ (f_X8_placeOf N p0 σ) := by
  unfold f_X8_placeOf
  refine r_iconst (pc := 0) dX8_placeOf_0 kc_iconst_0 ?_
  refine r_istore_n (pc := 1) [(2, .int (0 : Int32)), (0, .ref (ad en 21 0 0)), (1, .int p0)] dX8_placeOf_1 rfl (by decide) rfl ?_
  refine r_sub [1, 2, 0] rfl (RL_X8_placeOf_2 en N p0 σ  (fun v2_1 => ?_) N (0 : Int32))
  refine r_iload_n (pc := 21) 0 dX8_placeOf_21 rfl rfl ?_
  exact r_iret (pc := 22) rfl dX8_placeOf_22
theorem ok_X8_placeOf : yOk yX8_placeOf cX8_placeOf 3 (some .int) := ⟨in_lwG (by decide +kernel) rfl, in_lwG (by decide +kernel) rfl, by decide, by decide, by decide⟩
theorem k_X8_placeOf {en : En} {Ex : (Nat → Prop) → State → Prop} {mi : Mi} {α : Type} {ev : α → Option Value × Sg} {pc index : Nat} {lv : List (Nat × Value)} {rest : List Value} {σ : Sg} {N : Nat} {k : (Int32 × Sg) → Option α} {p0 : Int32} (hlink : Cond.methodLink mi.1 index yX8_placeOf ∈ lwG) (hroom : 1 + 1 ≤ mi.2.2.2.2) (hcat : (rest.map fun v => v.category).sum ≤ 8) (hd : decode mi.2.1 pc = .ok (.invokevirtual index, 3))  (h : ∀ w : Int32 × Sg, f_X8_placeOf N p0 σ = some w → RR en Ex mi ev (pc + 3) lv (.int w.1 :: rest) w.2 (k w)) : RR en Ex mi ev pc lv (.int p0 :: .ref (ad en 21 0 0) :: rest) σ ((f_X8_placeOf N p0 σ).bind k) :=
  r_callV (n := 1) [.int p0] ok_X8_placeOf hlink (in_lwG (by decide +kernel) rfl) (in_lwG (by decide +kernel) rfl) (by decide +kernel) rfl hroom (by decide) o21 rfl rfl hcat (R_X8_placeOf en N p0  σ) (Nat.le_of_ble_eq_true rfl) hd h
set_option maxHeartbeats 4000000 in
theorem R_X8_isOver (en : En) (N : Nat) (p0 : Int32) (p1 : Int32)  (σ : Sg) : RR en ExT mi_X8_isOver evI 0 [(0, .ref (ad en 21 0 0)), (1, .int p0), (2, .int p1)] [] σ (f_X8_isOver N p0 p1 σ) := by
  unfold f_X8_isOver
  refine r_aload_n (pc := 0) 0 dX8_isOver_0 rfl rfl ?_
  refine g_X8_kind (pc := 1)  lf_RX8_25 dX8_isOver_1 ?_
  refine r_iload_n (pc := 4) 1 dX8_isOver_4 rfl rfl ?_
  refine r_iald (pc := 5) (n := 7) o22_11 rfl dX8_isOver_5 (fun h1 => ?_)
  refine r_iconst (pc := 6) dX8_isOver_6 kc_iconst_3 ?_
  refine r_icmp_ne (pc := 7) 14 dX8_isOver_7 (by decide) (fun h2 => ?_) (fun h2 => ?_)
  · refine r_iconst (pc := 10) dX8_isOver_10 kc_iconst_1 ?_
    refine r_goto (pc := 11) 15 dX8_isOver_11 (by decide) ?_
    refine r_istore_n (pc := 15) [(3, .int (1 : Int32)), (0, .ref (ad en 21 0 0)), (1, .int p0), (2, .int p1)] dX8_isOver_15 rfl (by decide) rfl ?_
    refine r_aload_n (pc := 16) 1 dX8_isOver_16 rfl rfl ?_
    refine g_X8_kind (pc := 17)  lf_RX8_25 dX8_isOver_17 ?_
    refine r_iload_n (pc := 20) 3 dX8_isOver_20 rfl rfl ?_
    refine r_iald (pc := 21) (n := 7) o22_11 rfl dX8_isOver_21 (fun h3 => ?_)
    refine r_iconst (pc := 22) dX8_isOver_22 kc_iconst_3 ?_
    refine r_icmp_ne (pc := 23) 30 dX8_isOver_23 (by decide) (fun h4 => ?_) (fun h4 => ?_)
    · refine r_iconst (pc := 26) dX8_isOver_26 kc_iconst_1 ?_
      refine r_goto (pc := 27) 31 dX8_isOver_27 (by decide) ?_
      refine r_istore (pc := 31) [(4, .int (1 : Int32)), (3, .int (1 : Int32)), (0, .ref (ad en 21 0 0)), (1, .int p0), (2, .int p1)] dX8_isOver_31 (by decide) rfl ?_
      refine r_iload_n (pc := 33) 1 dX8_isOver_33 rfl rfl ?_
      refine r_iload (pc := 34) 0 dX8_isOver_34 rfl ?_
      refine r_icmp_ne_t (pc := 36) 60 dX8_isOver_36 (by decide) (by decide) ?_
      refine r_aload_n (pc := 39) 2 dX8_isOver_39 rfl rfl ?_
      refine r_iload_n (pc := 40) 3 dX8_isOver_40 rfl rfl ?_
      refine k_X8_placeOf (pc := 41) lm_RX8_179  (by decide) (Nat.le_of_ble_eq_true rfl) dX8_isOver_41 (fun w1 h5 => ?_)
      refine r_aload_n (pc := 44) 2 dX8_isOver_44 rfl rfl ?_
      refine r_iload_n (pc := 45) 4 dX8_isOver_45 rfl rfl ?_
      refine k_X8_placeOf (pc := 46) lm_RX8_179  (by decide) (Nat.le_of_ble_eq_true rfl) dX8_isOver_46 (fun w2 h6 => ?_)
      refine r_icmp_le (pc := 49) 56 dX8_isOver_49 (by decide) (fun h7 => ?_) (fun h7 => ?_)
      · refine r_iconst (pc := 56) dX8_isOver_56 kc_iconst_0 ?_
        refine r_goto (pc := 57) 61 dX8_isOver_57 (by decide) ?_
        exact r_zret (pc := 61) rfl rfl dX8_isOver_61
      · refine r_iconst (pc := 52) dX8_isOver_52 kc_iconst_1 ?_
        refine r_goto (pc := 53) 61 dX8_isOver_53 (by decide) ?_
        exact r_zret (pc := 61) rfl rfl dX8_isOver_61
    · refine r_iconst (pc := 30) dX8_isOver_30 kc_iconst_0 ?_
      refine r_istore (pc := 31) [(4, .int (0 : Int32)), (3, .int (1 : Int32)), (0, .ref (ad en 21 0 0)), (1, .int p0), (2, .int p1)] dX8_isOver_31 (by decide) rfl ?_
      refine r_iload_n (pc := 33) 1 dX8_isOver_33 rfl rfl ?_
      refine r_iload (pc := 34) 0 dX8_isOver_34 rfl ?_
      refine r_icmp_ne_f (pc := 36) 60 dX8_isOver_36 (by decide) (by decide) ?_
      refine r_iload_n (pc := 60) 1 dX8_isOver_60 rfl rfl ?_
      exact r_zret (pc := 61) rfl rfl dX8_isOver_61
  · refine r_iconst (pc := 14) dX8_isOver_14 kc_iconst_0 ?_
    refine r_istore_n (pc := 15) [(3, .int (0 : Int32)), (0, .ref (ad en 21 0 0)), (1, .int p0), (2, .int p1)] dX8_isOver_15 rfl (by decide) rfl ?_
    refine r_aload_n (pc := 16) 1 dX8_isOver_16 rfl rfl ?_
    refine g_X8_kind (pc := 17)  lf_RX8_25 dX8_isOver_17 ?_
    refine r_iload_n (pc := 20) 3 dX8_isOver_20 rfl rfl ?_
    refine r_iald (pc := 21) (n := 7) o22_11 rfl dX8_isOver_21 (fun h8 => ?_)
    refine r_iconst (pc := 22) dX8_isOver_22 kc_iconst_3 ?_
    refine r_icmp_ne (pc := 23) 30 dX8_isOver_23 (by decide) (fun h9 => ?_) (fun h9 => ?_)
    · refine r_iconst (pc := 26) dX8_isOver_26 kc_iconst_1 ?_
      refine r_goto (pc := 27) 31 dX8_isOver_27 (by decide) ?_
      refine r_istore (pc := 31) [(4, .int (1 : Int32)), (3, .int (0 : Int32)), (0, .ref (ad en 21 0 0)), (1, .int p0), (2, .int p1)] dX8_isOver_31 (by decide) rfl ?_
      refine r_iload_n (pc := 33) 1 dX8_isOver_33 rfl rfl ?_
      refine r_iload (pc := 34) 0 dX8_isOver_34 rfl ?_
      refine r_icmp_ne_f (pc := 36) 60 dX8_isOver_36 (by decide) (by decide) ?_
      refine r_iload_n (pc := 60) 1 dX8_isOver_60 rfl rfl ?_
      exact r_zret (pc := 61) rfl rfl dX8_isOver_61
    · refine r_iconst (pc := 30) dX8_isOver_30 kc_iconst_0 ?_
      refine r_istore (pc := 31) [(4, .int (0 : Int32)), (3, .int (0 : Int32)), (0, .ref (ad en 21 0 0)), (1, .int p0), (2, .int p1)] dX8_isOver_31 (by decide) rfl ?_
      refine r_iload_n (pc := 33) 1 dX8_isOver_33 rfl rfl ?_
      refine r_iload (pc := 34) 0 dX8_isOver_34 rfl ?_
      refine r_icmp_ne_t (pc := 36) 60 dX8_isOver_36 (by decide) (by decide) ?_
      refine r_aload_n (pc := 39) 2 dX8_isOver_39 rfl rfl ?_
      refine r_iload_n (pc := 40) 3 dX8_isOver_40 rfl rfl ?_
      refine k_X8_placeOf (pc := 41) lm_RX8_179  (by decide) (Nat.le_of_ble_eq_true rfl) dX8_isOver_41 (fun w3 h10 => ?_)
      refine r_aload_n (pc := 44) 2 dX8_isOver_44 rfl rfl ?_
      refine r_iload_n (pc := 45) 4 dX8_isOver_45 rfl rfl ?_
      refine k_X8_placeOf (pc := 46) lm_RX8_179  (by decide) (Nat.le_of_ble_eq_true rfl) dX8_isOver_46 (fun w4 h11 => ?_)
      refine r_icmp_le (pc := 49) 56 dX8_isOver_49 (by decide) (fun h12 => ?_) (fun h12 => ?_)
      · refine r_iconst (pc := 56) dX8_isOver_56 kc_iconst_0 ?_
        refine r_goto (pc := 57) 61 dX8_isOver_57 (by decide) ?_
        exact r_zret (pc := 61) rfl rfl dX8_isOver_61
      · refine r_iconst (pc := 52) dX8_isOver_52 kc_iconst_1 ?_
        refine r_goto (pc := 53) 61 dX8_isOver_53 (by decide) ?_
        exact r_zret (pc := 61) rfl rfl dX8_isOver_61
theorem ok_X8_isOver : yOk yX8_isOver cX8_isOver 5 (some .boolean) := ⟨in_lwG (by decide +kernel) rfl, in_lwG (by decide +kernel) rfl, by decide, by decide, by decide⟩
theorem k_X8_isOver {en : En} {Ex : (Nat → Prop) → State → Prop} {mi : Mi} {α : Type} {ev : α → Option Value × Sg} {pc index : Nat} {lv : List (Nat × Value)} {rest : List Value} {σ : Sg} {N : Nat} {k : (Int32 × Sg) → Option α} {p0 : Int32} {p1 : Int32} (hlink : Cond.methodLink mi.1 index yX8_isOver ∈ lwG) (hroom : 2 + 1 ≤ mi.2.2.2.2) (hcat : (rest.map fun v => v.category).sum ≤ 8) (hd : decode mi.2.1 pc = .ok (.invokevirtual index, 3))  (h : ∀ w : Int32 × Sg, f_X8_isOver N p0 p1 σ = some w → RR en Ex mi ev (pc + 3) lv (.int w.1 :: rest) w.2 (k w)) : RR en Ex mi ev pc lv (.int p1 :: .int p0 :: .ref (ad en 21 0 0) :: rest) σ ((f_X8_isOver N p0 p1 σ).bind k) :=
  r_callV (n := 2) [.int p0, .int p1] ok_X8_isOver hlink (in_lwG (by decide +kernel) rfl) (in_lwG (by decide +kernel) rfl) (by decide +kernel) rfl hroom (by decide) o21 rfl rfl hcat (R_X8_isOver en N p0 p1  σ) (Nat.le_of_ble_eq_true rfl) hd h
set_option maxHeartbeats 4000000 in
theorem R_X8_both (en : En) (N : Nat) (p0 : Int32) (p1 : Int32)  (σ : Sg) : RR en ExT mi_X8_both evI 0 [(0, .ref (ad en 21 0 0)), (1, .int p0), (2, .int p1)] [] σ (f_X8_both N p0 p1 σ) := by
  unfold f_X8_both
  refine r_aload_n (pc := 0) 0 dX8_both_0 rfl rfl ?_
  refine r_iconst (pc := 1) dX8_both_1 kc_iconst_0 ?_
  refine p_X8_thrown (pc := 2)  lf_RX8_81 dX8_both_2 ?_
  refine r_aload_n (pc := 5) 0 dX8_both_5 rfl rfl ?_
  refine r_iload_n (pc := 6) 1 dX8_both_6 rfl rfl ?_
  refine k_X8_isPane (pc := 7) lm_RX8_188  (by decide) (Nat.le_of_ble_eq_true rfl) dX8_both_7 (fun w1 h1 => ?_)
  refine r_if_eq (pc := 10) 26 dX8_both_10 (by decide) (fun h2 => ?_) (fun h2 => ?_)
  · refine r_iconst (pc := 26) dX8_both_26 kc_iconst_m1 ?_
    exact r_iret (pc := 27) rfl dX8_both_27
  · refine r_aload_n (pc := 13) 0 dX8_both_13 rfl rfl ?_
    refine r_iload_n (pc := 14) 2 dX8_both_14 rfl rfl ?_
    refine k_X8_isPane (pc := 15) lm_RX8_188  (by decide) (Nat.le_of_ble_eq_true rfl) dX8_both_15 (fun w2 h3 => ?_)
    refine r_if_eq (pc := 18) 26 dX8_both_18 (by decide) (fun h4 => ?_) (fun h4 => ?_)
    · refine r_iconst (pc := 26) dX8_both_26 kc_iconst_m1 ?_
      exact r_iret (pc := 27) rfl dX8_both_27
    · refine r_iload_n (pc := 21) 1 dX8_both_21 rfl rfl ?_
      refine r_iload_n (pc := 22) 2 dX8_both_22 rfl rfl ?_
      refine r_icmp_ne (pc := 23) 28 dX8_both_23 (by decide) (fun h5 => ?_) (fun h5 => ?_)
      · refine r_iconst (pc := 26) dX8_both_26 kc_iconst_m1 ?_
        exact r_iret (pc := 27) rfl dX8_both_27
      · refine r_aload_n (pc := 28) 0 dX8_both_28 rfl rfl ?_
        refine k_X8_sees (pc := 29) lm_RX8_182  (by decide) (Nat.le_of_ble_eq_true rfl) dX8_both_29 (fun w3 h6 => ?_)
        refine r_aload_n (pc := 32) 0 dX8_both_32 rfl rfl ?_
        refine g_X8_coverLow (pc := 33)  lf_RX8_55 dX8_both_33 ?_
        refine r_iload_n (pc := 36) 1 dX8_both_36 rfl rfl ?_
        refine r_lald (pc := 37) (n := 7) o23_22 rfl dX8_both_37 (fun h7 => ?_)
        refine r_aload_n (pc := 38) 0 dX8_both_38 rfl rfl ?_
        refine g_X8_coverLow (pc := 39)  lf_RX8_55 dX8_both_39 ?_
        refine r_iload_n (pc := 42) 2 dX8_both_42 rfl rfl ?_
        refine r_lald (pc := 43) (n := 7) o23_22 rfl dX8_both_43 (fun h8 => ?_)
        refine r_land (pc := 44) dX8_both_44 ?_
        refine k_X8_ones (pc := 45) lm_RX8_172  (by decide) (Nat.le_of_ble_eq_true rfl) dX8_both_45 (fun w4 h9 => ?_)
        refine r_aload_n (pc := 48) 0 dX8_both_48 rfl rfl ?_
        refine g_X8_coverHigh (pc := 49)  lf_RX8_59 dX8_both_49 ?_
        refine r_iload_n (pc := 52) 1 dX8_both_52 rfl rfl ?_
        refine r_lald (pc := 53) (n := 7) o23_23 rfl dX8_both_53 (fun h10 => ?_)
        refine r_aload_n (pc := 54) 0 dX8_both_54 rfl rfl ?_
        refine g_X8_coverHigh (pc := 55)  lf_RX8_59 dX8_both_55 ?_
        refine r_iload_n (pc := 58) 2 dX8_both_58 rfl rfl ?_
        refine r_lald (pc := 59) (n := 7) o23_23 rfl dX8_both_59 (fun h11 => ?_)
        refine r_land (pc := 60) dX8_both_60 ?_
        refine k_X8_ones (pc := 61) lm_RX8_172  (by decide) (Nat.le_of_ble_eq_true rfl) dX8_both_61 (fun w5 h12 => ?_)
        refine r_iadd (pc := 64) dX8_both_64 ?_
        refine r_istore_n (pc := 65) [(3, .int (w4.1 + w5.1)), (0, .ref (ad en 21 0 0)), (1, .int p0), (2, .int p1)] dX8_both_65 rfl (by decide) rfl ?_
        refine r_aload_n (pc := 66) 1 dX8_both_66 rfl rfl ?_
        refine r_iload_n (pc := 67) 0 dX8_both_67 rfl rfl ?_
        refine r_aload_n (pc := 68) 1 dX8_both_68 rfl rfl ?_
        refine r_iload_n (pc := 69) 2 dX8_both_69 rfl rfl ?_
        refine r_iload_n (pc := 70) 3 dX8_both_70 rfl rfl ?_
        refine k_X8_isOver (pc := 71) lm_RX8_223  (by decide) (Nat.le_of_ble_eq_true rfl) dX8_both_71 (fun w6 h13 => ?_)
        refine r_if_eq (pc := 74) 81 dX8_both_74 (by decide) (fun h14 => ?_) (fun h14 => ?_)
        · refine r_iload_n (pc := 81) 3 dX8_both_81 rfl rfl ?_
          refine k_X8_tells (pc := 82) lm_RX8_107  (by decide) (Nat.le_of_ble_eq_true rfl) dX8_both_82 (fun w7 h15 => ?_)
          exact r_iret (pc := 85) rfl dX8_both_85
        · refine r_iload_n (pc := 77) 2 dX8_both_77 rfl rfl ?_
          refine r_goto (pc := 78) 82 dX8_both_78 (by decide) ?_
          refine k_X8_tells (pc := 82) lm_RX8_107  (by decide) (Nat.le_of_ble_eq_true rfl) dX8_both_82 (fun w8 h16 => ?_)
          exact r_iret (pc := 85) rfl dX8_both_85
theorem ok_X8_both : yOk yX8_both cX8_both 4 (some .int) := ⟨in_lwG (by decide +kernel) rfl, in_lwG (by decide +kernel) rfl, by decide, by decide, by decide⟩
theorem k_X8_both {en : En} {Ex : (Nat → Prop) → State → Prop} {mi : Mi} {α : Type} {ev : α → Option Value × Sg} {pc index : Nat} {lv : List (Nat × Value)} {rest : List Value} {σ : Sg} {N : Nat} {k : (Int32 × Sg) → Option α} {p0 : Int32} {p1 : Int32} (hlink : Cond.methodLink mi.1 index yX8_both ∈ lwG) (hroom : 6 + 1 ≤ mi.2.2.2.2) (hcat : (rest.map fun v => v.category).sum ≤ 8) (hd : decode mi.2.1 pc = .ok (.invokevirtual index, 3))  (h : ∀ w : Int32 × Sg, f_X8_both N p0 p1 σ = some w → RR en Ex mi ev (pc + 3) lv (.int w.1 :: rest) w.2 (k w)) : RR en Ex mi ev pc lv (.int p1 :: .int p0 :: .ref (ad en 21 0 0) :: rest) σ ((f_X8_both N p0 p1 σ).bind k) :=
  r_callV (n := 2) [.int p0, .int p1] ok_X8_both hlink (in_lwG (by decide +kernel) rfl) (in_lwG (by decide +kernel) rfl) (by decide +kernel) rfl hroom (by decide) o21 rfl rfl hcat (R_X8_both en N p0 p1  σ) (Nat.le_of_ble_eq_true rfl) hd h
set_option maxHeartbeats 4000000 in
theorem R_X8_cellsOf (en : En) (N : Nat) (p0 : Int32)  (σ : Sg) : RR en ExT mi_X8_cellsOf evI 0 [(0, .ref (ad en 21 0 0)), (1, .int p0)] [] σ (f_X8_cellsOf N p0 σ) := by
  unfold f_X8_cellsOf
  refine r_aload_n (pc := 0) 0 dX8_cellsOf_0 rfl rfl ?_
  refine g_X8_seenLow (pc := 1)  lf_RX8_62 dX8_cellsOf_1 ?_
  refine r_iload_n (pc := 4) 1 dX8_cellsOf_4 rfl rfl ?_
  refine r_lald (pc := 5) (n := 7) o23_24 rfl dX8_cellsOf_5 (fun h1 => ?_)
  refine k_X8_ones (pc := 6) lm_RX8_172  (by decide) (Nat.le_of_ble_eq_true rfl) dX8_cellsOf_6 (fun w1 h2 => ?_)
  refine r_aload_n (pc := 9) 0 dX8_cellsOf_9 rfl rfl ?_
  refine g_X8_seenHigh (pc := 10)  lf_RX8_65 dX8_cellsOf_10 ?_
  refine r_iload_n (pc := 13) 1 dX8_cellsOf_13 rfl rfl ?_
  refine r_lald (pc := 14) (n := 7) o23_25 rfl dX8_cellsOf_14 (fun h3 => ?_)
  refine k_X8_ones (pc := 15) lm_RX8_172  (by decide) (Nat.le_of_ble_eq_true rfl) dX8_cellsOf_15 (fun w2 h4 => ?_)
  refine r_iadd (pc := 18) dX8_cellsOf_18 ?_
  exact r_iret (pc := 19) rfl dX8_cellsOf_19
theorem ok_X8_cellsOf : yOk yX8_cellsOf cX8_cellsOf 2 (some .int) := ⟨in_lwG (by decide +kernel) rfl, in_lwG (by decide +kernel) rfl, by decide, by decide, by decide⟩
theorem k_X8_cellsOf {en : En} {Ex : (Nat → Prop) → State → Prop} {mi : Mi} {α : Type} {ev : α → Option Value × Sg} {pc index : Nat} {lv : List (Nat × Value)} {rest : List Value} {σ : Sg} {N : Nat} {k : (Int32 × Sg) → Option α} {p0 : Int32} (hlink : Cond.methodLink mi.1 index yX8_cellsOf ∈ lwG) (hroom : 2 + 1 ≤ mi.2.2.2.2) (hcat : (rest.map fun v => v.category).sum ≤ 8) (hd : decode mi.2.1 pc = .ok (.invokevirtual index, 3))  (h : ∀ w : Int32 × Sg, f_X8_cellsOf N p0 σ = some w → RR en Ex mi ev (pc + 3) lv (.int w.1 :: rest) w.2 (k w)) : RR en Ex mi ev pc lv (.int p0 :: .ref (ad en 21 0 0) :: rest) σ ((f_X8_cellsOf N p0 σ).bind k) :=
  r_callV (n := 1) [.int p0] ok_X8_cellsOf hlink (in_lwG (by decide +kernel) rfl) (in_lwG (by decide +kernel) rfl) (by decide +kernel) rfl hroom (by decide) o21 rfl rfl hcat (R_X8_cellsOf en N p0  σ) (Nat.le_of_ble_eq_true rfl) hd h
set_option maxHeartbeats 4000000 in
theorem RL_X8_shown_4 (en : En) (N : Nat) {k : Int32 → Int32 → Sg → Option (Int32 × Sg)}   (hk : ∀ (v1 : Int32) (v2 : Int32) (σ : Sg), RR en ExT mi_X8_shown evI 26 [(1, .int v1)] [] σ (k v1 v2 σ)) : ∀ (n : Nat) (v1 : Int32) (v2 : Int32) (σ : Sg), RR en ExT mi_X8_shown evI 4 [(0, .ref (ad en 21 0 0)), (1, .int v1), (2, .int v2)] [] σ (L_X8_shown_4 N k  n v1 v2 σ) := by
  intro n
  induction n with
  | zero => intro v1 v2 σ; exact r_none
  | succ n ih =>
    intro v1 v2 σ
    rw [L_X8_shown_4_s]
    refine r_iload_n (pc := 4) 2 dX8_shown_4 rfl rfl ?_
    refine r_aload_n (pc := 5) 0 dX8_shown_5 rfl rfl ?_
    refine g_X8_panes (pc := 6)  lf_RX8_143 dX8_shown_6 ?_
    refine r_icmp_ge (pc := 9) 26 dX8_shown_9 (by decide) (fun h1 => ?_) (fun h1 => ?_)
    · exact r_sub [1] rfl (hk v1 v2 σ)
    · refine r_iload_n (pc := 12) 1 dX8_shown_12 rfl rfl ?_
      refine r_aload_n (pc := 13) 0 dX8_shown_13 rfl rfl ?_
      refine r_iload_n (pc := 14) 2 dX8_shown_14 rfl rfl ?_
      refine k_X8_cellsOf (pc := 15) lm_RX8_185  (by decide) (Nat.le_of_ble_eq_true rfl) dX8_shown_15 (fun w1 h2 => ?_)
      refine r_iadd (pc := 18) dX8_shown_18 ?_
      refine r_istore_n (pc := 19) [(1, .int (v1 + w1.1)), (0, .ref (ad en 21 0 0)), (2, .int v2)] dX8_shown_19 rfl (by decide) rfl ?_
      refine r_iinc (pc := 20) 2 [(2, .int (v2 + (1 : Int32))), (1, .int (v1 + w1.1)), (0, .ref (ad en 21 0 0))] dX8_shown_20 rfl rfl (by decide) rfl ?_
      refine r_goto (pc := 23) 4 dX8_shown_23 (by decide) ?_
      exact r_sub [2, 1, 0] rfl (ih (v1 + w1.1) (v2 + (1 : Int32)) w1.2)
set_option maxHeartbeats 4000000 in
theorem R_X8_shown (en : En) (N : Nat)  (σ : Sg) : RR en ExT mi_X8_shown evI 0 [(0, .ref (ad en 21 0 0))] [] σ (f_X8_shown N σ) := by
  unfold f_X8_shown
  refine r_iconst (pc := 0) dX8_shown_0 kc_iconst_0 ?_
  refine r_istore_n (pc := 1) [(1, .int (0 : Int32)), (0, .ref (ad en 21 0 0))] dX8_shown_1 rfl (by decide) rfl ?_
  refine r_iconst (pc := 2) dX8_shown_2 kc_iconst_0 ?_
  refine r_istore_n (pc := 3) [(2, .int (0 : Int32)), (1, .int (0 : Int32)), (0, .ref (ad en 21 0 0))] dX8_shown_3 rfl (by decide) rfl ?_
  refine r_sub [2, 1, 0] rfl (RL_X8_shown_4 en N   (fun v1_2 v2_2 σ_2 => ?_) N (0 : Int32) (0 : Int32) σ)
  refine r_iload_n (pc := 26) 0 dX8_shown_26 rfl rfl ?_
  exact r_iret (pc := 27) rfl dX8_shown_27
theorem ok_X8_shown : yOk yX8_shown cX8_shown 3 (some .int) := ⟨in_lwG (by decide +kernel) rfl, in_lwG (by decide +kernel) rfl, by decide, by decide, by decide⟩
theorem k_X8_shown {en : En} {Ex : (Nat → Prop) → State → Prop} {mi : Mi} {α : Type} {ev : α → Option Value × Sg} {pc index : Nat} {lv : List (Nat × Value)} {rest : List Value} {σ : Sg} {N : Nat} {k : (Int32 × Sg) → Option α}  (hlink : Cond.methodLink mi.1 index yX8_shown ∈ lwG) (hroom : 3 + 1 ≤ mi.2.2.2.2) (hcat : (rest.map fun v => v.category).sum ≤ 8) (hd : decode mi.2.1 pc = .ok (.invokevirtual index, 3))  (h : ∀ w : Int32 × Sg, f_X8_shown N  σ = some w → RR en Ex mi ev (pc + 3) lv (.int w.1 :: rest) w.2 (k w)) : RR en Ex mi ev pc lv (.ref (ad en 21 0 0) :: rest) σ ((f_X8_shown N  σ).bind k) :=
  r_callV (n := 0) [] ok_X8_shown hlink (in_lwG (by decide +kernel) rfl) (in_lwG (by decide +kernel) rfl) (by decide +kernel) rfl hroom (by decide) o21 rfl rfl hcat (R_X8_shown en N   σ) (Nat.le_of_ble_eq_true rfl) hd h
set_option maxHeartbeats 4000000 in
theorem RL_X8_buried_13 (en : En) (N : Nat) {k : Int32 → Int32 → Sg → Option (Int32 × Sg)}   (hk : ∀ (v1 : Int32) (v2 : Int32) (σ : Sg), RR en ExT mi_X8_buried evI 59 [(0, .ref (ad en 21 0 0)), (1, .int v1)] [] σ (k v1 v2 σ)) : ∀ (n : Nat) (v1 : Int32) (v2 : Int32) (σ : Sg), RR en ExT mi_X8_buried evI 13 [(0, .ref (ad en 21 0 0)), (1, .int v1), (2, .int v2)] [] σ (L_X8_buried_13 N k  n v1 v2 σ) := by
  intro n
  induction n with
  | zero => intro v1 v2 σ; exact r_none
  | succ n ih =>
    intro v1 v2 σ
    rw [L_X8_buried_13_s]
    refine r_iload_n (pc := 13) 2 dX8_buried_13 rfl rfl ?_
    refine r_aload_n (pc := 14) 0 dX8_buried_14 rfl rfl ?_
    refine g_X8_panes (pc := 15)  lf_RX8_143 dX8_buried_15 ?_
    refine r_icmp_ge (pc := 18) 59 dX8_buried_18 (by decide) (fun h2 => ?_) (fun h2 => ?_)
    · exact r_sub [0, 1] rfl (hk v1 v2 σ)
    · refine r_iload_n (pc := 21) 1 dX8_buried_21 rfl rfl ?_
      refine r_aload_n (pc := 22) 0 dX8_buried_22 rfl rfl ?_
      refine g_X8_s (pc := 23)  lf_RX8_34 dX8_buried_23 ?_
      refine r_bipush (pc := 26) dX8_buried_26 kc_bipush_21 ?_
      refine r_iald (pc := 28) (n := 22) o22_14 rfl dX8_buried_28 (fun h3 => ?_)
      refine r_iload_n (pc := 29) 2 dX8_buried_29 rfl rfl ?_
      refine k_X8_has (pc := 30) lm_RX8_157  (by decide) (Nat.le_of_ble_eq_true rfl) dX8_buried_30 (fun w2 h4 => ?_)
      refine r_if_eq (pc := 33) 50 dX8_buried_33 (by decide) (fun h5 => ?_) (fun h5 => ?_)
      · refine r_iconst (pc := 50) dX8_buried_50 kc_iconst_0 ?_
        refine r_ior (pc := 51) dX8_buried_51 ?_
        refine r_istore_n (pc := 52) [(1, .int (v1 ||| (0 : Int32))), (0, .ref (ad en 21 0 0)), (2, .int v2)] dX8_buried_52 rfl (by decide) rfl ?_
        refine r_iinc (pc := 53) 2 [(2, .int (v2 + (1 : Int32))), (1, .int (v1 ||| (0 : Int32))), (0, .ref (ad en 21 0 0))] dX8_buried_53 rfl rfl (by decide) rfl ?_
        refine r_goto (pc := 56) 13 dX8_buried_56 (by decide) ?_
        exact r_sub [2, 1, 0] rfl (ih (v1 ||| (0 : Int32)) (v2 + (1 : Int32)) w2.2)
      · refine r_aload_n (pc := 36) 0 dX8_buried_36 rfl rfl ?_
        refine r_iload_n (pc := 37) 2 dX8_buried_37 rfl rfl ?_
        refine k_X8_cellsOf (pc := 38) lm_RX8_185  (by decide) (Nat.le_of_ble_eq_true rfl) dX8_buried_38 (fun w3 h6 => ?_)
        refine r_if_ne (pc := 41) 50 dX8_buried_41 (by decide) (fun h7 => ?_) (fun h7 => ?_)
        · refine r_iconst (pc := 44) dX8_buried_44 kc_iconst_1 ?_
          refine r_iload_n (pc := 45) 2 dX8_buried_45 rfl rfl ?_
          refine r_ishl (pc := 46) dX8_buried_46 ?_
          refine r_goto (pc := 47) 51 dX8_buried_47 (by decide) ?_
          refine r_ior (pc := 51) dX8_buried_51 ?_
          refine r_istore_n (pc := 52) [(1, .int (v1 ||| ((1 : Int32) <<< (v2 &&& 31)))), (0, .ref (ad en 21 0 0)), (2, .int v2)] dX8_buried_52 rfl (by decide) rfl ?_
          refine r_iinc (pc := 53) 2 [(2, .int (v2 + (1 : Int32))), (1, .int (v1 ||| ((1 : Int32) <<< (v2 &&& 31)))), (0, .ref (ad en 21 0 0))] dX8_buried_53 rfl rfl (by decide) rfl ?_
          refine r_goto (pc := 56) 13 dX8_buried_56 (by decide) ?_
          exact r_sub [2, 1, 0] rfl (ih (v1 ||| ((1 : Int32) <<< (v2 &&& 31))) (v2 + (1 : Int32)) w3.2)
        · refine r_iconst (pc := 50) dX8_buried_50 kc_iconst_0 ?_
          refine r_ior (pc := 51) dX8_buried_51 ?_
          refine r_istore_n (pc := 52) [(1, .int (v1 ||| (0 : Int32))), (0, .ref (ad en 21 0 0)), (2, .int v2)] dX8_buried_52 rfl (by decide) rfl ?_
          refine r_iinc (pc := 53) 2 [(2, .int (v2 + (1 : Int32))), (1, .int (v1 ||| (0 : Int32))), (0, .ref (ad en 21 0 0))] dX8_buried_53 rfl rfl (by decide) rfl ?_
          refine r_goto (pc := 56) 13 dX8_buried_56 (by decide) ?_
          exact r_sub [2, 1, 0] rfl (ih (v1 ||| (0 : Int32)) (v2 + (1 : Int32)) w3.2)
set_option maxHeartbeats 4000000 in
theorem R_X8_buried (en : En) (N : Nat)  (σ : Sg) : RR en ExT mi_X8_buried evI 0 [(0, .ref (ad en 21 0 0))] [] σ (f_X8_buried N σ) := by
  unfold f_X8_buried
  refine r_aload_n (pc := 0) 0 dX8_buried_0 rfl rfl ?_
  refine r_iconst (pc := 1) dX8_buried_1 kc_iconst_0 ?_
  refine p_X8_thrown (pc := 2)  lf_RX8_81 dX8_buried_2 ?_
  refine r_aload_n (pc := 5) 0 dX8_buried_5 rfl rfl ?_
  refine k_X8_sees (pc := 6) lm_RX8_182  (by decide) (Nat.le_of_ble_eq_true rfl) dX8_buried_6 (fun w1 h1 => ?_)
  refine r_iconst (pc := 9) dX8_buried_9 kc_iconst_0 ?_
  refine r_istore_n (pc := 10) [(1, .int (0 : Int32)), (0, .ref (ad en 21 0 0))] dX8_buried_10 rfl (by decide) rfl ?_
  refine r_iconst (pc := 11) dX8_buried_11 kc_iconst_0 ?_
  refine r_istore_n (pc := 12) [(2, .int (0 : Int32)), (1, .int (0 : Int32)), (0, .ref (ad en 21 0 0))] dX8_buried_12 rfl (by decide) rfl ?_
  refine r_sub [2, 1, 0] rfl (RL_X8_buried_13 en N   (fun v1_4 v2_4 σ_4 => ?_) N (0 : Int32) (0 : Int32) w1)
  refine r_aload_n (pc := 59) 0 dX8_buried_59 rfl rfl ?_
  refine r_iload_n (pc := 60) 1 dX8_buried_60 rfl rfl ?_
  refine r_bipush (pc := 61) dX8_buried_61 kc_bipush_96 ?_
  refine r_aload_n (pc := 63) 0 dX8_buried_63 rfl rfl ?_
  refine k_X8_shown (pc := 64) lm_RX8_219  (by decide) (Nat.le_of_ble_eq_true rfl) dX8_buried_64 (fun w5 h8 => ?_)
  refine r_isub (pc := 67) dX8_buried_67 ?_
  refine k_X8_tells (pc := 68) lm_RX8_107  (by decide) (Nat.le_of_ble_eq_true rfl) dX8_buried_68 (fun w6 h9 => ?_)
  exact r_iret (pc := 71) rfl dX8_buried_71
theorem ok_X8_buried : yOk yX8_buried cX8_buried 3 (some .int) := ⟨in_lwG (by decide +kernel) rfl, in_lwG (by decide +kernel) rfl, by decide, by decide, by decide⟩
theorem k_X8_buried {en : En} {Ex : (Nat → Prop) → State → Prop} {mi : Mi} {α : Type} {ev : α → Option Value × Sg} {pc index : Nat} {lv : List (Nat × Value)} {rest : List Value} {σ : Sg} {N : Nat} {k : (Int32 × Sg) → Option α}  (hlink : Cond.methodLink mi.1 index yX8_buried ∈ lwG) (hroom : 6 + 1 ≤ mi.2.2.2.2) (hcat : (rest.map fun v => v.category).sum ≤ 8) (hd : decode mi.2.1 pc = .ok (.invokevirtual index, 3))  (h : ∀ w : Int32 × Sg, f_X8_buried N  σ = some w → RR en Ex mi ev (pc + 3) lv (.int w.1 :: rest) w.2 (k w)) : RR en Ex mi ev pc lv (.ref (ad en 21 0 0) :: rest) σ ((f_X8_buried N  σ).bind k) :=
  r_callV (n := 0) [] ok_X8_buried hlink (in_lwG (by decide +kernel) rfl) (in_lwG (by decide +kernel) rfl) (by decide +kernel) rfl hroom (by decide) o21 rfl rfl hcat (R_X8_buried en N   σ) (Nat.le_of_ble_eq_true rfl) hd h
set_option maxHeartbeats 4000000 in
theorem RL_X8_comesTo_11 (en : En) (N : Nat) {k : Int32 → Sg → Option (Sg)} (ai : Nat) (a2 : Int32) (a3 : Int32) (a4 : Int32) (hai : (22, ai, 0) ∈ obs) (hk : ∀ (v5 : Int32) (σ : Sg), RR en ExT mi_X8_comesTo evV 39 [(1, .ref (ad en 22 ai 0)), (2, .int a2), (3, .int a3), (4, .int a4)] [] σ (k v5 σ)) : ∀ (n : Nat) (v5 : Int32) (σ : Sg), RR en ExT mi_X8_comesTo evV 11 [(1, .ref (ad en 22 ai 0)), (2, .int a2), (3, .int a3), (4, .int a4), (5, .int v5)] [] σ (L_X8_comesTo_11 N k ai a2 a3 a4 n v5 σ) := by
  intro n
  induction n with
  | zero => intro v5 σ; exact r_none
  | succ n ih =>
    intro v5 σ
    rw [L_X8_comesTo_11_s]
    refine r_iload (pc := 11) 4 dX8_comesTo_11 rfl ?_
    refine r_iload_n (pc := 13) 2 dX8_comesTo_13 rfl rfl ?_
    refine r_icmp_ge (pc := 14) 39 dX8_comesTo_14 (by decide) (fun h2 => ?_) (fun h2 => ?_)
    · exact r_sub [0, 1, 2, 3] rfl (hk v5 σ)
    · refine r_aload_n (pc := 17) 0 dX8_comesTo_17 rfl rfl ?_
      refine r_bipush (pc := 18) dX8_comesTo_18 kc_bipush_14 ?_
      refine r_iload (pc := 20) 4 dX8_comesTo_20 rfl ?_
      refine r_iadd (pc := 22) dX8_comesTo_22 ?_
      refine r_aload_n (pc := 23) 0 dX8_comesTo_23 rfl rfl ?_
      refine r_bipush (pc := 24) dX8_comesTo_24 kc_bipush_14 ?_
      refine r_iload (pc := 26) 4 dX8_comesTo_26 rfl ?_
      refine r_iadd (pc := 28) dX8_comesTo_28 ?_
      refine r_iconst (pc := 29) dX8_comesTo_29 kc_iconst_1 ?_
      refine r_iadd (pc := 30) dX8_comesTo_30 ?_
      refine r_iald (pc := 31) (n := (mlen ai)) hai rfl dX8_comesTo_31 (fun h3 => ?_)
      refine r_iast (pc := 32) (n := (mlen ai)) hai rfl rfl dX8_comesTo_32 (fun h4 => ?_)
      refine r_iinc (pc := 33) 4 [(5, .int (v5 + (1 : Int32))), (1, .ref (ad en 22 ai 0)), (2, .int a2), (3, .int a3), (4, .int a4)] dX8_comesTo_33 rfl rfl (by decide) rfl ?_
      refine r_goto (pc := 36) 11 dX8_comesTo_36 (by decide) ?_
      exact r_sub [1, 2, 3, 4, 0] rfl (ih (v5 + (1 : Int32)) (uI σ 22 ai 0 ((14 : Int32) + v5).toNatClampNeg (rI σ 22 ai 0 (((14 : Int32) + v5) + (1 : Int32)).toNatClampNeg)))
set_option maxHeartbeats 4000000 in
theorem RL_X8_comesTo_42 (en : En) (N : Nat) {k : Int32 → Sg → Option (Sg)} (ai : Nat) (a3 : Int32) (a4 : Int32) (hai : (22, ai, 0) ∈ obs) (hk : ∀ (v5 : Int32) (σ : Sg), RR en ExT mi_X8_comesTo evV 70 [(1, .ref (ad en 22 ai 0)), (3, .int a3), (4, .int a4)] [] σ (k v5 σ)) : ∀ (n : Nat) (v5 : Int32) (σ : Sg), RR en ExT mi_X8_comesTo evV 42 [(1, .ref (ad en 22 ai 0)), (3, .int a3), (4, .int a4), (5, .int v5)] [] σ (L_X8_comesTo_42 N k ai a3 a4 n v5 σ) := by
  intro n
  induction n with
  | zero => intro v5 σ; exact r_none
  | succ n ih =>
    intro v5 σ
    rw [L_X8_comesTo_42_s]
    refine r_iload (pc := 42) 3 dX8_comesTo_42 rfl ?_
    refine r_iload_n (pc := 44) 1 dX8_comesTo_44 rfl rfl ?_
    refine r_icmp_le (pc := 45) 70 dX8_comesTo_45 (by decide) (fun h5 => ?_) (fun h5 => ?_)
    · exact r_sub [0, 1, 2] rfl (hk v5 σ)
    · refine r_aload_n (pc := 48) 0 dX8_comesTo_48 rfl rfl ?_
      refine r_bipush (pc := 49) dX8_comesTo_49 kc_bipush_14 ?_
      refine r_iload (pc := 51) 3 dX8_comesTo_51 rfl ?_
      refine r_iadd (pc := 53) dX8_comesTo_53 ?_
      refine r_aload_n (pc := 54) 0 dX8_comesTo_54 rfl rfl ?_
      refine r_bipush (pc := 55) dX8_comesTo_55 kc_bipush_14 ?_
      refine r_iload (pc := 57) 3 dX8_comesTo_57 rfl ?_
      refine r_iadd (pc := 59) dX8_comesTo_59 ?_
      refine r_iconst (pc := 60) dX8_comesTo_60 kc_iconst_1 ?_
      refine r_isub (pc := 61) dX8_comesTo_61 ?_
      refine r_iald (pc := 62) (n := (mlen ai)) hai rfl dX8_comesTo_62 (fun h6 => ?_)
      refine r_iast (pc := 63) (n := (mlen ai)) hai rfl rfl dX8_comesTo_63 (fun h7 => ?_)
      refine r_iinc (pc := 64) 3 [(5, .int (v5 + (-1 : Int32))), (1, .ref (ad en 22 ai 0)), (3, .int a3), (4, .int a4)] dX8_comesTo_64 rfl rfl (by decide) rfl ?_
      refine r_goto (pc := 67) 42 dX8_comesTo_67 (by decide) ?_
      exact r_sub [1, 2, 3, 0] rfl (ih (v5 + (-1 : Int32)) (uI σ 22 ai 0 ((14 : Int32) + v5).toNatClampNeg (rI σ 22 ai 0 (((14 : Int32) + v5) - (1 : Int32)).toNatClampNeg)))
set_option maxHeartbeats 4000000 in
theorem R_X8_comesTo (en : En) (N : Nat) (ai : Nat) (p1 : Int32) (p2 : Int32) (hai : (22, ai, 0) ∈ obs) (σ : Sg) : RR en ExT mi_X8_comesTo evV 0 [(0, .ref (ad en 21 0 0)), (1, .ref (ad en 22 ai 0)), (2, .int p1), (3, .int p2)] [] σ (f_X8_comesTo N ai p1 p2 σ) := by
  unfold f_X8_comesTo
  refine r_aload_n (pc := 0) 1 dX8_comesTo_0 rfl rfl ?_
  refine r_bipush (pc := 1) dX8_comesTo_1 kc_bipush_14 ?_
  refine r_iload_n (pc := 3) 2 dX8_comesTo_3 rfl rfl ?_
  refine r_iadd (pc := 4) dX8_comesTo_4 ?_
  refine r_iald (pc := 5) (n := (mlen ai)) hai rfl dX8_comesTo_5 (fun h1 => ?_)
  refine r_istore (pc := 6) [(4, .int (rI σ 22 ai 0 ((14 : Int32) + p1).toNatClampNeg)), (0, .ref (ad en 21 0 0)), (1, .ref (ad en 22 ai 0)), (2, .int p1), (3, .int p2)] dX8_comesTo_6 (by decide) rfl ?_
  refine r_iload_n (pc := 8) 3 dX8_comesTo_8 rfl rfl ?_
  refine r_istore (pc := 9) [(5, .int p1), (4, .int (rI σ 22 ai 0 ((14 : Int32) + p1).toNatClampNeg)), (0, .ref (ad en 21 0 0)), (1, .ref (ad en 22 ai 0)), (2, .int p1), (3, .int p2)] dX8_comesTo_9 (by decide) rfl ?_
  refine r_sub [3, 4, 5, 1, 0] rfl (RL_X8_comesTo_11 en N ai p1 p2 (rI σ 22 ai 0 ((14 : Int32) + p1).toNatClampNeg) hai (fun v5_1 σ_1 => ?_) N p1 σ)
  refine r_iload_n (pc := 39) 1 dX8_comesTo_39 rfl rfl ?_
  refine r_istore (pc := 40) [(5, .int p1), (1, .ref (ad en 22 ai 0)), (2, .int p1), (3, .int p2), (4, .int (rI σ 22 ai 0 ((14 : Int32) + p1).toNatClampNeg))] dX8_comesTo_40 (by decide) rfl ?_
  refine r_sub [1, 3, 4, 0] rfl (RL_X8_comesTo_42 en N ai p2 (rI σ 22 ai 0 ((14 : Int32) + p1).toNatClampNeg) hai (fun v5_2 σ_2 => ?_) N p1 σ_1)
  refine r_aload_n (pc := 70) 0 dX8_comesTo_70 rfl rfl ?_
  refine r_bipush (pc := 71) dX8_comesTo_71 kc_bipush_14 ?_
  refine r_iload_n (pc := 73) 1 dX8_comesTo_73 rfl rfl ?_
  refine r_iadd (pc := 74) dX8_comesTo_74 ?_
  refine r_iload (pc := 75) 2 dX8_comesTo_75 rfl ?_
  refine r_iast (pc := 77) (n := (mlen ai)) hai rfl rfl dX8_comesTo_77 (fun h8 => ?_)
  exact r_vret (pc := 78) rfl dX8_comesTo_78
theorem ok_X8_comesTo : yOk yX8_comesTo cX8_comesTo 6 none := ⟨in_lwG (by decide +kernel) rfl, in_lwG (by decide +kernel) rfl, by decide, by decide, by decide⟩
theorem k_X8_comesTo {en : En} {Ex : (Nat → Prop) → State → Prop} {mi : Mi} {α : Type} {ev : α → Option Value × Sg} {pc index : Nat} {lv : List (Nat × Value)} {rest : List Value} {σ : Sg} {N : Nat} {k : (Sg) → Option α} {ai : Nat} {p1 : Int32} {p2 : Int32} (hlink : Cond.methodLink mi.1 index yX8_comesTo ∈ lwG) (hroom : 1 + 1 ≤ mi.2.2.2.2) (hcat : (rest.map fun v => v.category).sum ≤ 8) (hd : decode mi.2.1 pc = .ok (.invokevirtual index, 3)) (hai : (22, ai, 0) ∈ obs) (h : ∀ w : Sg, f_X8_comesTo N ai p1 p2 σ = some w → RR en Ex mi ev (pc + 3) lv (rest) w (k w)) : RR en Ex mi ev pc lv (.int p2 :: .int p1 :: .ref (ad en 22 ai 0) :: .ref (ad en 21 0 0) :: rest) σ ((f_X8_comesTo N ai p1 p2 σ).bind k) :=
  r_callV (n := 3) [.ref (ad en 22 ai 0), .int p1, .int p2] ok_X8_comesTo hlink (in_lwG (by decide +kernel) rfl) (in_lwG (by decide +kernel) rfl) (by decide +kernel) rfl hroom (by decide) o21 rfl rfl hcat (R_X8_comesTo en N ai p1 p2 hai σ) (Nat.le_of_ble_eq_true rfl) hd h
set_option maxHeartbeats 4000000 in
theorem R_X8_isPart (en : En) (N : Nat) (p0 : Int32) (p1 : Int32) (p2 : Int32)  (σ : Sg) : RR en ExT mi_X8_isPart evI 0 [(0, .ref (ad en 21 0 0)), (1, .int p0), (2, .int p1), (3, .int p2)] [] σ (f_X8_isPart N p0 p1 p2 σ) := by
  unfold f_X8_isPart
  refine r_iload_n (pc := 0) 2 dX8_isPart_0 rfl rfl ?_
  refine r_iconst (pc := 1) dX8_isPart_1 kc_iconst_0 ?_
  refine r_aload_n (pc := 2) 0 dX8_isPart_2 rfl rfl ?_
  refine g_X8_rowSize (pc := 3)  lf_RX8_16 dX8_isPart_3 ?_
  refine r_iload_n (pc := 6) 1 dX8_isPart_6 rfl rfl ?_
  refine r_iald (pc := 7) (n := 6) o22_7 rfl dX8_isPart_7 (fun h1 => ?_)
  refine k_X8_in (pc := 8) lm_RX8_91  (by decide) (Nat.le_of_ble_eq_true rfl) dX8_isPart_8 (fun w1 h2 => ?_)
  refine r_if_eq (pc := 11) 30 dX8_isPart_11 (by decide) (fun h3 => ?_) (fun h3 => ?_)
  · refine r_iconst (pc := 30) dX8_isPart_30 kc_iconst_0 ?_
    exact r_zret (pc := 31) rfl rfl dX8_isPart_31
  · refine r_iload_n (pc := 14) 3 dX8_isPart_14 rfl rfl ?_
    refine r_aload_n (pc := 15) 0 dX8_isPart_15 rfl rfl ?_
    refine g_X8_rowSize (pc := 16)  lf_RX8_16 dX8_isPart_16 ?_
    refine r_iload_n (pc := 19) 1 dX8_isPart_19 rfl rfl ?_
    refine r_iald (pc := 20) (n := 6) o22_7 rfl dX8_isPart_20 (fun h4 => ?_)
    refine r_iload_n (pc := 21) 2 dX8_isPart_21 rfl rfl ?_
    refine r_isub (pc := 22) dX8_isPart_22 ?_
    refine r_icmp_gt (pc := 23) 30 dX8_isPart_23 (by decide) (fun h5 => ?_) (fun h5 => ?_)
    · refine r_iconst (pc := 30) dX8_isPart_30 kc_iconst_0 ?_
      exact r_zret (pc := 31) rfl rfl dX8_isPart_31
    · refine r_iconst (pc := 26) dX8_isPart_26 kc_iconst_1 ?_
      refine r_goto (pc := 27) 31 dX8_isPart_27 (by decide) ?_
      exact r_zret (pc := 31) rfl rfl dX8_isPart_31
theorem ok_X8_isPart : yOk yX8_isPart cX8_isPart 4 (some .boolean) := ⟨in_lwG (by decide +kernel) rfl, in_lwG (by decide +kernel) rfl, by decide, by decide, by decide⟩
theorem k_X8_isPart {en : En} {Ex : (Nat → Prop) → State → Prop} {mi : Mi} {α : Type} {ev : α → Option Value × Sg} {pc index : Nat} {lv : List (Nat × Value)} {rest : List Value} {σ : Sg} {N : Nat} {k : (Int32 × Sg) → Option α} {p0 : Int32} {p1 : Int32} {p2 : Int32} (hlink : Cond.methodLink mi.1 index yX8_isPart ∈ lwG) (hroom : 2 + 1 ≤ mi.2.2.2.2) (hcat : (rest.map fun v => v.category).sum ≤ 8) (hd : decode mi.2.1 pc = .ok (.invokevirtual index, 3))  (h : ∀ w : Int32 × Sg, f_X8_isPart N p0 p1 p2 σ = some w → RR en Ex mi ev (pc + 3) lv (.int w.1 :: rest) w.2 (k w)) : RR en Ex mi ev pc lv (.int p2 :: .int p1 :: .int p0 :: .ref (ad en 21 0 0) :: rest) σ ((f_X8_isPart N p0 p1 p2 σ).bind k) :=
  r_callV (n := 3) [.int p0, .int p1, .int p2] ok_X8_isPart hlink (in_lwG (by decide +kernel) rfl) (in_lwG (by decide +kernel) rfl) (by decide +kernel) rfl hroom (by decide) o21 rfl rfl hcat (R_X8_isPart en N p0 p1 p2  σ) (Nat.le_of_ble_eq_true rfl) hd h
set_option maxHeartbeats 4000000 in
theorem RL_X8_copy_105 (en : En) (N : Nat) {k : Int32 → Sg → Option (Int32 × Sg)} (a5 : Int32) (a6 : Int32) (a7 : Int32)  (hk : ∀ (v8 : Int32) (σ : Sg), RR en ExT mi_X8_copy evI 159 [] [] σ (k v8 σ)) : ∀ (n : Nat) (v8 : Int32) (σ : Sg), RR en ExT mi_X8_copy evI 105 [(0, .ref (ad en 21 0 0)), (5, .int a5), (6, .int a6), (7, .int a7), (8, .int v8)] [] σ (L_X8_copy_105 N k a5 a6 a7 n v8 σ) := by
  intro n
  induction n with
  | zero => intro v8 σ; exact r_none
  | succ n ih =>
    intro v8 σ
    rw [L_X8_copy_105_s]
    refine r_iload (pc := 105) 4 dX8_copy_105 rfl ?_
    refine r_iload (pc := 107) 1 dX8_copy_107 rfl ?_
    refine r_icmp_ge (pc := 109) 159 dX8_copy_109 (by decide) (fun h17 => ?_) (fun h17 => ?_)
    · exact r_sub [] rfl (hk v8 σ)
    · refine r_iload (pc := 112) 3 dX8_copy_112 rfl ?_
      refine r_iload (pc := 114) 2 dX8_copy_114 rfl ?_
      refine r_icmp_le (pc := 116) 129 dX8_copy_116 (by decide) (fun h18 => ?_) (fun h18 => ?_)
      · refine r_iload (pc := 129) 4 dX8_copy_129 rfl ?_
        refine r_istore (pc := 131) [(9, .int v8), (0, .ref (ad en 21 0 0)), (5, .int a5), (6, .int a6), (7, .int a7), (8, .int v8)] dX8_copy_131 (by decide) rfl ?_
        refine r_aload_n (pc := 133) 1 dX8_copy_133 rfl rfl ?_
        refine g_X8_rows (pc := 134)  lf_RX8_13 dX8_copy_134 ?_
        refine r_iload (pc := 137) 4 dX8_copy_137 rfl ?_
        refine r_iload (pc := 139) 0 dX8_copy_139 rfl ?_
        refine r_iadd (pc := 141) dX8_copy_141 ?_
        refine r_aload_n (pc := 142) 1 dX8_copy_142 rfl rfl ?_
        refine g_X8_rows (pc := 143)  lf_RX8_13 dX8_copy_143 ?_
        refine r_iload (pc := 146) 3 dX8_copy_146 rfl ?_
        refine r_iload (pc := 148) 0 dX8_copy_148 rfl ?_
        refine r_iadd (pc := 150) dX8_copy_150 ?_
        refine r_iald (pc := 151) (n := 240) o22_6 rfl dX8_copy_151 (fun h19 => ?_)
        refine r_iast (pc := 152) (n := 240) o22_6 rfl rfl dX8_copy_152 (fun h20 => ?_)
        refine r_iinc (pc := 153) 5 [(8, .int (v8 + (1 : Int32))), (9, .int v8), (0, .ref (ad en 21 0 0)), (5, .int a5), (6, .int a6), (7, .int a7)] dX8_copy_153 rfl rfl (by decide) rfl ?_
        refine r_goto (pc := 156) 105 dX8_copy_156 (by decide) ?_
        exact r_sub [2, 3, 4, 5, 0] rfl (ih (v8 + (1 : Int32)) (uI σ 22 6 0 (a7 + v8).toNatClampNeg (rI σ 22 6 0 (a6 + v8).toNatClampNeg)))
      · refine r_iload (pc := 119) 1 dX8_copy_119 rfl ?_
        refine r_iconst (pc := 121) dX8_copy_121 kc_iconst_1 ?_
        refine r_isub (pc := 122) dX8_copy_122 ?_
        refine r_iload (pc := 123) 4 dX8_copy_123 rfl ?_
        refine r_isub (pc := 125) dX8_copy_125 ?_
        refine r_goto (pc := 126) 131 dX8_copy_126 (by decide) ?_
        refine r_istore (pc := 131) [(9, .int ((a5 - (1 : Int32)) - v8)), (0, .ref (ad en 21 0 0)), (5, .int a5), (6, .int a6), (7, .int a7), (8, .int v8)] dX8_copy_131 (by decide) rfl ?_
        refine r_aload_n (pc := 133) 1 dX8_copy_133 rfl rfl ?_
        refine g_X8_rows (pc := 134)  lf_RX8_13 dX8_copy_134 ?_
        refine r_iload (pc := 137) 4 dX8_copy_137 rfl ?_
        refine r_iload (pc := 139) 0 dX8_copy_139 rfl ?_
        refine r_iadd (pc := 141) dX8_copy_141 ?_
        refine r_aload_n (pc := 142) 1 dX8_copy_142 rfl rfl ?_
        refine g_X8_rows (pc := 143)  lf_RX8_13 dX8_copy_143 ?_
        refine r_iload (pc := 146) 3 dX8_copy_146 rfl ?_
        refine r_iload (pc := 148) 0 dX8_copy_148 rfl ?_
        refine r_iadd (pc := 150) dX8_copy_150 ?_
        refine r_iald (pc := 151) (n := 240) o22_6 rfl dX8_copy_151 (fun h21 => ?_)
        refine r_iast (pc := 152) (n := 240) o22_6 rfl rfl dX8_copy_152 (fun h22 => ?_)
        refine r_iinc (pc := 153) 5 [(8, .int (v8 + (1 : Int32))), (9, .int ((a5 - (1 : Int32)) - v8)), (0, .ref (ad en 21 0 0)), (5, .int a5), (6, .int a6), (7, .int a7)] dX8_copy_153 rfl rfl (by decide) rfl ?_
        refine r_goto (pc := 156) 105 dX8_copy_156 (by decide) ?_
        exact r_sub [2, 3, 4, 5, 0] rfl (ih (v8 + (1 : Int32)) (uI σ 22 6 0 (a7 + ((a5 - (1 : Int32)) - v8)).toNatClampNeg (rI σ 22 6 0 (a6 + ((a5 - (1 : Int32)) - v8)).toNatClampNeg)))
set_option maxHeartbeats 4000000 in
theorem R_X8_copy (en : En) (N : Nat) (p0 : Int32) (p1 : Int32) (p2 : Int32) (p3 : Int32) (p4 : Int32)  (σ : Sg) : RR en ExT mi_X8_copy evI 0 [(0, .ref (ad en 21 0 0)), (1, .int p0), (2, .int p1), (3, .int p2), (4, .int p3), (5, .int p4)] [] σ (f_X8_copy N p0 p1 p2 p3 p4 σ) := by
  unfold f_X8_copy
  refine r_aload_n (pc := 0) 0 dX8_copy_0 rfl rfl ?_
  refine r_iconst (pc := 1) dX8_copy_1 kc_iconst_0 ?_
  refine p_X8_thrown (pc := 2)  lf_RX8_81 dX8_copy_2 ?_
  refine r_iload_n (pc := 5) 1 dX8_copy_5 rfl rfl ?_
  refine k_X8_isRow (pc := 6) lm_RX8_95  (by decide) (Nat.le_of_ble_eq_true rfl) dX8_copy_6 (fun w1 h1 => ?_)
  refine r_if_eq (pc := 9) 19 dX8_copy_9 (by decide) (fun h2 => ?_) (fun h2 => ?_)
  · refine r_iconst (pc := 19) dX8_copy_19 kc_iconst_m1 ?_
    exact r_iret (pc := 20) rfl dX8_copy_20
  · refine r_iload_n (pc := 12) 3 dX8_copy_12 rfl rfl ?_
    refine k_X8_isRow (pc := 13) lm_RX8_95  (by decide) (Nat.le_of_ble_eq_true rfl) dX8_copy_13 (fun w2 h3 => ?_)
    refine r_if_ne (pc := 16) 21 dX8_copy_16 (by decide) (fun h4 => ?_) (fun h4 => ?_)
    · refine r_iconst (pc := 19) dX8_copy_19 kc_iconst_m1 ?_
      exact r_iret (pc := 20) rfl dX8_copy_20
    · refine r_iload (pc := 21) 5 dX8_copy_21 rfl ?_
      refine r_if_ge (pc := 23) 32 dX8_copy_23 (by decide) (fun h5 => ?_) (fun h5 => ?_)
      · refine r_aload_n (pc := 32) 0 dX8_copy_32 rfl rfl ?_
        refine g_X8_rowSize (pc := 33)  lf_RX8_16 dX8_copy_33 ?_
        refine r_iload_n (pc := 36) 1 dX8_copy_36 rfl rfl ?_
        refine r_iald (pc := 37) (n := 6) o22_7 rfl dX8_copy_37 (fun h6 => ?_)
        refine r_if_lt (pc := 38) 50 dX8_copy_38 (by decide) (fun h7 => ?_) (fun h7 => ?_)
        · refine r_aload_n (pc := 50) 0 dX8_copy_50 rfl rfl ?_
          refine r_iconst (pc := 51) dX8_copy_51 kc_iconst_1 ?_
          refine k_X8_found (pc := 52) lm_RX8_99  (by decide) (Nat.le_of_ble_eq_true rfl) dX8_copy_52 (fun w3 h8 => ?_)
          exact r_iret (pc := 55) rfl dX8_copy_55
        · refine r_aload_n (pc := 41) 0 dX8_copy_41 rfl rfl ?_
          refine g_X8_rowSize (pc := 42)  lf_RX8_16 dX8_copy_42 ?_
          refine r_iload_n (pc := 45) 3 dX8_copy_45 rfl rfl ?_
          refine r_iald (pc := 46) (n := 6) o22_7 rfl dX8_copy_46 (fun h9 => ?_)
          refine r_if_ge (pc := 47) 56 dX8_copy_47 (by decide) (fun h10 => ?_) (fun h10 => ?_)
          · refine r_aload_n (pc := 56) 0 dX8_copy_56 rfl rfl ?_
            refine r_iload_n (pc := 57) 1 dX8_copy_57 rfl rfl ?_
            refine r_iload_n (pc := 58) 2 dX8_copy_58 rfl rfl ?_
            refine r_iload (pc := 59) 5 dX8_copy_59 rfl ?_
            refine k_X8_isPart (pc := 61) lm_RX8_110  (by decide) (Nat.le_of_ble_eq_true rfl) dX8_copy_61 (fun w4 h11 => ?_)
            refine r_if_eq (pc := 64) 79 dX8_copy_64 (by decide) (fun h12 => ?_) (fun h12 => ?_)
            · refine r_aload_n (pc := 79) 0 dX8_copy_79 rfl rfl ?_
              refine r_iconst (pc := 80) dX8_copy_80 kc_iconst_2 ?_
              refine k_X8_found (pc := 81) lm_RX8_99  (by decide) (Nat.le_of_ble_eq_true rfl) dX8_copy_81 (fun w5 h13 => ?_)
              exact r_iret (pc := 84) rfl dX8_copy_84
            · refine r_aload_n (pc := 67) 0 dX8_copy_67 rfl rfl ?_
              refine r_iload_n (pc := 68) 3 dX8_copy_68 rfl rfl ?_
              refine r_iload (pc := 69) 4 dX8_copy_69 rfl ?_
              refine r_iload (pc := 71) 5 dX8_copy_71 rfl ?_
              refine k_X8_isPart (pc := 73) lm_RX8_110  (by decide) (Nat.le_of_ble_eq_true rfl) dX8_copy_73 (fun w6 h14 => ?_)
              refine r_if_ne (pc := 76) 85 dX8_copy_76 (by decide) (fun h15 => ?_) (fun h15 => ?_)
              · refine r_aload_n (pc := 79) 0 dX8_copy_79 rfl rfl ?_
                refine r_iconst (pc := 80) dX8_copy_80 kc_iconst_2 ?_
                refine k_X8_found (pc := 81) lm_RX8_99  (by decide) (Nat.le_of_ble_eq_true rfl) dX8_copy_81 (fun w7 h16 => ?_)
                exact r_iret (pc := 84) rfl dX8_copy_84
              · refine r_bipush (pc := 85) dX8_copy_85 kc_bipush_40 ?_
                refine r_iload_n (pc := 87) 1 dX8_copy_87 rfl rfl ?_
                refine r_imul (pc := 88) dX8_copy_88 ?_
                refine r_iload_n (pc := 89) 2 dX8_copy_89 rfl rfl ?_
                refine r_iadd (pc := 90) dX8_copy_90 ?_
                refine r_istore (pc := 91) [(6, .int (((40 : Int32) * p0) + p1)), (0, .ref (ad en 21 0 0)), (1, .int p0), (2, .int p1), (3, .int p2), (4, .int p3), (5, .int p4)] dX8_copy_91 (by decide) rfl ?_
                refine r_bipush (pc := 93) dX8_copy_93 kc_bipush_40 ?_
                refine r_iload_n (pc := 95) 4 dX8_copy_95 rfl rfl ?_
                refine r_imul (pc := 96) dX8_copy_96 ?_
                refine r_iload (pc := 97) 5 dX8_copy_97 rfl ?_
                refine r_iadd (pc := 99) dX8_copy_99 ?_
                refine r_istore (pc := 100) [(7, .int (((40 : Int32) * p2) + p3)), (6, .int (((40 : Int32) * p0) + p1)), (0, .ref (ad en 21 0 0)), (1, .int p0), (2, .int p1), (3, .int p2), (4, .int p3), (5, .int p4)] dX8_copy_100 (by decide) rfl ?_
                refine r_iconst (pc := 102) dX8_copy_102 kc_iconst_0 ?_
                refine r_istore (pc := 103) [(8, .int (0 : Int32)), (7, .int (((40 : Int32) * p2) + p3)), (6, .int (((40 : Int32) * p0) + p1)), (0, .ref (ad en 21 0 0)), (1, .int p0), (2, .int p1), (3, .int p2), (4, .int p3), (5, .int p4)] dX8_copy_103 (by decide) rfl ?_
                refine r_sub [3, 8, 2, 1, 0] rfl (RL_X8_copy_105 en N p4 (((40 : Int32) * p0) + p1) (((40 : Int32) * p2) + p3)  (fun v8_8 σ_8 => ?_) N (0 : Int32) w6.2)
                refine r_iconst (pc := 159) dX8_copy_159 kc_iconst_1 ?_
                exact r_iret (pc := 160) rfl dX8_copy_160
          · refine r_aload_n (pc := 50) 0 dX8_copy_50 rfl rfl ?_
            refine r_iconst (pc := 51) dX8_copy_51 kc_iconst_1 ?_
            refine k_X8_found (pc := 52) lm_RX8_99  (by decide) (Nat.le_of_ble_eq_true rfl) dX8_copy_52 (fun w9 h23 => ?_)
            exact r_iret (pc := 55) rfl dX8_copy_55
      · refine r_aload_n (pc := 26) 0 dX8_copy_26 rfl rfl ?_
        refine r_iconst (pc := 27) dX8_copy_27 kc_iconst_5 ?_
        refine k_X8_found (pc := 28) lm_RX8_99  (by decide) (Nat.le_of_ble_eq_true rfl) dX8_copy_28 (fun w10 h24 => ?_)
        exact r_iret (pc := 31) rfl dX8_copy_31
theorem ok_X8_copy : yOk yX8_copy cX8_copy 10 (some .int) := ⟨in_lwG (by decide +kernel) rfl, in_lwG (by decide +kernel) rfl, by decide, by decide, by decide⟩
theorem k_X8_copy {en : En} {Ex : (Nat → Prop) → State → Prop} {mi : Mi} {α : Type} {ev : α → Option Value × Sg} {pc index : Nat} {lv : List (Nat × Value)} {rest : List Value} {σ : Sg} {N : Nat} {k : (Int32 × Sg) → Option α} {p0 : Int32} {p1 : Int32} {p2 : Int32} {p3 : Int32} {p4 : Int32} (hlink : Cond.methodLink mi.1 index yX8_copy ∈ lwG) (hroom : 3 + 1 ≤ mi.2.2.2.2) (hcat : (rest.map fun v => v.category).sum ≤ 8) (hd : decode mi.2.1 pc = .ok (.invokevirtual index, 3))  (h : ∀ w : Int32 × Sg, f_X8_copy N p0 p1 p2 p3 p4 σ = some w → RR en Ex mi ev (pc + 3) lv (.int w.1 :: rest) w.2 (k w)) : RR en Ex mi ev pc lv (.int p4 :: .int p3 :: .int p2 :: .int p1 :: .int p0 :: .ref (ad en 21 0 0) :: rest) σ ((f_X8_copy N p0 p1 p2 p3 p4 σ).bind k) :=
  r_callV (n := 5) [.int p0, .int p1, .int p2, .int p3, .int p4] ok_X8_copy hlink (in_lwG (by decide +kernel) rfl) (in_lwG (by decide +kernel) rfl) (by decide +kernel) rfl hroom (by decide) o21 rfl rfl hcat (R_X8_copy en N p0 p1 p2 p3 p4  σ) (Nat.le_of_ble_eq_true rfl) hd h
set_option maxHeartbeats 4000000 in
theorem RL_X8_manySeen_4 (en : En) (N : Nat) {k : Int32 → Int32 → Option (Int32 × Sg)} (σ : Sg)  (hk : ∀ (v1 : Int32) (v2 : Int32), RR en ExT mi_X8_manySeen evI 44 [(1, .int v1)] [] σ (k v1 v2)) : ∀ (n : Nat) (v1 : Int32) (v2 : Int32), RR en ExT mi_X8_manySeen evI 4 [(0, .ref (ad en 21 0 0)), (1, .int v1), (2, .int v2)] [] σ (L_X8_manySeen_4 N k σ n v1 v2) := by
  intro n
  induction n with
  | zero => intro v1 v2; exact r_none
  | succ n ih =>
    intro v1 v2
    rw [L_X8_manySeen_4_s]
    refine r_iload_n (pc := 4) 2 dX8_manySeen_4 rfl rfl ?_
    refine r_aload_n (pc := 5) 0 dX8_manySeen_5 rfl rfl ?_
    refine g_X8_panes (pc := 6)  lf_RX8_143 dX8_manySeen_6 ?_
    refine r_icmp_ge (pc := 9) 44 dX8_manySeen_9 (by decide) (fun h1 => ?_) (fun h1 => ?_)
    · exact r_sub [1] rfl (hk v1 v2)
    · refine r_iload_n (pc := 12) 1 dX8_manySeen_12 rfl rfl ?_
      refine r_aload_n (pc := 13) 0 dX8_manySeen_13 rfl rfl ?_
      refine g_X8_seenLow (pc := 14)  lf_RX8_62 dX8_manySeen_14 ?_
      refine r_iload_n (pc := 17) 2 dX8_manySeen_17 rfl rfl ?_
      refine r_lald (pc := 18) (n := 7) o23_24 rfl dX8_manySeen_18 (fun h2 => ?_)
      refine r_aload_n (pc := 19) 0 dX8_manySeen_19 rfl rfl ?_
      refine g_X8_seenHigh (pc := 20)  lf_RX8_65 dX8_manySeen_20 ?_
      refine r_iload_n (pc := 23) 2 dX8_manySeen_23 rfl rfl ?_
      refine r_lald (pc := 24) (n := 7) o23_25 rfl dX8_manySeen_24 (fun h3 => ?_)
      refine r_lor (pc := 25) dX8_manySeen_25 ?_
      refine r_lconst (pc := 26) (v := 0) dX8_manySeen_26 rfl ?_
      refine r_lcmp (pc := 27) dX8_manySeen_27 ?_
      refine r_if_eq (pc := 28) 35 dX8_manySeen_28 (by decide) (fun h4 => ?_) (fun h4 => ?_)
      · refine r_iconst (pc := 35) dX8_manySeen_35 kc_iconst_0 ?_
        refine r_iadd (pc := 36) dX8_manySeen_36 ?_
        refine r_istore_n (pc := 37) [(1, .int (v1 + (0 : Int32))), (0, .ref (ad en 21 0 0)), (2, .int v2)] dX8_manySeen_37 rfl (by decide) rfl ?_
        refine r_iinc (pc := 38) 2 [(2, .int (v2 + (1 : Int32))), (1, .int (v1 + (0 : Int32))), (0, .ref (ad en 21 0 0))] dX8_manySeen_38 rfl rfl (by decide) rfl ?_
        refine r_goto (pc := 41) 4 dX8_manySeen_41 (by decide) ?_
        exact r_sub [2, 1, 0] rfl (ih (v1 + (0 : Int32)) (v2 + (1 : Int32)))
      · refine r_iconst (pc := 31) dX8_manySeen_31 kc_iconst_1 ?_
        refine r_goto (pc := 32) 36 dX8_manySeen_32 (by decide) ?_
        refine r_iadd (pc := 36) dX8_manySeen_36 ?_
        refine r_istore_n (pc := 37) [(1, .int (v1 + (1 : Int32))), (0, .ref (ad en 21 0 0)), (2, .int v2)] dX8_manySeen_37 rfl (by decide) rfl ?_
        refine r_iinc (pc := 38) 2 [(2, .int (v2 + (1 : Int32))), (1, .int (v1 + (1 : Int32))), (0, .ref (ad en 21 0 0))] dX8_manySeen_38 rfl rfl (by decide) rfl ?_
        refine r_goto (pc := 41) 4 dX8_manySeen_41 (by decide) ?_
        exact r_sub [2, 1, 0] rfl (ih (v1 + (1 : Int32)) (v2 + (1 : Int32)))
set_option maxHeartbeats 4000000 in
theorem R_X8_manySeen (en : En) (N : Nat)  (σ : Sg) : RR en ExT mi_X8_manySeen evI 0 [(0, .ref (ad en 21 0 0))] [] σ (f_X8_manySeen N σ) := by
  unfold f_X8_manySeen
  refine r_iconst (pc := 0) dX8_manySeen_0 kc_iconst_0 ?_
  refine r_istore_n (pc := 1) [(1, .int (0 : Int32)), (0, .ref (ad en 21 0 0))] dX8_manySeen_1 rfl (by decide) rfl ?_
  refine r_iconst (pc := 2) dX8_manySeen_2 kc_iconst_0 ?_
  refine r_istore_n (pc := 3) [(2, .int (0 : Int32)), (1, .int (0 : Int32)), (0, .ref (ad en 21 0 0))] dX8_manySeen_3 rfl (by decide) rfl ?_
  refine r_sub [2, 1, 0] rfl (RL_X8_manySeen_4 en N σ  (fun v1_1 v2_1 => ?_) N (0 : Int32) (0 : Int32))
  refine r_iload_n (pc := 44) 0 dX8_manySeen_44 rfl rfl ?_
  exact r_iret (pc := 45) rfl dX8_manySeen_45
theorem ok_X8_manySeen : yOk yX8_manySeen cX8_manySeen 3 (some .int) := ⟨in_lwG (by decide +kernel) rfl, in_lwG (by decide +kernel) rfl, by decide, by decide, by decide⟩
theorem k_X8_manySeen {en : En} {Ex : (Nat → Prop) → State → Prop} {mi : Mi} {α : Type} {ev : α → Option Value × Sg} {pc index : Nat} {lv : List (Nat × Value)} {rest : List Value} {σ : Sg} {N : Nat} {k : (Int32 × Sg) → Option α}  (hlink : Cond.methodLink mi.1 index yX8_manySeen ∈ lwG) (hroom : 1 + 1 ≤ mi.2.2.2.2) (hcat : (rest.map fun v => v.category).sum ≤ 8) (hd : decode mi.2.1 pc = .ok (.invokevirtual index, 3))  (h : ∀ w : Int32 × Sg, f_X8_manySeen N  σ = some w → RR en Ex mi ev (pc + 3) lv (.int w.1 :: rest) w.2 (k w)) : RR en Ex mi ev pc lv (.ref (ad en 21 0 0) :: rest) σ ((f_X8_manySeen N  σ).bind k) :=
  r_callV (n := 0) [] ok_X8_manySeen hlink (in_lwG (by decide +kernel) rfl) (in_lwG (by decide +kernel) rfl) (by decide +kernel) rfl hroom (by decide) o21 rfl rfl hcat (R_X8_manySeen en N   σ) (Nat.le_of_ble_eq_true rfl) hd h
set_option maxHeartbeats 4000000 in
theorem R_X8_isOne (en : En) (N : Nat) (p0 : Int32) (p1 : Int32)  (σ : Sg) : RR en ExT mi_X8_isOne evI 0 [(0, .int p0), (1, .int p1)] [] σ (f_X8_isOne N p0 p1 σ) := by
  unfold f_X8_isOne
  refine r_iload_n (pc := 0) 0 dX8_isOne_0 rfl rfl ?_
  refine r_iload_n (pc := 1) 1 dX8_isOne_1 rfl rfl ?_
  refine r_icmp_eq (pc := 2) 25 dX8_isOne_2 (by decide) (fun h1 => ?_) (fun h1 => ?_)
  · refine r_iconst (pc := 25) dX8_isOne_25 kc_iconst_1 ?_
    refine r_goto (pc := 26) 30 dX8_isOne_26 (by decide) ?_
    exact r_zret (pc := 30) rfl rfl dX8_isOne_30
  · refine r_iload_n (pc := 5) 1 dX8_isOne_5 rfl rfl ?_
    refine r_iconst (pc := 6) dX8_isOne_6 kc_iconst_1 ?_
    refine r_icmp_ne (pc := 7) 15 dX8_isOne_7 (by decide) (fun h2 => ?_) (fun h2 => ?_)
    · refine r_iload_n (pc := 10) 0 dX8_isOne_10 rfl rfl ?_
      refine r_iconst (pc := 11) dX8_isOne_11 kc_iconst_4 ?_
      refine r_icmp_eq (pc := 12) 25 dX8_isOne_12 (by decide) (fun h3 => ?_) (fun h3 => ?_)
      · refine r_iconst (pc := 25) dX8_isOne_25 kc_iconst_1 ?_
        refine r_goto (pc := 26) 30 dX8_isOne_26 (by decide) ?_
        exact r_zret (pc := 30) rfl rfl dX8_isOne_30
      · refine r_iload_n (pc := 15) 1 dX8_isOne_15 rfl rfl ?_
        refine r_iconst (pc := 16) dX8_isOne_16 kc_iconst_2 ?_
        refine r_icmp_ne (pc := 17) 29 dX8_isOne_17 (by decide) (fun h4 => ?_) (fun h4 => ?_)
        · refine r_iload_n (pc := 20) 0 dX8_isOne_20 rfl rfl ?_
          refine r_iconst (pc := 21) dX8_isOne_21 kc_iconst_5 ?_
          refine r_icmp_ne (pc := 22) 29 dX8_isOne_22 (by decide) (fun h5 => ?_) (fun h5 => ?_)
          · refine r_iconst (pc := 25) dX8_isOne_25 kc_iconst_1 ?_
            refine r_goto (pc := 26) 30 dX8_isOne_26 (by decide) ?_
            exact r_zret (pc := 30) rfl rfl dX8_isOne_30
          · refine r_iconst (pc := 29) dX8_isOne_29 kc_iconst_0 ?_
            exact r_zret (pc := 30) rfl rfl dX8_isOne_30
        · refine r_iconst (pc := 29) dX8_isOne_29 kc_iconst_0 ?_
          exact r_zret (pc := 30) rfl rfl dX8_isOne_30
    · refine r_iload_n (pc := 15) 1 dX8_isOne_15 rfl rfl ?_
      refine r_iconst (pc := 16) dX8_isOne_16 kc_iconst_2 ?_
      refine r_icmp_ne (pc := 17) 29 dX8_isOne_17 (by decide) (fun h6 => ?_) (fun h6 => ?_)
      · refine r_iload_n (pc := 20) 0 dX8_isOne_20 rfl rfl ?_
        refine r_iconst (pc := 21) dX8_isOne_21 kc_iconst_5 ?_
        refine r_icmp_ne (pc := 22) 29 dX8_isOne_22 (by decide) (fun h7 => ?_) (fun h7 => ?_)
        · refine r_iconst (pc := 25) dX8_isOne_25 kc_iconst_1 ?_
          refine r_goto (pc := 26) 30 dX8_isOne_26 (by decide) ?_
          exact r_zret (pc := 30) rfl rfl dX8_isOne_30
        · refine r_iconst (pc := 29) dX8_isOne_29 kc_iconst_0 ?_
          exact r_zret (pc := 30) rfl rfl dX8_isOne_30
      · refine r_iconst (pc := 29) dX8_isOne_29 kc_iconst_0 ?_
        exact r_zret (pc := 30) rfl rfl dX8_isOne_30
theorem ok_X8_isOne : yOk yX8_isOne cX8_isOne 2 (some .boolean) := ⟨in_lwG (by decide +kernel) rfl, in_lwG (by decide +kernel) rfl, by decide, by decide, by decide⟩
theorem k_X8_isOne {en : En} {Ex : (Nat → Prop) → State → Prop} {mi : Mi} {α : Type} {ev : α → Option Value × Sg} {pc index : Nat} {lv : List (Nat × Value)} {rest : List Value} {σ : Sg} {N : Nat} {k : (Int32 × Sg) → Option α} {p0 : Int32} {p1 : Int32} (hlink : Cond.methodLink mi.1 index yX8_isOne ∈ lwG) (hroom : 1 + 1 ≤ mi.2.2.2.2) (hcat : (rest.map fun v => v.category).sum ≤ 8) (hd : decode mi.2.1 pc = .ok (.invokestatic index, 3))  (h : ∀ w : Int32 × Sg, f_X8_isOne N p0 p1 σ = some w → RR en Ex mi ev (pc + 3) lv (.int w.1 :: rest) w.2 (k w)) : RR en Ex mi ev pc lv (.int p1 :: .int p0 :: rest) σ ((f_X8_isOne N p0 p1 σ).bind k) :=
  r_callS (n := 2) [.int p0, .int p1] ok_X8_isOne hlink (in_lwG (by decide +kernel) rfl) (by decide +kernel) rfl hroom (by decide) hcat (R_X8_isOne en N p0 p1  σ) (Nat.le_of_ble_eq_true rfl) hd h
set_option maxHeartbeats 4000000 in
theorem RL_X8_countOf_102 (en : En) (N : Nat) {k : Int32 → Int32 → Sg → Option (Int32 × Sg)} (a1 : Int32)  (hk : ∀ (v2 : Int32) (v3 : Int32) (σ : Sg), RR en ExT mi_X8_countOf evI 225 [(2, .int v2)] [] σ (k v2 v3 σ)) : ∀ (n : Nat) (v2 : Int32) (v3 : Int32) (σ : Sg), RR en ExT mi_X8_countOf evI 102 [(0, .ref (ad en 21 0 0)), (1, .int a1), (2, .int v2), (3, .int v3)] [] σ (L_X8_countOf_102 N k a1 n v2 v3 σ) := by
  intro n
  induction n with
  | zero => intro v2 v3 σ; exact r_none
  | succ n ih =>
    intro v2 v3 σ
    rw [L_X8_countOf_102_s]
    refine r_iload_n (pc := 102) 3 dX8_countOf_102 rfl rfl ?_
    refine r_bipush (pc := 103) dX8_countOf_103 kc_bipush_7 ?_
    refine r_icmp_ge (pc := 105) 225 dX8_countOf_105 (by decide) (fun h8 => ?_) (fun h8 => ?_)
    · exact r_sub [2] rfl (hk v2 v3 σ)
    · refine r_iload_n (pc := 108) 1 dX8_countOf_108 rfl rfl ?_
      refine r_bipush (pc := 109) dX8_countOf_109 kc_bipush_6 ?_
      refine r_icmp_ne (pc := 111) 129 dX8_countOf_111 (by decide) (fun h9 => ?_) (fun h9 => ?_)
      · refine r_iload_n (pc := 114) 3 dX8_countOf_114 rfl rfl ?_
        refine r_bipush (pc := 115) dX8_countOf_115 kc_bipush_6 ?_
        refine r_icmp_ge (pc := 117) 129 dX8_countOf_117 (by decide) (fun h10 => ?_) (fun h10 => ?_)
        · refine r_iload_n (pc := 129) 1 dX8_countOf_129 rfl rfl ?_
          refine r_bipush (pc := 130) dX8_countOf_130 kc_bipush_7 ?_
          refine r_icmp_ne (pc := 132) 149 dX8_countOf_132 (by decide) (fun h11 => ?_) (fun h11 => ?_)
          · refine r_iload_n (pc := 135) 3 dX8_countOf_135 rfl rfl ?_
            refine r_iconst (pc := 136) dX8_countOf_136 kc_iconst_4 ?_
            refine r_icmp_ge (pc := 137) 149 dX8_countOf_137 (by decide) (fun h12 => ?_) (fun h12 => ?_)
            · refine r_iload_n (pc := 149) 1 dX8_countOf_149 rfl rfl ?_
              refine r_bipush (pc := 150) dX8_countOf_150 kc_bipush_8 ?_
              refine r_icmp_ne (pc := 152) 173 dX8_countOf_152 (by decide) (fun h13 => ?_) (fun h13 => ?_)
              · refine r_iload_n (pc := 155) 3 dX8_countOf_155 rfl rfl ?_
                refine r_iconst (pc := 156) dX8_countOf_156 kc_iconst_3 ?_
                refine r_icmp_ge (pc := 157) 173 dX8_countOf_157 (by decide) (fun h14 => ?_) (fun h14 => ?_)
                · refine r_iconst (pc := 173) dX8_countOf_173 kc_iconst_0 ?_
                  refine r_istore (pc := 174) [(4, .int (0 : Int32)), (0, .ref (ad en 21 0 0)), (1, .int a1), (2, .int v2), (3, .int v3)] dX8_countOf_174 (by decide) rfl ?_
                  refine r_iload_n (pc := 176) 3 dX8_countOf_176 rfl rfl ?_
                  refine r_iload (pc := 177) 0 dX8_countOf_177 rfl ?_
                  refine r_if_ne_t (pc := 179) 212 dX8_countOf_179 (by decide) (by decide) ?_
                  refine r_iload_n (pc := 182) 2 dX8_countOf_182 rfl rfl ?_
                  refine r_bipush (pc := 183) dX8_countOf_183 kc_bipush_8 ?_
                  refine r_icmp_le (pc := 185) 216 dX8_countOf_185 (by decide) (fun h15 => ?_) (fun h15 => ?_)
                  · refine r_iconst (pc := 216) dX8_countOf_216 kc_iconst_0 ?_
                    refine r_iadd (pc := 217) dX8_countOf_217 ?_
                    refine r_istore_n (pc := 218) [(2, .int (v2 + (0 : Int32))), (4, .int (0 : Int32)), (0, .ref (ad en 21 0 0)), (1, .int a1), (3, .int v3)] dX8_countOf_218 rfl (by decide) rfl ?_
                    refine r_iinc (pc := 219) 4 [(3, .int (v3 + (1 : Int32))), (2, .int (v2 + (0 : Int32))), (4, .int (0 : Int32)), (0, .ref (ad en 21 0 0)), (1, .int a1)] dX8_countOf_219 rfl rfl (by decide) rfl ?_
                    refine r_goto (pc := 222) 102 dX8_countOf_222 (by decide) ?_
                    exact r_sub [3, 4, 1, 0] rfl (ih (v2 + (0 : Int32)) (v3 + (1 : Int32)) σ)
                  · refine r_iload_n (pc := 188) 4 dX8_countOf_188 rfl rfl ?_
                    refine r_aload_n (pc := 189) 1 dX8_countOf_189 rfl rfl ?_
                    refine g_X8_panes (pc := 190)  lf_RX8_143 dX8_countOf_190 ?_
                    refine r_icmp_ge (pc := 193) 216 dX8_countOf_193 (by decide) (fun h16 => ?_) (fun h16 => ?_)
                    · refine r_iconst (pc := 216) dX8_countOf_216 kc_iconst_0 ?_
                      refine r_iadd (pc := 217) dX8_countOf_217 ?_
                      refine r_istore_n (pc := 218) [(2, .int (v2 + (0 : Int32))), (4, .int (0 : Int32)), (0, .ref (ad en 21 0 0)), (1, .int a1), (3, .int v3)] dX8_countOf_218 rfl (by decide) rfl ?_
                      refine r_iinc (pc := 219) 4 [(3, .int (v3 + (1 : Int32))), (2, .int (v2 + (0 : Int32))), (4, .int (0 : Int32)), (0, .ref (ad en 21 0 0)), (1, .int a1)] dX8_countOf_219 rfl rfl (by decide) rfl ?_
                      refine r_goto (pc := 222) 102 dX8_countOf_222 (by decide) ?_
                      exact r_sub [3, 4, 1, 0] rfl (ih (v2 + (0 : Int32)) (v3 + (1 : Int32)) σ)
                    · refine r_aload_n (pc := 196) 1 dX8_countOf_196 rfl rfl ?_
                      refine g_X8_kind (pc := 197)  lf_RX8_25 dX8_countOf_197 ?_
                      refine r_iload_n (pc := 200) 4 dX8_countOf_200 rfl rfl ?_
                      refine r_iald (pc := 201) (n := 7) o22_11 rfl dX8_countOf_201 (fun h17 => ?_)
                      refine r_iload_n (pc := 202) 2 dX8_countOf_202 rfl rfl ?_
                      refine r_bipush (pc := 203) dX8_countOf_203 kc_bipush_8 ?_
                      refine r_isub (pc := 205) dX8_countOf_205 ?_
                      refine k_X8_isOne (pc := 206) lm_RX8_194  (by decide) (Nat.le_of_ble_eq_true rfl) dX8_countOf_206 (fun w5 h18 => ?_)
                      refine r_if_eq (pc := 209) 216 dX8_countOf_209 (by decide) (fun h19 => ?_) (fun h19 => ?_)
                      · refine r_iconst (pc := 216) dX8_countOf_216 kc_iconst_0 ?_
                        refine r_iadd (pc := 217) dX8_countOf_217 ?_
                        refine r_istore_n (pc := 218) [(2, .int (v2 + (0 : Int32))), (4, .int (0 : Int32)), (0, .ref (ad en 21 0 0)), (1, .int a1), (3, .int v3)] dX8_countOf_218 rfl (by decide) rfl ?_
                        refine r_iinc (pc := 219) 4 [(3, .int (v3 + (1 : Int32))), (2, .int (v2 + (0 : Int32))), (4, .int (0 : Int32)), (0, .ref (ad en 21 0 0)), (1, .int a1)] dX8_countOf_219 rfl rfl (by decide) rfl ?_
                        refine r_goto (pc := 222) 102 dX8_countOf_222 (by decide) ?_
                        exact r_sub [3, 4, 1, 0] rfl (ih (v2 + (0 : Int32)) (v3 + (1 : Int32)) w5.2)
                      · refine r_iconst (pc := 212) dX8_countOf_212 kc_iconst_1 ?_
                        refine r_goto (pc := 213) 217 dX8_countOf_213 (by decide) ?_
                        refine r_iadd (pc := 217) dX8_countOf_217 ?_
                        refine r_istore_n (pc := 218) [(2, .int (v2 + (1 : Int32))), (4, .int (0 : Int32)), (0, .ref (ad en 21 0 0)), (1, .int a1), (3, .int v3)] dX8_countOf_218 rfl (by decide) rfl ?_
                        refine r_iinc (pc := 219) 4 [(3, .int (v3 + (1 : Int32))), (2, .int (v2 + (1 : Int32))), (4, .int (0 : Int32)), (0, .ref (ad en 21 0 0)), (1, .int a1)] dX8_countOf_219 rfl rfl (by decide) rfl ?_
                        refine r_goto (pc := 222) 102 dX8_countOf_222 (by decide) ?_
                        exact r_sub [3, 4, 1, 0] rfl (ih (v2 + (1 : Int32)) (v3 + (1 : Int32)) w5.2)
                · refine r_aload_n (pc := 160) 0 dX8_countOf_160 rfl rfl ?_
                  refine g_X8_keptDeeds (pc := 161)  lf_RX8_46 dX8_countOf_161 ?_
                  refine r_iload_n (pc := 164) 3 dX8_countOf_164 rfl rfl ?_
                  refine r_iald (pc := 165) (n := 3) o22_19 rfl dX8_countOf_165 (fun h20 => ?_)
                  refine r_if_lt (pc := 166) 173 dX8_countOf_166 (by decide) (fun h21 => ?_) (fun h21 => ?_)
                  · refine r_iconst (pc := 173) dX8_countOf_173 kc_iconst_0 ?_
                    refine r_istore (pc := 174) [(4, .int (0 : Int32)), (0, .ref (ad en 21 0 0)), (1, .int a1), (2, .int v2), (3, .int v3)] dX8_countOf_174 (by decide) rfl ?_
                    refine r_iload_n (pc := 176) 3 dX8_countOf_176 rfl rfl ?_
                    refine r_iload (pc := 177) 0 dX8_countOf_177 rfl ?_
                    refine r_if_ne_t (pc := 179) 212 dX8_countOf_179 (by decide) (by decide) ?_
                    refine r_iload_n (pc := 182) 2 dX8_countOf_182 rfl rfl ?_
                    refine r_bipush (pc := 183) dX8_countOf_183 kc_bipush_8 ?_
                    refine r_icmp_le (pc := 185) 216 dX8_countOf_185 (by decide) (fun h22 => ?_) (fun h22 => ?_)
                    · refine r_iconst (pc := 216) dX8_countOf_216 kc_iconst_0 ?_
                      refine r_iadd (pc := 217) dX8_countOf_217 ?_
                      refine r_istore_n (pc := 218) [(2, .int (v2 + (0 : Int32))), (4, .int (0 : Int32)), (0, .ref (ad en 21 0 0)), (1, .int a1), (3, .int v3)] dX8_countOf_218 rfl (by decide) rfl ?_
                      refine r_iinc (pc := 219) 4 [(3, .int (v3 + (1 : Int32))), (2, .int (v2 + (0 : Int32))), (4, .int (0 : Int32)), (0, .ref (ad en 21 0 0)), (1, .int a1)] dX8_countOf_219 rfl rfl (by decide) rfl ?_
                      refine r_goto (pc := 222) 102 dX8_countOf_222 (by decide) ?_
                      exact r_sub [3, 4, 1, 0] rfl (ih (v2 + (0 : Int32)) (v3 + (1 : Int32)) σ)
                    · refine r_iload_n (pc := 188) 4 dX8_countOf_188 rfl rfl ?_
                      refine r_aload_n (pc := 189) 1 dX8_countOf_189 rfl rfl ?_
                      refine g_X8_panes (pc := 190)  lf_RX8_143 dX8_countOf_190 ?_
                      refine r_icmp_ge (pc := 193) 216 dX8_countOf_193 (by decide) (fun h23 => ?_) (fun h23 => ?_)
                      · refine r_iconst (pc := 216) dX8_countOf_216 kc_iconst_0 ?_
                        refine r_iadd (pc := 217) dX8_countOf_217 ?_
                        refine r_istore_n (pc := 218) [(2, .int (v2 + (0 : Int32))), (4, .int (0 : Int32)), (0, .ref (ad en 21 0 0)), (1, .int a1), (3, .int v3)] dX8_countOf_218 rfl (by decide) rfl ?_
                        refine r_iinc (pc := 219) 4 [(3, .int (v3 + (1 : Int32))), (2, .int (v2 + (0 : Int32))), (4, .int (0 : Int32)), (0, .ref (ad en 21 0 0)), (1, .int a1)] dX8_countOf_219 rfl rfl (by decide) rfl ?_
                        refine r_goto (pc := 222) 102 dX8_countOf_222 (by decide) ?_
                        exact r_sub [3, 4, 1, 0] rfl (ih (v2 + (0 : Int32)) (v3 + (1 : Int32)) σ)
                      · refine r_aload_n (pc := 196) 1 dX8_countOf_196 rfl rfl ?_
                        refine g_X8_kind (pc := 197)  lf_RX8_25 dX8_countOf_197 ?_
                        refine r_iload_n (pc := 200) 4 dX8_countOf_200 rfl rfl ?_
                        refine r_iald (pc := 201) (n := 7) o22_11 rfl dX8_countOf_201 (fun h24 => ?_)
                        refine r_iload_n (pc := 202) 2 dX8_countOf_202 rfl rfl ?_
                        refine r_bipush (pc := 203) dX8_countOf_203 kc_bipush_8 ?_
                        refine r_isub (pc := 205) dX8_countOf_205 ?_
                        refine k_X8_isOne (pc := 206) lm_RX8_194  (by decide) (Nat.le_of_ble_eq_true rfl) dX8_countOf_206 (fun w6 h25 => ?_)
                        refine r_if_eq (pc := 209) 216 dX8_countOf_209 (by decide) (fun h26 => ?_) (fun h26 => ?_)
                        · refine r_iconst (pc := 216) dX8_countOf_216 kc_iconst_0 ?_
                          refine r_iadd (pc := 217) dX8_countOf_217 ?_
                          refine r_istore_n (pc := 218) [(2, .int (v2 + (0 : Int32))), (4, .int (0 : Int32)), (0, .ref (ad en 21 0 0)), (1, .int a1), (3, .int v3)] dX8_countOf_218 rfl (by decide) rfl ?_
                          refine r_iinc (pc := 219) 4 [(3, .int (v3 + (1 : Int32))), (2, .int (v2 + (0 : Int32))), (4, .int (0 : Int32)), (0, .ref (ad en 21 0 0)), (1, .int a1)] dX8_countOf_219 rfl rfl (by decide) rfl ?_
                          refine r_goto (pc := 222) 102 dX8_countOf_222 (by decide) ?_
                          exact r_sub [3, 4, 1, 0] rfl (ih (v2 + (0 : Int32)) (v3 + (1 : Int32)) w6.2)
                        · refine r_iconst (pc := 212) dX8_countOf_212 kc_iconst_1 ?_
                          refine r_goto (pc := 213) 217 dX8_countOf_213 (by decide) ?_
                          refine r_iadd (pc := 217) dX8_countOf_217 ?_
                          refine r_istore_n (pc := 218) [(2, .int (v2 + (1 : Int32))), (4, .int (0 : Int32)), (0, .ref (ad en 21 0 0)), (1, .int a1), (3, .int v3)] dX8_countOf_218 rfl (by decide) rfl ?_
                          refine r_iinc (pc := 219) 4 [(3, .int (v3 + (1 : Int32))), (2, .int (v2 + (1 : Int32))), (4, .int (0 : Int32)), (0, .ref (ad en 21 0 0)), (1, .int a1)] dX8_countOf_219 rfl rfl (by decide) rfl ?_
                          refine r_goto (pc := 222) 102 dX8_countOf_222 (by decide) ?_
                          exact r_sub [3, 4, 1, 0] rfl (ih (v2 + (1 : Int32)) (v3 + (1 : Int32)) w6.2)
                  · refine r_iconst (pc := 169) dX8_countOf_169 kc_iconst_1 ?_
                    refine r_goto (pc := 170) 174 dX8_countOf_170 (by decide) ?_
                    refine r_istore (pc := 174) [(4, .int (1 : Int32)), (0, .ref (ad en 21 0 0)), (1, .int a1), (2, .int v2), (3, .int v3)] dX8_countOf_174 (by decide) rfl ?_
                    refine r_iload_n (pc := 176) 3 dX8_countOf_176 rfl rfl ?_
                    refine r_iload (pc := 177) 0 dX8_countOf_177 rfl ?_
                    refine r_if_ne_f (pc := 179) 212 dX8_countOf_179 (by decide) (by decide) ?_
                    refine r_iconst (pc := 212) dX8_countOf_212 kc_iconst_1 ?_
                    refine r_goto (pc := 213) 217 dX8_countOf_213 (by decide) ?_
                    refine r_iadd (pc := 217) dX8_countOf_217 ?_
                    refine r_istore_n (pc := 218) [(2, .int (v2 + (1 : Int32))), (4, .int (1 : Int32)), (0, .ref (ad en 21 0 0)), (1, .int a1), (3, .int v3)] dX8_countOf_218 rfl (by decide) rfl ?_
                    refine r_iinc (pc := 219) 4 [(3, .int (v3 + (1 : Int32))), (2, .int (v2 + (1 : Int32))), (4, .int (1 : Int32)), (0, .ref (ad en 21 0 0)), (1, .int a1)] dX8_countOf_219 rfl rfl (by decide) rfl ?_
                    refine r_goto (pc := 222) 102 dX8_countOf_222 (by decide) ?_
                    exact r_sub [3, 4, 1, 0] rfl (ih (v2 + (1 : Int32)) (v3 + (1 : Int32)) σ)
              · refine r_iconst (pc := 173) dX8_countOf_173 kc_iconst_0 ?_
                refine r_istore (pc := 174) [(4, .int (0 : Int32)), (0, .ref (ad en 21 0 0)), (1, .int a1), (2, .int v2), (3, .int v3)] dX8_countOf_174 (by decide) rfl ?_
                refine r_iload_n (pc := 176) 3 dX8_countOf_176 rfl rfl ?_
                refine r_iload (pc := 177) 0 dX8_countOf_177 rfl ?_
                refine r_if_ne_t (pc := 179) 212 dX8_countOf_179 (by decide) (by decide) ?_
                refine r_iload_n (pc := 182) 2 dX8_countOf_182 rfl rfl ?_
                refine r_bipush (pc := 183) dX8_countOf_183 kc_bipush_8 ?_
                refine r_icmp_le (pc := 185) 216 dX8_countOf_185 (by decide) (fun h27 => ?_) (fun h27 => ?_)
                · refine r_iconst (pc := 216) dX8_countOf_216 kc_iconst_0 ?_
                  refine r_iadd (pc := 217) dX8_countOf_217 ?_
                  refine r_istore_n (pc := 218) [(2, .int (v2 + (0 : Int32))), (4, .int (0 : Int32)), (0, .ref (ad en 21 0 0)), (1, .int a1), (3, .int v3)] dX8_countOf_218 rfl (by decide) rfl ?_
                  refine r_iinc (pc := 219) 4 [(3, .int (v3 + (1 : Int32))), (2, .int (v2 + (0 : Int32))), (4, .int (0 : Int32)), (0, .ref (ad en 21 0 0)), (1, .int a1)] dX8_countOf_219 rfl rfl (by decide) rfl ?_
                  refine r_goto (pc := 222) 102 dX8_countOf_222 (by decide) ?_
                  exact r_sub [3, 4, 1, 0] rfl (ih (v2 + (0 : Int32)) (v3 + (1 : Int32)) σ)
                · refine r_iload_n (pc := 188) 4 dX8_countOf_188 rfl rfl ?_
                  refine r_aload_n (pc := 189) 1 dX8_countOf_189 rfl rfl ?_
                  refine g_X8_panes (pc := 190)  lf_RX8_143 dX8_countOf_190 ?_
                  refine r_icmp_ge (pc := 193) 216 dX8_countOf_193 (by decide) (fun h28 => ?_) (fun h28 => ?_)
                  · refine r_iconst (pc := 216) dX8_countOf_216 kc_iconst_0 ?_
                    refine r_iadd (pc := 217) dX8_countOf_217 ?_
                    refine r_istore_n (pc := 218) [(2, .int (v2 + (0 : Int32))), (4, .int (0 : Int32)), (0, .ref (ad en 21 0 0)), (1, .int a1), (3, .int v3)] dX8_countOf_218 rfl (by decide) rfl ?_
                    refine r_iinc (pc := 219) 4 [(3, .int (v3 + (1 : Int32))), (2, .int (v2 + (0 : Int32))), (4, .int (0 : Int32)), (0, .ref (ad en 21 0 0)), (1, .int a1)] dX8_countOf_219 rfl rfl (by decide) rfl ?_
                    refine r_goto (pc := 222) 102 dX8_countOf_222 (by decide) ?_
                    exact r_sub [3, 4, 1, 0] rfl (ih (v2 + (0 : Int32)) (v3 + (1 : Int32)) σ)
                  · refine r_aload_n (pc := 196) 1 dX8_countOf_196 rfl rfl ?_
                    refine g_X8_kind (pc := 197)  lf_RX8_25 dX8_countOf_197 ?_
                    refine r_iload_n (pc := 200) 4 dX8_countOf_200 rfl rfl ?_
                    refine r_iald (pc := 201) (n := 7) o22_11 rfl dX8_countOf_201 (fun h29 => ?_)
                    refine r_iload_n (pc := 202) 2 dX8_countOf_202 rfl rfl ?_
                    refine r_bipush (pc := 203) dX8_countOf_203 kc_bipush_8 ?_
                    refine r_isub (pc := 205) dX8_countOf_205 ?_
                    refine k_X8_isOne (pc := 206) lm_RX8_194  (by decide) (Nat.le_of_ble_eq_true rfl) dX8_countOf_206 (fun w7 h30 => ?_)
                    refine r_if_eq (pc := 209) 216 dX8_countOf_209 (by decide) (fun h31 => ?_) (fun h31 => ?_)
                    · refine r_iconst (pc := 216) dX8_countOf_216 kc_iconst_0 ?_
                      refine r_iadd (pc := 217) dX8_countOf_217 ?_
                      refine r_istore_n (pc := 218) [(2, .int (v2 + (0 : Int32))), (4, .int (0 : Int32)), (0, .ref (ad en 21 0 0)), (1, .int a1), (3, .int v3)] dX8_countOf_218 rfl (by decide) rfl ?_
                      refine r_iinc (pc := 219) 4 [(3, .int (v3 + (1 : Int32))), (2, .int (v2 + (0 : Int32))), (4, .int (0 : Int32)), (0, .ref (ad en 21 0 0)), (1, .int a1)] dX8_countOf_219 rfl rfl (by decide) rfl ?_
                      refine r_goto (pc := 222) 102 dX8_countOf_222 (by decide) ?_
                      exact r_sub [3, 4, 1, 0] rfl (ih (v2 + (0 : Int32)) (v3 + (1 : Int32)) w7.2)
                    · refine r_iconst (pc := 212) dX8_countOf_212 kc_iconst_1 ?_
                      refine r_goto (pc := 213) 217 dX8_countOf_213 (by decide) ?_
                      refine r_iadd (pc := 217) dX8_countOf_217 ?_
                      refine r_istore_n (pc := 218) [(2, .int (v2 + (1 : Int32))), (4, .int (0 : Int32)), (0, .ref (ad en 21 0 0)), (1, .int a1), (3, .int v3)] dX8_countOf_218 rfl (by decide) rfl ?_
                      refine r_iinc (pc := 219) 4 [(3, .int (v3 + (1 : Int32))), (2, .int (v2 + (1 : Int32))), (4, .int (0 : Int32)), (0, .ref (ad en 21 0 0)), (1, .int a1)] dX8_countOf_219 rfl rfl (by decide) rfl ?_
                      refine r_goto (pc := 222) 102 dX8_countOf_222 (by decide) ?_
                      exact r_sub [3, 4, 1, 0] rfl (ih (v2 + (1 : Int32)) (v3 + (1 : Int32)) w7.2)
            · refine r_aload_n (pc := 140) 0 dX8_countOf_140 rfl rfl ?_
              refine g_X8_byteSize (pc := 141)  lf_RX8_22 dX8_countOf_141 ?_
              refine r_iload_n (pc := 144) 3 dX8_countOf_144 rfl rfl ?_
              refine r_iald (pc := 145) (n := 4) o22_9 rfl dX8_countOf_145 (fun h32 => ?_)
              refine r_if_ge (pc := 146) 169 dX8_countOf_146 (by decide) (fun h33 => ?_) (fun h33 => ?_)
              · refine r_iconst (pc := 169) dX8_countOf_169 kc_iconst_1 ?_
                refine r_goto (pc := 170) 174 dX8_countOf_170 (by decide) ?_
                refine r_istore (pc := 174) [(4, .int (1 : Int32)), (0, .ref (ad en 21 0 0)), (1, .int a1), (2, .int v2), (3, .int v3)] dX8_countOf_174 (by decide) rfl ?_
                refine r_iload_n (pc := 176) 3 dX8_countOf_176 rfl rfl ?_
                refine r_iload (pc := 177) 0 dX8_countOf_177 rfl ?_
                refine r_if_ne_f (pc := 179) 212 dX8_countOf_179 (by decide) (by decide) ?_
                refine r_iconst (pc := 212) dX8_countOf_212 kc_iconst_1 ?_
                refine r_goto (pc := 213) 217 dX8_countOf_213 (by decide) ?_
                refine r_iadd (pc := 217) dX8_countOf_217 ?_
                refine r_istore_n (pc := 218) [(2, .int (v2 + (1 : Int32))), (4, .int (1 : Int32)), (0, .ref (ad en 21 0 0)), (1, .int a1), (3, .int v3)] dX8_countOf_218 rfl (by decide) rfl ?_
                refine r_iinc (pc := 219) 4 [(3, .int (v3 + (1 : Int32))), (2, .int (v2 + (1 : Int32))), (4, .int (1 : Int32)), (0, .ref (ad en 21 0 0)), (1, .int a1)] dX8_countOf_219 rfl rfl (by decide) rfl ?_
                refine r_goto (pc := 222) 102 dX8_countOf_222 (by decide) ?_
                exact r_sub [3, 4, 1, 0] rfl (ih (v2 + (1 : Int32)) (v3 + (1 : Int32)) σ)
              · refine r_iload_n (pc := 149) 1 dX8_countOf_149 rfl rfl ?_
                refine r_bipush (pc := 150) dX8_countOf_150 kc_bipush_8 ?_
                refine r_icmp_ne (pc := 152) 173 dX8_countOf_152 (by decide) (fun h34 => ?_) (fun h34 => ?_)
                · refine r_iload_n (pc := 155) 3 dX8_countOf_155 rfl rfl ?_
                  refine r_iconst (pc := 156) dX8_countOf_156 kc_iconst_3 ?_
                  refine r_icmp_ge (pc := 157) 173 dX8_countOf_157 (by decide) (fun h35 => ?_) (fun h35 => ?_)
                  · refine r_iconst (pc := 173) dX8_countOf_173 kc_iconst_0 ?_
                    refine r_istore (pc := 174) [(4, .int (0 : Int32)), (0, .ref (ad en 21 0 0)), (1, .int a1), (2, .int v2), (3, .int v3)] dX8_countOf_174 (by decide) rfl ?_
                    refine r_iload_n (pc := 176) 3 dX8_countOf_176 rfl rfl ?_
                    refine r_iload (pc := 177) 0 dX8_countOf_177 rfl ?_
                    refine r_if_ne_t (pc := 179) 212 dX8_countOf_179 (by decide) (by decide) ?_
                    refine r_iload_n (pc := 182) 2 dX8_countOf_182 rfl rfl ?_
                    refine r_bipush (pc := 183) dX8_countOf_183 kc_bipush_8 ?_
                    refine r_icmp_le (pc := 185) 216 dX8_countOf_185 (by decide) (fun h36 => ?_) (fun h36 => ?_)
                    · refine r_iconst (pc := 216) dX8_countOf_216 kc_iconst_0 ?_
                      refine r_iadd (pc := 217) dX8_countOf_217 ?_
                      refine r_istore_n (pc := 218) [(2, .int (v2 + (0 : Int32))), (4, .int (0 : Int32)), (0, .ref (ad en 21 0 0)), (1, .int a1), (3, .int v3)] dX8_countOf_218 rfl (by decide) rfl ?_
                      refine r_iinc (pc := 219) 4 [(3, .int (v3 + (1 : Int32))), (2, .int (v2 + (0 : Int32))), (4, .int (0 : Int32)), (0, .ref (ad en 21 0 0)), (1, .int a1)] dX8_countOf_219 rfl rfl (by decide) rfl ?_
                      refine r_goto (pc := 222) 102 dX8_countOf_222 (by decide) ?_
                      exact r_sub [3, 4, 1, 0] rfl (ih (v2 + (0 : Int32)) (v3 + (1 : Int32)) σ)
                    · refine r_iload_n (pc := 188) 4 dX8_countOf_188 rfl rfl ?_
                      refine r_aload_n (pc := 189) 1 dX8_countOf_189 rfl rfl ?_
                      refine g_X8_panes (pc := 190)  lf_RX8_143 dX8_countOf_190 ?_
                      refine r_icmp_ge (pc := 193) 216 dX8_countOf_193 (by decide) (fun h37 => ?_) (fun h37 => ?_)
                      · refine r_iconst (pc := 216) dX8_countOf_216 kc_iconst_0 ?_
                        refine r_iadd (pc := 217) dX8_countOf_217 ?_
                        refine r_istore_n (pc := 218) [(2, .int (v2 + (0 : Int32))), (4, .int (0 : Int32)), (0, .ref (ad en 21 0 0)), (1, .int a1), (3, .int v3)] dX8_countOf_218 rfl (by decide) rfl ?_
                        refine r_iinc (pc := 219) 4 [(3, .int (v3 + (1 : Int32))), (2, .int (v2 + (0 : Int32))), (4, .int (0 : Int32)), (0, .ref (ad en 21 0 0)), (1, .int a1)] dX8_countOf_219 rfl rfl (by decide) rfl ?_
                        refine r_goto (pc := 222) 102 dX8_countOf_222 (by decide) ?_
                        exact r_sub [3, 4, 1, 0] rfl (ih (v2 + (0 : Int32)) (v3 + (1 : Int32)) σ)
                      · refine r_aload_n (pc := 196) 1 dX8_countOf_196 rfl rfl ?_
                        refine g_X8_kind (pc := 197)  lf_RX8_25 dX8_countOf_197 ?_
                        refine r_iload_n (pc := 200) 4 dX8_countOf_200 rfl rfl ?_
                        refine r_iald (pc := 201) (n := 7) o22_11 rfl dX8_countOf_201 (fun h38 => ?_)
                        refine r_iload_n (pc := 202) 2 dX8_countOf_202 rfl rfl ?_
                        refine r_bipush (pc := 203) dX8_countOf_203 kc_bipush_8 ?_
                        refine r_isub (pc := 205) dX8_countOf_205 ?_
                        refine k_X8_isOne (pc := 206) lm_RX8_194  (by decide) (Nat.le_of_ble_eq_true rfl) dX8_countOf_206 (fun w8 h39 => ?_)
                        refine r_if_eq (pc := 209) 216 dX8_countOf_209 (by decide) (fun h40 => ?_) (fun h40 => ?_)
                        · refine r_iconst (pc := 216) dX8_countOf_216 kc_iconst_0 ?_
                          refine r_iadd (pc := 217) dX8_countOf_217 ?_
                          refine r_istore_n (pc := 218) [(2, .int (v2 + (0 : Int32))), (4, .int (0 : Int32)), (0, .ref (ad en 21 0 0)), (1, .int a1), (3, .int v3)] dX8_countOf_218 rfl (by decide) rfl ?_
                          refine r_iinc (pc := 219) 4 [(3, .int (v3 + (1 : Int32))), (2, .int (v2 + (0 : Int32))), (4, .int (0 : Int32)), (0, .ref (ad en 21 0 0)), (1, .int a1)] dX8_countOf_219 rfl rfl (by decide) rfl ?_
                          refine r_goto (pc := 222) 102 dX8_countOf_222 (by decide) ?_
                          exact r_sub [3, 4, 1, 0] rfl (ih (v2 + (0 : Int32)) (v3 + (1 : Int32)) w8.2)
                        · refine r_iconst (pc := 212) dX8_countOf_212 kc_iconst_1 ?_
                          refine r_goto (pc := 213) 217 dX8_countOf_213 (by decide) ?_
                          refine r_iadd (pc := 217) dX8_countOf_217 ?_
                          refine r_istore_n (pc := 218) [(2, .int (v2 + (1 : Int32))), (4, .int (0 : Int32)), (0, .ref (ad en 21 0 0)), (1, .int a1), (3, .int v3)] dX8_countOf_218 rfl (by decide) rfl ?_
                          refine r_iinc (pc := 219) 4 [(3, .int (v3 + (1 : Int32))), (2, .int (v2 + (1 : Int32))), (4, .int (0 : Int32)), (0, .ref (ad en 21 0 0)), (1, .int a1)] dX8_countOf_219 rfl rfl (by decide) rfl ?_
                          refine r_goto (pc := 222) 102 dX8_countOf_222 (by decide) ?_
                          exact r_sub [3, 4, 1, 0] rfl (ih (v2 + (1 : Int32)) (v3 + (1 : Int32)) w8.2)
                  · refine r_aload_n (pc := 160) 0 dX8_countOf_160 rfl rfl ?_
                    refine g_X8_keptDeeds (pc := 161)  lf_RX8_46 dX8_countOf_161 ?_
                    refine r_iload_n (pc := 164) 3 dX8_countOf_164 rfl rfl ?_
                    refine r_iald (pc := 165) (n := 3) o22_19 rfl dX8_countOf_165 (fun h41 => ?_)
                    refine r_if_lt (pc := 166) 173 dX8_countOf_166 (by decide) (fun h42 => ?_) (fun h42 => ?_)
                    · refine r_iconst (pc := 173) dX8_countOf_173 kc_iconst_0 ?_
                      refine r_istore (pc := 174) [(4, .int (0 : Int32)), (0, .ref (ad en 21 0 0)), (1, .int a1), (2, .int v2), (3, .int v3)] dX8_countOf_174 (by decide) rfl ?_
                      refine r_iload_n (pc := 176) 3 dX8_countOf_176 rfl rfl ?_
                      refine r_iload (pc := 177) 0 dX8_countOf_177 rfl ?_
                      refine r_if_ne_t (pc := 179) 212 dX8_countOf_179 (by decide) (by decide) ?_
                      refine r_iload_n (pc := 182) 2 dX8_countOf_182 rfl rfl ?_
                      refine r_bipush (pc := 183) dX8_countOf_183 kc_bipush_8 ?_
                      refine r_icmp_le (pc := 185) 216 dX8_countOf_185 (by decide) (fun h43 => ?_) (fun h43 => ?_)
                      · refine r_iconst (pc := 216) dX8_countOf_216 kc_iconst_0 ?_
                        refine r_iadd (pc := 217) dX8_countOf_217 ?_
                        refine r_istore_n (pc := 218) [(2, .int (v2 + (0 : Int32))), (4, .int (0 : Int32)), (0, .ref (ad en 21 0 0)), (1, .int a1), (3, .int v3)] dX8_countOf_218 rfl (by decide) rfl ?_
                        refine r_iinc (pc := 219) 4 [(3, .int (v3 + (1 : Int32))), (2, .int (v2 + (0 : Int32))), (4, .int (0 : Int32)), (0, .ref (ad en 21 0 0)), (1, .int a1)] dX8_countOf_219 rfl rfl (by decide) rfl ?_
                        refine r_goto (pc := 222) 102 dX8_countOf_222 (by decide) ?_
                        exact r_sub [3, 4, 1, 0] rfl (ih (v2 + (0 : Int32)) (v3 + (1 : Int32)) σ)
                      · refine r_iload_n (pc := 188) 4 dX8_countOf_188 rfl rfl ?_
                        refine r_aload_n (pc := 189) 1 dX8_countOf_189 rfl rfl ?_
                        refine g_X8_panes (pc := 190)  lf_RX8_143 dX8_countOf_190 ?_
                        refine r_icmp_ge (pc := 193) 216 dX8_countOf_193 (by decide) (fun h44 => ?_) (fun h44 => ?_)
                        · refine r_iconst (pc := 216) dX8_countOf_216 kc_iconst_0 ?_
                          refine r_iadd (pc := 217) dX8_countOf_217 ?_
                          refine r_istore_n (pc := 218) [(2, .int (v2 + (0 : Int32))), (4, .int (0 : Int32)), (0, .ref (ad en 21 0 0)), (1, .int a1), (3, .int v3)] dX8_countOf_218 rfl (by decide) rfl ?_
                          refine r_iinc (pc := 219) 4 [(3, .int (v3 + (1 : Int32))), (2, .int (v2 + (0 : Int32))), (4, .int (0 : Int32)), (0, .ref (ad en 21 0 0)), (1, .int a1)] dX8_countOf_219 rfl rfl (by decide) rfl ?_
                          refine r_goto (pc := 222) 102 dX8_countOf_222 (by decide) ?_
                          exact r_sub [3, 4, 1, 0] rfl (ih (v2 + (0 : Int32)) (v3 + (1 : Int32)) σ)
                        · refine r_aload_n (pc := 196) 1 dX8_countOf_196 rfl rfl ?_
                          refine g_X8_kind (pc := 197)  lf_RX8_25 dX8_countOf_197 ?_
                          refine r_iload_n (pc := 200) 4 dX8_countOf_200 rfl rfl ?_
                          refine r_iald (pc := 201) (n := 7) o22_11 rfl dX8_countOf_201 (fun h45 => ?_)
                          refine r_iload_n (pc := 202) 2 dX8_countOf_202 rfl rfl ?_
                          refine r_bipush (pc := 203) dX8_countOf_203 kc_bipush_8 ?_
                          refine r_isub (pc := 205) dX8_countOf_205 ?_
                          refine k_X8_isOne (pc := 206) lm_RX8_194  (by decide) (Nat.le_of_ble_eq_true rfl) dX8_countOf_206 (fun w9 h46 => ?_)
                          refine r_if_eq (pc := 209) 216 dX8_countOf_209 (by decide) (fun h47 => ?_) (fun h47 => ?_)
                          · refine r_iconst (pc := 216) dX8_countOf_216 kc_iconst_0 ?_
                            refine r_iadd (pc := 217) dX8_countOf_217 ?_
                            refine r_istore_n (pc := 218) [(2, .int (v2 + (0 : Int32))), (4, .int (0 : Int32)), (0, .ref (ad en 21 0 0)), (1, .int a1), (3, .int v3)] dX8_countOf_218 rfl (by decide) rfl ?_
                            refine r_iinc (pc := 219) 4 [(3, .int (v3 + (1 : Int32))), (2, .int (v2 + (0 : Int32))), (4, .int (0 : Int32)), (0, .ref (ad en 21 0 0)), (1, .int a1)] dX8_countOf_219 rfl rfl (by decide) rfl ?_
                            refine r_goto (pc := 222) 102 dX8_countOf_222 (by decide) ?_
                            exact r_sub [3, 4, 1, 0] rfl (ih (v2 + (0 : Int32)) (v3 + (1 : Int32)) w9.2)
                          · refine r_iconst (pc := 212) dX8_countOf_212 kc_iconst_1 ?_
                            refine r_goto (pc := 213) 217 dX8_countOf_213 (by decide) ?_
                            refine r_iadd (pc := 217) dX8_countOf_217 ?_
                            refine r_istore_n (pc := 218) [(2, .int (v2 + (1 : Int32))), (4, .int (0 : Int32)), (0, .ref (ad en 21 0 0)), (1, .int a1), (3, .int v3)] dX8_countOf_218 rfl (by decide) rfl ?_
                            refine r_iinc (pc := 219) 4 [(3, .int (v3 + (1 : Int32))), (2, .int (v2 + (1 : Int32))), (4, .int (0 : Int32)), (0, .ref (ad en 21 0 0)), (1, .int a1)] dX8_countOf_219 rfl rfl (by decide) rfl ?_
                            refine r_goto (pc := 222) 102 dX8_countOf_222 (by decide) ?_
                            exact r_sub [3, 4, 1, 0] rfl (ih (v2 + (1 : Int32)) (v3 + (1 : Int32)) w9.2)
                    · refine r_iconst (pc := 169) dX8_countOf_169 kc_iconst_1 ?_
                      refine r_goto (pc := 170) 174 dX8_countOf_170 (by decide) ?_
                      refine r_istore (pc := 174) [(4, .int (1 : Int32)), (0, .ref (ad en 21 0 0)), (1, .int a1), (2, .int v2), (3, .int v3)] dX8_countOf_174 (by decide) rfl ?_
                      refine r_iload_n (pc := 176) 3 dX8_countOf_176 rfl rfl ?_
                      refine r_iload (pc := 177) 0 dX8_countOf_177 rfl ?_
                      refine r_if_ne_f (pc := 179) 212 dX8_countOf_179 (by decide) (by decide) ?_
                      refine r_iconst (pc := 212) dX8_countOf_212 kc_iconst_1 ?_
                      refine r_goto (pc := 213) 217 dX8_countOf_213 (by decide) ?_
                      refine r_iadd (pc := 217) dX8_countOf_217 ?_
                      refine r_istore_n (pc := 218) [(2, .int (v2 + (1 : Int32))), (4, .int (1 : Int32)), (0, .ref (ad en 21 0 0)), (1, .int a1), (3, .int v3)] dX8_countOf_218 rfl (by decide) rfl ?_
                      refine r_iinc (pc := 219) 4 [(3, .int (v3 + (1 : Int32))), (2, .int (v2 + (1 : Int32))), (4, .int (1 : Int32)), (0, .ref (ad en 21 0 0)), (1, .int a1)] dX8_countOf_219 rfl rfl (by decide) rfl ?_
                      refine r_goto (pc := 222) 102 dX8_countOf_222 (by decide) ?_
                      exact r_sub [3, 4, 1, 0] rfl (ih (v2 + (1 : Int32)) (v3 + (1 : Int32)) σ)
                · refine r_iconst (pc := 173) dX8_countOf_173 kc_iconst_0 ?_
                  refine r_istore (pc := 174) [(4, .int (0 : Int32)), (0, .ref (ad en 21 0 0)), (1, .int a1), (2, .int v2), (3, .int v3)] dX8_countOf_174 (by decide) rfl ?_
                  refine r_iload_n (pc := 176) 3 dX8_countOf_176 rfl rfl ?_
                  refine r_iload (pc := 177) 0 dX8_countOf_177 rfl ?_
                  refine r_if_ne_t (pc := 179) 212 dX8_countOf_179 (by decide) (by decide) ?_
                  refine r_iload_n (pc := 182) 2 dX8_countOf_182 rfl rfl ?_
                  refine r_bipush (pc := 183) dX8_countOf_183 kc_bipush_8 ?_
                  refine r_icmp_le (pc := 185) 216 dX8_countOf_185 (by decide) (fun h48 => ?_) (fun h48 => ?_)
                  · refine r_iconst (pc := 216) dX8_countOf_216 kc_iconst_0 ?_
                    refine r_iadd (pc := 217) dX8_countOf_217 ?_
                    refine r_istore_n (pc := 218) [(2, .int (v2 + (0 : Int32))), (4, .int (0 : Int32)), (0, .ref (ad en 21 0 0)), (1, .int a1), (3, .int v3)] dX8_countOf_218 rfl (by decide) rfl ?_
                    refine r_iinc (pc := 219) 4 [(3, .int (v3 + (1 : Int32))), (2, .int (v2 + (0 : Int32))), (4, .int (0 : Int32)), (0, .ref (ad en 21 0 0)), (1, .int a1)] dX8_countOf_219 rfl rfl (by decide) rfl ?_
                    refine r_goto (pc := 222) 102 dX8_countOf_222 (by decide) ?_
                    exact r_sub [3, 4, 1, 0] rfl (ih (v2 + (0 : Int32)) (v3 + (1 : Int32)) σ)
                  · refine r_iload_n (pc := 188) 4 dX8_countOf_188 rfl rfl ?_
                    refine r_aload_n (pc := 189) 1 dX8_countOf_189 rfl rfl ?_
                    refine g_X8_panes (pc := 190)  lf_RX8_143 dX8_countOf_190 ?_
                    refine r_icmp_ge (pc := 193) 216 dX8_countOf_193 (by decide) (fun h49 => ?_) (fun h49 => ?_)
                    · refine r_iconst (pc := 216) dX8_countOf_216 kc_iconst_0 ?_
                      refine r_iadd (pc := 217) dX8_countOf_217 ?_
                      refine r_istore_n (pc := 218) [(2, .int (v2 + (0 : Int32))), (4, .int (0 : Int32)), (0, .ref (ad en 21 0 0)), (1, .int a1), (3, .int v3)] dX8_countOf_218 rfl (by decide) rfl ?_
                      refine r_iinc (pc := 219) 4 [(3, .int (v3 + (1 : Int32))), (2, .int (v2 + (0 : Int32))), (4, .int (0 : Int32)), (0, .ref (ad en 21 0 0)), (1, .int a1)] dX8_countOf_219 rfl rfl (by decide) rfl ?_
                      refine r_goto (pc := 222) 102 dX8_countOf_222 (by decide) ?_
                      exact r_sub [3, 4, 1, 0] rfl (ih (v2 + (0 : Int32)) (v3 + (1 : Int32)) σ)
                    · refine r_aload_n (pc := 196) 1 dX8_countOf_196 rfl rfl ?_
                      refine g_X8_kind (pc := 197)  lf_RX8_25 dX8_countOf_197 ?_
                      refine r_iload_n (pc := 200) 4 dX8_countOf_200 rfl rfl ?_
                      refine r_iald (pc := 201) (n := 7) o22_11 rfl dX8_countOf_201 (fun h50 => ?_)
                      refine r_iload_n (pc := 202) 2 dX8_countOf_202 rfl rfl ?_
                      refine r_bipush (pc := 203) dX8_countOf_203 kc_bipush_8 ?_
                      refine r_isub (pc := 205) dX8_countOf_205 ?_
                      refine k_X8_isOne (pc := 206) lm_RX8_194  (by decide) (Nat.le_of_ble_eq_true rfl) dX8_countOf_206 (fun w10 h51 => ?_)
                      refine r_if_eq (pc := 209) 216 dX8_countOf_209 (by decide) (fun h52 => ?_) (fun h52 => ?_)
                      · refine r_iconst (pc := 216) dX8_countOf_216 kc_iconst_0 ?_
                        refine r_iadd (pc := 217) dX8_countOf_217 ?_
                        refine r_istore_n (pc := 218) [(2, .int (v2 + (0 : Int32))), (4, .int (0 : Int32)), (0, .ref (ad en 21 0 0)), (1, .int a1), (3, .int v3)] dX8_countOf_218 rfl (by decide) rfl ?_
                        refine r_iinc (pc := 219) 4 [(3, .int (v3 + (1 : Int32))), (2, .int (v2 + (0 : Int32))), (4, .int (0 : Int32)), (0, .ref (ad en 21 0 0)), (1, .int a1)] dX8_countOf_219 rfl rfl (by decide) rfl ?_
                        refine r_goto (pc := 222) 102 dX8_countOf_222 (by decide) ?_
                        exact r_sub [3, 4, 1, 0] rfl (ih (v2 + (0 : Int32)) (v3 + (1 : Int32)) w10.2)
                      · refine r_iconst (pc := 212) dX8_countOf_212 kc_iconst_1 ?_
                        refine r_goto (pc := 213) 217 dX8_countOf_213 (by decide) ?_
                        refine r_iadd (pc := 217) dX8_countOf_217 ?_
                        refine r_istore_n (pc := 218) [(2, .int (v2 + (1 : Int32))), (4, .int (0 : Int32)), (0, .ref (ad en 21 0 0)), (1, .int a1), (3, .int v3)] dX8_countOf_218 rfl (by decide) rfl ?_
                        refine r_iinc (pc := 219) 4 [(3, .int (v3 + (1 : Int32))), (2, .int (v2 + (1 : Int32))), (4, .int (0 : Int32)), (0, .ref (ad en 21 0 0)), (1, .int a1)] dX8_countOf_219 rfl rfl (by decide) rfl ?_
                        refine r_goto (pc := 222) 102 dX8_countOf_222 (by decide) ?_
                        exact r_sub [3, 4, 1, 0] rfl (ih (v2 + (1 : Int32)) (v3 + (1 : Int32)) w10.2)
          · refine r_iload_n (pc := 149) 1 dX8_countOf_149 rfl rfl ?_
            refine r_bipush (pc := 150) dX8_countOf_150 kc_bipush_8 ?_
            refine r_icmp_ne (pc := 152) 173 dX8_countOf_152 (by decide) (fun h53 => ?_) (fun h53 => ?_)
            · refine r_iload_n (pc := 155) 3 dX8_countOf_155 rfl rfl ?_
              refine r_iconst (pc := 156) dX8_countOf_156 kc_iconst_3 ?_
              refine r_icmp_ge (pc := 157) 173 dX8_countOf_157 (by decide) (fun h54 => ?_) (fun h54 => ?_)
              · refine r_iconst (pc := 173) dX8_countOf_173 kc_iconst_0 ?_
                refine r_istore (pc := 174) [(4, .int (0 : Int32)), (0, .ref (ad en 21 0 0)), (1, .int a1), (2, .int v2), (3, .int v3)] dX8_countOf_174 (by decide) rfl ?_
                refine r_iload_n (pc := 176) 3 dX8_countOf_176 rfl rfl ?_
                refine r_iload (pc := 177) 0 dX8_countOf_177 rfl ?_
                refine r_if_ne_t (pc := 179) 212 dX8_countOf_179 (by decide) (by decide) ?_
                refine r_iload_n (pc := 182) 2 dX8_countOf_182 rfl rfl ?_
                refine r_bipush (pc := 183) dX8_countOf_183 kc_bipush_8 ?_
                refine r_icmp_le (pc := 185) 216 dX8_countOf_185 (by decide) (fun h55 => ?_) (fun h55 => ?_)
                · refine r_iconst (pc := 216) dX8_countOf_216 kc_iconst_0 ?_
                  refine r_iadd (pc := 217) dX8_countOf_217 ?_
                  refine r_istore_n (pc := 218) [(2, .int (v2 + (0 : Int32))), (4, .int (0 : Int32)), (0, .ref (ad en 21 0 0)), (1, .int a1), (3, .int v3)] dX8_countOf_218 rfl (by decide) rfl ?_
                  refine r_iinc (pc := 219) 4 [(3, .int (v3 + (1 : Int32))), (2, .int (v2 + (0 : Int32))), (4, .int (0 : Int32)), (0, .ref (ad en 21 0 0)), (1, .int a1)] dX8_countOf_219 rfl rfl (by decide) rfl ?_
                  refine r_goto (pc := 222) 102 dX8_countOf_222 (by decide) ?_
                  exact r_sub [3, 4, 1, 0] rfl (ih (v2 + (0 : Int32)) (v3 + (1 : Int32)) σ)
                · refine r_iload_n (pc := 188) 4 dX8_countOf_188 rfl rfl ?_
                  refine r_aload_n (pc := 189) 1 dX8_countOf_189 rfl rfl ?_
                  refine g_X8_panes (pc := 190)  lf_RX8_143 dX8_countOf_190 ?_
                  refine r_icmp_ge (pc := 193) 216 dX8_countOf_193 (by decide) (fun h56 => ?_) (fun h56 => ?_)
                  · refine r_iconst (pc := 216) dX8_countOf_216 kc_iconst_0 ?_
                    refine r_iadd (pc := 217) dX8_countOf_217 ?_
                    refine r_istore_n (pc := 218) [(2, .int (v2 + (0 : Int32))), (4, .int (0 : Int32)), (0, .ref (ad en 21 0 0)), (1, .int a1), (3, .int v3)] dX8_countOf_218 rfl (by decide) rfl ?_
                    refine r_iinc (pc := 219) 4 [(3, .int (v3 + (1 : Int32))), (2, .int (v2 + (0 : Int32))), (4, .int (0 : Int32)), (0, .ref (ad en 21 0 0)), (1, .int a1)] dX8_countOf_219 rfl rfl (by decide) rfl ?_
                    refine r_goto (pc := 222) 102 dX8_countOf_222 (by decide) ?_
                    exact r_sub [3, 4, 1, 0] rfl (ih (v2 + (0 : Int32)) (v3 + (1 : Int32)) σ)
                  · refine r_aload_n (pc := 196) 1 dX8_countOf_196 rfl rfl ?_
                    refine g_X8_kind (pc := 197)  lf_RX8_25 dX8_countOf_197 ?_
                    refine r_iload_n (pc := 200) 4 dX8_countOf_200 rfl rfl ?_
                    refine r_iald (pc := 201) (n := 7) o22_11 rfl dX8_countOf_201 (fun h57 => ?_)
                    refine r_iload_n (pc := 202) 2 dX8_countOf_202 rfl rfl ?_
                    refine r_bipush (pc := 203) dX8_countOf_203 kc_bipush_8 ?_
                    refine r_isub (pc := 205) dX8_countOf_205 ?_
                    refine k_X8_isOne (pc := 206) lm_RX8_194  (by decide) (Nat.le_of_ble_eq_true rfl) dX8_countOf_206 (fun w11 h58 => ?_)
                    refine r_if_eq (pc := 209) 216 dX8_countOf_209 (by decide) (fun h59 => ?_) (fun h59 => ?_)
                    · refine r_iconst (pc := 216) dX8_countOf_216 kc_iconst_0 ?_
                      refine r_iadd (pc := 217) dX8_countOf_217 ?_
                      refine r_istore_n (pc := 218) [(2, .int (v2 + (0 : Int32))), (4, .int (0 : Int32)), (0, .ref (ad en 21 0 0)), (1, .int a1), (3, .int v3)] dX8_countOf_218 rfl (by decide) rfl ?_
                      refine r_iinc (pc := 219) 4 [(3, .int (v3 + (1 : Int32))), (2, .int (v2 + (0 : Int32))), (4, .int (0 : Int32)), (0, .ref (ad en 21 0 0)), (1, .int a1)] dX8_countOf_219 rfl rfl (by decide) rfl ?_
                      refine r_goto (pc := 222) 102 dX8_countOf_222 (by decide) ?_
                      exact r_sub [3, 4, 1, 0] rfl (ih (v2 + (0 : Int32)) (v3 + (1 : Int32)) w11.2)
                    · refine r_iconst (pc := 212) dX8_countOf_212 kc_iconst_1 ?_
                      refine r_goto (pc := 213) 217 dX8_countOf_213 (by decide) ?_
                      refine r_iadd (pc := 217) dX8_countOf_217 ?_
                      refine r_istore_n (pc := 218) [(2, .int (v2 + (1 : Int32))), (4, .int (0 : Int32)), (0, .ref (ad en 21 0 0)), (1, .int a1), (3, .int v3)] dX8_countOf_218 rfl (by decide) rfl ?_
                      refine r_iinc (pc := 219) 4 [(3, .int (v3 + (1 : Int32))), (2, .int (v2 + (1 : Int32))), (4, .int (0 : Int32)), (0, .ref (ad en 21 0 0)), (1, .int a1)] dX8_countOf_219 rfl rfl (by decide) rfl ?_
                      refine r_goto (pc := 222) 102 dX8_countOf_222 (by decide) ?_
                      exact r_sub [3, 4, 1, 0] rfl (ih (v2 + (1 : Int32)) (v3 + (1 : Int32)) w11.2)
              · refine r_aload_n (pc := 160) 0 dX8_countOf_160 rfl rfl ?_
                refine g_X8_keptDeeds (pc := 161)  lf_RX8_46 dX8_countOf_161 ?_
                refine r_iload_n (pc := 164) 3 dX8_countOf_164 rfl rfl ?_
                refine r_iald (pc := 165) (n := 3) o22_19 rfl dX8_countOf_165 (fun h60 => ?_)
                refine r_if_lt (pc := 166) 173 dX8_countOf_166 (by decide) (fun h61 => ?_) (fun h61 => ?_)
                · refine r_iconst (pc := 173) dX8_countOf_173 kc_iconst_0 ?_
                  refine r_istore (pc := 174) [(4, .int (0 : Int32)), (0, .ref (ad en 21 0 0)), (1, .int a1), (2, .int v2), (3, .int v3)] dX8_countOf_174 (by decide) rfl ?_
                  refine r_iload_n (pc := 176) 3 dX8_countOf_176 rfl rfl ?_
                  refine r_iload (pc := 177) 0 dX8_countOf_177 rfl ?_
                  refine r_if_ne_t (pc := 179) 212 dX8_countOf_179 (by decide) (by decide) ?_
                  refine r_iload_n (pc := 182) 2 dX8_countOf_182 rfl rfl ?_
                  refine r_bipush (pc := 183) dX8_countOf_183 kc_bipush_8 ?_
                  refine r_icmp_le (pc := 185) 216 dX8_countOf_185 (by decide) (fun h62 => ?_) (fun h62 => ?_)
                  · refine r_iconst (pc := 216) dX8_countOf_216 kc_iconst_0 ?_
                    refine r_iadd (pc := 217) dX8_countOf_217 ?_
                    refine r_istore_n (pc := 218) [(2, .int (v2 + (0 : Int32))), (4, .int (0 : Int32)), (0, .ref (ad en 21 0 0)), (1, .int a1), (3, .int v3)] dX8_countOf_218 rfl (by decide) rfl ?_
                    refine r_iinc (pc := 219) 4 [(3, .int (v3 + (1 : Int32))), (2, .int (v2 + (0 : Int32))), (4, .int (0 : Int32)), (0, .ref (ad en 21 0 0)), (1, .int a1)] dX8_countOf_219 rfl rfl (by decide) rfl ?_
                    refine r_goto (pc := 222) 102 dX8_countOf_222 (by decide) ?_
                    exact r_sub [3, 4, 1, 0] rfl (ih (v2 + (0 : Int32)) (v3 + (1 : Int32)) σ)
                  · refine r_iload_n (pc := 188) 4 dX8_countOf_188 rfl rfl ?_
                    refine r_aload_n (pc := 189) 1 dX8_countOf_189 rfl rfl ?_
                    refine g_X8_panes (pc := 190)  lf_RX8_143 dX8_countOf_190 ?_
                    refine r_icmp_ge (pc := 193) 216 dX8_countOf_193 (by decide) (fun h63 => ?_) (fun h63 => ?_)
                    · refine r_iconst (pc := 216) dX8_countOf_216 kc_iconst_0 ?_
                      refine r_iadd (pc := 217) dX8_countOf_217 ?_
                      refine r_istore_n (pc := 218) [(2, .int (v2 + (0 : Int32))), (4, .int (0 : Int32)), (0, .ref (ad en 21 0 0)), (1, .int a1), (3, .int v3)] dX8_countOf_218 rfl (by decide) rfl ?_
                      refine r_iinc (pc := 219) 4 [(3, .int (v3 + (1 : Int32))), (2, .int (v2 + (0 : Int32))), (4, .int (0 : Int32)), (0, .ref (ad en 21 0 0)), (1, .int a1)] dX8_countOf_219 rfl rfl (by decide) rfl ?_
                      refine r_goto (pc := 222) 102 dX8_countOf_222 (by decide) ?_
                      exact r_sub [3, 4, 1, 0] rfl (ih (v2 + (0 : Int32)) (v3 + (1 : Int32)) σ)
                    · refine r_aload_n (pc := 196) 1 dX8_countOf_196 rfl rfl ?_
                      refine g_X8_kind (pc := 197)  lf_RX8_25 dX8_countOf_197 ?_
                      refine r_iload_n (pc := 200) 4 dX8_countOf_200 rfl rfl ?_
                      refine r_iald (pc := 201) (n := 7) o22_11 rfl dX8_countOf_201 (fun h64 => ?_)
                      refine r_iload_n (pc := 202) 2 dX8_countOf_202 rfl rfl ?_
                      refine r_bipush (pc := 203) dX8_countOf_203 kc_bipush_8 ?_
                      refine r_isub (pc := 205) dX8_countOf_205 ?_
                      refine k_X8_isOne (pc := 206) lm_RX8_194  (by decide) (Nat.le_of_ble_eq_true rfl) dX8_countOf_206 (fun w12 h65 => ?_)
                      refine r_if_eq (pc := 209) 216 dX8_countOf_209 (by decide) (fun h66 => ?_) (fun h66 => ?_)
                      · refine r_iconst (pc := 216) dX8_countOf_216 kc_iconst_0 ?_
                        refine r_iadd (pc := 217) dX8_countOf_217 ?_
                        refine r_istore_n (pc := 218) [(2, .int (v2 + (0 : Int32))), (4, .int (0 : Int32)), (0, .ref (ad en 21 0 0)), (1, .int a1), (3, .int v3)] dX8_countOf_218 rfl (by decide) rfl ?_
                        refine r_iinc (pc := 219) 4 [(3, .int (v3 + (1 : Int32))), (2, .int (v2 + (0 : Int32))), (4, .int (0 : Int32)), (0, .ref (ad en 21 0 0)), (1, .int a1)] dX8_countOf_219 rfl rfl (by decide) rfl ?_
                        refine r_goto (pc := 222) 102 dX8_countOf_222 (by decide) ?_
                        exact r_sub [3, 4, 1, 0] rfl (ih (v2 + (0 : Int32)) (v3 + (1 : Int32)) w12.2)
                      · refine r_iconst (pc := 212) dX8_countOf_212 kc_iconst_1 ?_
                        refine r_goto (pc := 213) 217 dX8_countOf_213 (by decide) ?_
                        refine r_iadd (pc := 217) dX8_countOf_217 ?_
                        refine r_istore_n (pc := 218) [(2, .int (v2 + (1 : Int32))), (4, .int (0 : Int32)), (0, .ref (ad en 21 0 0)), (1, .int a1), (3, .int v3)] dX8_countOf_218 rfl (by decide) rfl ?_
                        refine r_iinc (pc := 219) 4 [(3, .int (v3 + (1 : Int32))), (2, .int (v2 + (1 : Int32))), (4, .int (0 : Int32)), (0, .ref (ad en 21 0 0)), (1, .int a1)] dX8_countOf_219 rfl rfl (by decide) rfl ?_
                        refine r_goto (pc := 222) 102 dX8_countOf_222 (by decide) ?_
                        exact r_sub [3, 4, 1, 0] rfl (ih (v2 + (1 : Int32)) (v3 + (1 : Int32)) w12.2)
                · refine r_iconst (pc := 169) dX8_countOf_169 kc_iconst_1 ?_
                  refine r_goto (pc := 170) 174 dX8_countOf_170 (by decide) ?_
                  refine r_istore (pc := 174) [(4, .int (1 : Int32)), (0, .ref (ad en 21 0 0)), (1, .int a1), (2, .int v2), (3, .int v3)] dX8_countOf_174 (by decide) rfl ?_
                  refine r_iload_n (pc := 176) 3 dX8_countOf_176 rfl rfl ?_
                  refine r_iload (pc := 177) 0 dX8_countOf_177 rfl ?_
                  refine r_if_ne_f (pc := 179) 212 dX8_countOf_179 (by decide) (by decide) ?_
                  refine r_iconst (pc := 212) dX8_countOf_212 kc_iconst_1 ?_
                  refine r_goto (pc := 213) 217 dX8_countOf_213 (by decide) ?_
                  refine r_iadd (pc := 217) dX8_countOf_217 ?_
                  refine r_istore_n (pc := 218) [(2, .int (v2 + (1 : Int32))), (4, .int (1 : Int32)), (0, .ref (ad en 21 0 0)), (1, .int a1), (3, .int v3)] dX8_countOf_218 rfl (by decide) rfl ?_
                  refine r_iinc (pc := 219) 4 [(3, .int (v3 + (1 : Int32))), (2, .int (v2 + (1 : Int32))), (4, .int (1 : Int32)), (0, .ref (ad en 21 0 0)), (1, .int a1)] dX8_countOf_219 rfl rfl (by decide) rfl ?_
                  refine r_goto (pc := 222) 102 dX8_countOf_222 (by decide) ?_
                  exact r_sub [3, 4, 1, 0] rfl (ih (v2 + (1 : Int32)) (v3 + (1 : Int32)) σ)
            · refine r_iconst (pc := 173) dX8_countOf_173 kc_iconst_0 ?_
              refine r_istore (pc := 174) [(4, .int (0 : Int32)), (0, .ref (ad en 21 0 0)), (1, .int a1), (2, .int v2), (3, .int v3)] dX8_countOf_174 (by decide) rfl ?_
              refine r_iload_n (pc := 176) 3 dX8_countOf_176 rfl rfl ?_
              refine r_iload (pc := 177) 0 dX8_countOf_177 rfl ?_
              refine r_if_ne_t (pc := 179) 212 dX8_countOf_179 (by decide) (by decide) ?_
              refine r_iload_n (pc := 182) 2 dX8_countOf_182 rfl rfl ?_
              refine r_bipush (pc := 183) dX8_countOf_183 kc_bipush_8 ?_
              refine r_icmp_le (pc := 185) 216 dX8_countOf_185 (by decide) (fun h67 => ?_) (fun h67 => ?_)
              · refine r_iconst (pc := 216) dX8_countOf_216 kc_iconst_0 ?_
                refine r_iadd (pc := 217) dX8_countOf_217 ?_
                refine r_istore_n (pc := 218) [(2, .int (v2 + (0 : Int32))), (4, .int (0 : Int32)), (0, .ref (ad en 21 0 0)), (1, .int a1), (3, .int v3)] dX8_countOf_218 rfl (by decide) rfl ?_
                refine r_iinc (pc := 219) 4 [(3, .int (v3 + (1 : Int32))), (2, .int (v2 + (0 : Int32))), (4, .int (0 : Int32)), (0, .ref (ad en 21 0 0)), (1, .int a1)] dX8_countOf_219 rfl rfl (by decide) rfl ?_
                refine r_goto (pc := 222) 102 dX8_countOf_222 (by decide) ?_
                exact r_sub [3, 4, 1, 0] rfl (ih (v2 + (0 : Int32)) (v3 + (1 : Int32)) σ)
              · refine r_iload_n (pc := 188) 4 dX8_countOf_188 rfl rfl ?_
                refine r_aload_n (pc := 189) 1 dX8_countOf_189 rfl rfl ?_
                refine g_X8_panes (pc := 190)  lf_RX8_143 dX8_countOf_190 ?_
                refine r_icmp_ge (pc := 193) 216 dX8_countOf_193 (by decide) (fun h68 => ?_) (fun h68 => ?_)
                · refine r_iconst (pc := 216) dX8_countOf_216 kc_iconst_0 ?_
                  refine r_iadd (pc := 217) dX8_countOf_217 ?_
                  refine r_istore_n (pc := 218) [(2, .int (v2 + (0 : Int32))), (4, .int (0 : Int32)), (0, .ref (ad en 21 0 0)), (1, .int a1), (3, .int v3)] dX8_countOf_218 rfl (by decide) rfl ?_
                  refine r_iinc (pc := 219) 4 [(3, .int (v3 + (1 : Int32))), (2, .int (v2 + (0 : Int32))), (4, .int (0 : Int32)), (0, .ref (ad en 21 0 0)), (1, .int a1)] dX8_countOf_219 rfl rfl (by decide) rfl ?_
                  refine r_goto (pc := 222) 102 dX8_countOf_222 (by decide) ?_
                  exact r_sub [3, 4, 1, 0] rfl (ih (v2 + (0 : Int32)) (v3 + (1 : Int32)) σ)
                · refine r_aload_n (pc := 196) 1 dX8_countOf_196 rfl rfl ?_
                  refine g_X8_kind (pc := 197)  lf_RX8_25 dX8_countOf_197 ?_
                  refine r_iload_n (pc := 200) 4 dX8_countOf_200 rfl rfl ?_
                  refine r_iald (pc := 201) (n := 7) o22_11 rfl dX8_countOf_201 (fun h69 => ?_)
                  refine r_iload_n (pc := 202) 2 dX8_countOf_202 rfl rfl ?_
                  refine r_bipush (pc := 203) dX8_countOf_203 kc_bipush_8 ?_
                  refine r_isub (pc := 205) dX8_countOf_205 ?_
                  refine k_X8_isOne (pc := 206) lm_RX8_194  (by decide) (Nat.le_of_ble_eq_true rfl) dX8_countOf_206 (fun w13 h70 => ?_)
                  refine r_if_eq (pc := 209) 216 dX8_countOf_209 (by decide) (fun h71 => ?_) (fun h71 => ?_)
                  · refine r_iconst (pc := 216) dX8_countOf_216 kc_iconst_0 ?_
                    refine r_iadd (pc := 217) dX8_countOf_217 ?_
                    refine r_istore_n (pc := 218) [(2, .int (v2 + (0 : Int32))), (4, .int (0 : Int32)), (0, .ref (ad en 21 0 0)), (1, .int a1), (3, .int v3)] dX8_countOf_218 rfl (by decide) rfl ?_
                    refine r_iinc (pc := 219) 4 [(3, .int (v3 + (1 : Int32))), (2, .int (v2 + (0 : Int32))), (4, .int (0 : Int32)), (0, .ref (ad en 21 0 0)), (1, .int a1)] dX8_countOf_219 rfl rfl (by decide) rfl ?_
                    refine r_goto (pc := 222) 102 dX8_countOf_222 (by decide) ?_
                    exact r_sub [3, 4, 1, 0] rfl (ih (v2 + (0 : Int32)) (v3 + (1 : Int32)) w13.2)
                  · refine r_iconst (pc := 212) dX8_countOf_212 kc_iconst_1 ?_
                    refine r_goto (pc := 213) 217 dX8_countOf_213 (by decide) ?_
                    refine r_iadd (pc := 217) dX8_countOf_217 ?_
                    refine r_istore_n (pc := 218) [(2, .int (v2 + (1 : Int32))), (4, .int (0 : Int32)), (0, .ref (ad en 21 0 0)), (1, .int a1), (3, .int v3)] dX8_countOf_218 rfl (by decide) rfl ?_
                    refine r_iinc (pc := 219) 4 [(3, .int (v3 + (1 : Int32))), (2, .int (v2 + (1 : Int32))), (4, .int (0 : Int32)), (0, .ref (ad en 21 0 0)), (1, .int a1)] dX8_countOf_219 rfl rfl (by decide) rfl ?_
                    refine r_goto (pc := 222) 102 dX8_countOf_222 (by decide) ?_
                    exact r_sub [3, 4, 1, 0] rfl (ih (v2 + (1 : Int32)) (v3 + (1 : Int32)) w13.2)
        · refine r_aload_n (pc := 120) 0 dX8_countOf_120 rfl rfl ?_
          refine g_X8_rowSize (pc := 121)  lf_RX8_16 dX8_countOf_121 ?_
          refine r_iload_n (pc := 124) 3 dX8_countOf_124 rfl rfl ?_
          refine r_iald (pc := 125) (n := 6) o22_7 rfl dX8_countOf_125 (fun h72 => ?_)
          refine r_if_ge (pc := 126) 169 dX8_countOf_126 (by decide) (fun h73 => ?_) (fun h73 => ?_)
          · refine r_iconst (pc := 169) dX8_countOf_169 kc_iconst_1 ?_
            refine r_goto (pc := 170) 174 dX8_countOf_170 (by decide) ?_
            refine r_istore (pc := 174) [(4, .int (1 : Int32)), (0, .ref (ad en 21 0 0)), (1, .int a1), (2, .int v2), (3, .int v3)] dX8_countOf_174 (by decide) rfl ?_
            refine r_iload_n (pc := 176) 3 dX8_countOf_176 rfl rfl ?_
            refine r_iload (pc := 177) 0 dX8_countOf_177 rfl ?_
            refine r_if_ne_f (pc := 179) 212 dX8_countOf_179 (by decide) (by decide) ?_
            refine r_iconst (pc := 212) dX8_countOf_212 kc_iconst_1 ?_
            refine r_goto (pc := 213) 217 dX8_countOf_213 (by decide) ?_
            refine r_iadd (pc := 217) dX8_countOf_217 ?_
            refine r_istore_n (pc := 218) [(2, .int (v2 + (1 : Int32))), (4, .int (1 : Int32)), (0, .ref (ad en 21 0 0)), (1, .int a1), (3, .int v3)] dX8_countOf_218 rfl (by decide) rfl ?_
            refine r_iinc (pc := 219) 4 [(3, .int (v3 + (1 : Int32))), (2, .int (v2 + (1 : Int32))), (4, .int (1 : Int32)), (0, .ref (ad en 21 0 0)), (1, .int a1)] dX8_countOf_219 rfl rfl (by decide) rfl ?_
            refine r_goto (pc := 222) 102 dX8_countOf_222 (by decide) ?_
            exact r_sub [3, 4, 1, 0] rfl (ih (v2 + (1 : Int32)) (v3 + (1 : Int32)) σ)
          · refine r_iload_n (pc := 129) 1 dX8_countOf_129 rfl rfl ?_
            refine r_bipush (pc := 130) dX8_countOf_130 kc_bipush_7 ?_
            refine r_icmp_ne (pc := 132) 149 dX8_countOf_132 (by decide) (fun h74 => ?_) (fun h74 => ?_)
            · refine r_iload_n (pc := 135) 3 dX8_countOf_135 rfl rfl ?_
              refine r_iconst (pc := 136) dX8_countOf_136 kc_iconst_4 ?_
              refine r_icmp_ge (pc := 137) 149 dX8_countOf_137 (by decide) (fun h75 => ?_) (fun h75 => ?_)
              · refine r_iload_n (pc := 149) 1 dX8_countOf_149 rfl rfl ?_
                refine r_bipush (pc := 150) dX8_countOf_150 kc_bipush_8 ?_
                refine r_icmp_ne (pc := 152) 173 dX8_countOf_152 (by decide) (fun h76 => ?_) (fun h76 => ?_)
                · refine r_iload_n (pc := 155) 3 dX8_countOf_155 rfl rfl ?_
                  refine r_iconst (pc := 156) dX8_countOf_156 kc_iconst_3 ?_
                  refine r_icmp_ge (pc := 157) 173 dX8_countOf_157 (by decide) (fun h77 => ?_) (fun h77 => ?_)
                  · refine r_iconst (pc := 173) dX8_countOf_173 kc_iconst_0 ?_
                    refine r_istore (pc := 174) [(4, .int (0 : Int32)), (0, .ref (ad en 21 0 0)), (1, .int a1), (2, .int v2), (3, .int v3)] dX8_countOf_174 (by decide) rfl ?_
                    refine r_iload_n (pc := 176) 3 dX8_countOf_176 rfl rfl ?_
                    refine r_iload (pc := 177) 0 dX8_countOf_177 rfl ?_
                    refine r_if_ne_t (pc := 179) 212 dX8_countOf_179 (by decide) (by decide) ?_
                    refine r_iload_n (pc := 182) 2 dX8_countOf_182 rfl rfl ?_
                    refine r_bipush (pc := 183) dX8_countOf_183 kc_bipush_8 ?_
                    refine r_icmp_le (pc := 185) 216 dX8_countOf_185 (by decide) (fun h78 => ?_) (fun h78 => ?_)
                    · refine r_iconst (pc := 216) dX8_countOf_216 kc_iconst_0 ?_
                      refine r_iadd (pc := 217) dX8_countOf_217 ?_
                      refine r_istore_n (pc := 218) [(2, .int (v2 + (0 : Int32))), (4, .int (0 : Int32)), (0, .ref (ad en 21 0 0)), (1, .int a1), (3, .int v3)] dX8_countOf_218 rfl (by decide) rfl ?_
                      refine r_iinc (pc := 219) 4 [(3, .int (v3 + (1 : Int32))), (2, .int (v2 + (0 : Int32))), (4, .int (0 : Int32)), (0, .ref (ad en 21 0 0)), (1, .int a1)] dX8_countOf_219 rfl rfl (by decide) rfl ?_
                      refine r_goto (pc := 222) 102 dX8_countOf_222 (by decide) ?_
                      exact r_sub [3, 4, 1, 0] rfl (ih (v2 + (0 : Int32)) (v3 + (1 : Int32)) σ)
                    · refine r_iload_n (pc := 188) 4 dX8_countOf_188 rfl rfl ?_
                      refine r_aload_n (pc := 189) 1 dX8_countOf_189 rfl rfl ?_
                      refine g_X8_panes (pc := 190)  lf_RX8_143 dX8_countOf_190 ?_
                      refine r_icmp_ge (pc := 193) 216 dX8_countOf_193 (by decide) (fun h79 => ?_) (fun h79 => ?_)
                      · refine r_iconst (pc := 216) dX8_countOf_216 kc_iconst_0 ?_
                        refine r_iadd (pc := 217) dX8_countOf_217 ?_
                        refine r_istore_n (pc := 218) [(2, .int (v2 + (0 : Int32))), (4, .int (0 : Int32)), (0, .ref (ad en 21 0 0)), (1, .int a1), (3, .int v3)] dX8_countOf_218 rfl (by decide) rfl ?_
                        refine r_iinc (pc := 219) 4 [(3, .int (v3 + (1 : Int32))), (2, .int (v2 + (0 : Int32))), (4, .int (0 : Int32)), (0, .ref (ad en 21 0 0)), (1, .int a1)] dX8_countOf_219 rfl rfl (by decide) rfl ?_
                        refine r_goto (pc := 222) 102 dX8_countOf_222 (by decide) ?_
                        exact r_sub [3, 4, 1, 0] rfl (ih (v2 + (0 : Int32)) (v3 + (1 : Int32)) σ)
                      · refine r_aload_n (pc := 196) 1 dX8_countOf_196 rfl rfl ?_
                        refine g_X8_kind (pc := 197)  lf_RX8_25 dX8_countOf_197 ?_
                        refine r_iload_n (pc := 200) 4 dX8_countOf_200 rfl rfl ?_
                        refine r_iald (pc := 201) (n := 7) o22_11 rfl dX8_countOf_201 (fun h80 => ?_)
                        refine r_iload_n (pc := 202) 2 dX8_countOf_202 rfl rfl ?_
                        refine r_bipush (pc := 203) dX8_countOf_203 kc_bipush_8 ?_
                        refine r_isub (pc := 205) dX8_countOf_205 ?_
                        refine k_X8_isOne (pc := 206) lm_RX8_194  (by decide) (Nat.le_of_ble_eq_true rfl) dX8_countOf_206 (fun w14 h81 => ?_)
                        refine r_if_eq (pc := 209) 216 dX8_countOf_209 (by decide) (fun h82 => ?_) (fun h82 => ?_)
                        · refine r_iconst (pc := 216) dX8_countOf_216 kc_iconst_0 ?_
                          refine r_iadd (pc := 217) dX8_countOf_217 ?_
                          refine r_istore_n (pc := 218) [(2, .int (v2 + (0 : Int32))), (4, .int (0 : Int32)), (0, .ref (ad en 21 0 0)), (1, .int a1), (3, .int v3)] dX8_countOf_218 rfl (by decide) rfl ?_
                          refine r_iinc (pc := 219) 4 [(3, .int (v3 + (1 : Int32))), (2, .int (v2 + (0 : Int32))), (4, .int (0 : Int32)), (0, .ref (ad en 21 0 0)), (1, .int a1)] dX8_countOf_219 rfl rfl (by decide) rfl ?_
                          refine r_goto (pc := 222) 102 dX8_countOf_222 (by decide) ?_
                          exact r_sub [3, 4, 1, 0] rfl (ih (v2 + (0 : Int32)) (v3 + (1 : Int32)) w14.2)
                        · refine r_iconst (pc := 212) dX8_countOf_212 kc_iconst_1 ?_
                          refine r_goto (pc := 213) 217 dX8_countOf_213 (by decide) ?_
                          refine r_iadd (pc := 217) dX8_countOf_217 ?_
                          refine r_istore_n (pc := 218) [(2, .int (v2 + (1 : Int32))), (4, .int (0 : Int32)), (0, .ref (ad en 21 0 0)), (1, .int a1), (3, .int v3)] dX8_countOf_218 rfl (by decide) rfl ?_
                          refine r_iinc (pc := 219) 4 [(3, .int (v3 + (1 : Int32))), (2, .int (v2 + (1 : Int32))), (4, .int (0 : Int32)), (0, .ref (ad en 21 0 0)), (1, .int a1)] dX8_countOf_219 rfl rfl (by decide) rfl ?_
                          refine r_goto (pc := 222) 102 dX8_countOf_222 (by decide) ?_
                          exact r_sub [3, 4, 1, 0] rfl (ih (v2 + (1 : Int32)) (v3 + (1 : Int32)) w14.2)
                  · refine r_aload_n (pc := 160) 0 dX8_countOf_160 rfl rfl ?_
                    refine g_X8_keptDeeds (pc := 161)  lf_RX8_46 dX8_countOf_161 ?_
                    refine r_iload_n (pc := 164) 3 dX8_countOf_164 rfl rfl ?_
                    refine r_iald (pc := 165) (n := 3) o22_19 rfl dX8_countOf_165 (fun h83 => ?_)
                    refine r_if_lt (pc := 166) 173 dX8_countOf_166 (by decide) (fun h84 => ?_) (fun h84 => ?_)
                    · refine r_iconst (pc := 173) dX8_countOf_173 kc_iconst_0 ?_
                      refine r_istore (pc := 174) [(4, .int (0 : Int32)), (0, .ref (ad en 21 0 0)), (1, .int a1), (2, .int v2), (3, .int v3)] dX8_countOf_174 (by decide) rfl ?_
                      refine r_iload_n (pc := 176) 3 dX8_countOf_176 rfl rfl ?_
                      refine r_iload (pc := 177) 0 dX8_countOf_177 rfl ?_
                      refine r_if_ne_t (pc := 179) 212 dX8_countOf_179 (by decide) (by decide) ?_
                      refine r_iload_n (pc := 182) 2 dX8_countOf_182 rfl rfl ?_
                      refine r_bipush (pc := 183) dX8_countOf_183 kc_bipush_8 ?_
                      refine r_icmp_le (pc := 185) 216 dX8_countOf_185 (by decide) (fun h85 => ?_) (fun h85 => ?_)
                      · refine r_iconst (pc := 216) dX8_countOf_216 kc_iconst_0 ?_
                        refine r_iadd (pc := 217) dX8_countOf_217 ?_
                        refine r_istore_n (pc := 218) [(2, .int (v2 + (0 : Int32))), (4, .int (0 : Int32)), (0, .ref (ad en 21 0 0)), (1, .int a1), (3, .int v3)] dX8_countOf_218 rfl (by decide) rfl ?_
                        refine r_iinc (pc := 219) 4 [(3, .int (v3 + (1 : Int32))), (2, .int (v2 + (0 : Int32))), (4, .int (0 : Int32)), (0, .ref (ad en 21 0 0)), (1, .int a1)] dX8_countOf_219 rfl rfl (by decide) rfl ?_
                        refine r_goto (pc := 222) 102 dX8_countOf_222 (by decide) ?_
                        exact r_sub [3, 4, 1, 0] rfl (ih (v2 + (0 : Int32)) (v3 + (1 : Int32)) σ)
                      · refine r_iload_n (pc := 188) 4 dX8_countOf_188 rfl rfl ?_
                        refine r_aload_n (pc := 189) 1 dX8_countOf_189 rfl rfl ?_
                        refine g_X8_panes (pc := 190)  lf_RX8_143 dX8_countOf_190 ?_
                        refine r_icmp_ge (pc := 193) 216 dX8_countOf_193 (by decide) (fun h86 => ?_) (fun h86 => ?_)
                        · refine r_iconst (pc := 216) dX8_countOf_216 kc_iconst_0 ?_
                          refine r_iadd (pc := 217) dX8_countOf_217 ?_
                          refine r_istore_n (pc := 218) [(2, .int (v2 + (0 : Int32))), (4, .int (0 : Int32)), (0, .ref (ad en 21 0 0)), (1, .int a1), (3, .int v3)] dX8_countOf_218 rfl (by decide) rfl ?_
                          refine r_iinc (pc := 219) 4 [(3, .int (v3 + (1 : Int32))), (2, .int (v2 + (0 : Int32))), (4, .int (0 : Int32)), (0, .ref (ad en 21 0 0)), (1, .int a1)] dX8_countOf_219 rfl rfl (by decide) rfl ?_
                          refine r_goto (pc := 222) 102 dX8_countOf_222 (by decide) ?_
                          exact r_sub [3, 4, 1, 0] rfl (ih (v2 + (0 : Int32)) (v3 + (1 : Int32)) σ)
                        · refine r_aload_n (pc := 196) 1 dX8_countOf_196 rfl rfl ?_
                          refine g_X8_kind (pc := 197)  lf_RX8_25 dX8_countOf_197 ?_
                          refine r_iload_n (pc := 200) 4 dX8_countOf_200 rfl rfl ?_
                          refine r_iald (pc := 201) (n := 7) o22_11 rfl dX8_countOf_201 (fun h87 => ?_)
                          refine r_iload_n (pc := 202) 2 dX8_countOf_202 rfl rfl ?_
                          refine r_bipush (pc := 203) dX8_countOf_203 kc_bipush_8 ?_
                          refine r_isub (pc := 205) dX8_countOf_205 ?_
                          refine k_X8_isOne (pc := 206) lm_RX8_194  (by decide) (Nat.le_of_ble_eq_true rfl) dX8_countOf_206 (fun w15 h88 => ?_)
                          refine r_if_eq (pc := 209) 216 dX8_countOf_209 (by decide) (fun h89 => ?_) (fun h89 => ?_)
                          · refine r_iconst (pc := 216) dX8_countOf_216 kc_iconst_0 ?_
                            refine r_iadd (pc := 217) dX8_countOf_217 ?_
                            refine r_istore_n (pc := 218) [(2, .int (v2 + (0 : Int32))), (4, .int (0 : Int32)), (0, .ref (ad en 21 0 0)), (1, .int a1), (3, .int v3)] dX8_countOf_218 rfl (by decide) rfl ?_
                            refine r_iinc (pc := 219) 4 [(3, .int (v3 + (1 : Int32))), (2, .int (v2 + (0 : Int32))), (4, .int (0 : Int32)), (0, .ref (ad en 21 0 0)), (1, .int a1)] dX8_countOf_219 rfl rfl (by decide) rfl ?_
                            refine r_goto (pc := 222) 102 dX8_countOf_222 (by decide) ?_
                            exact r_sub [3, 4, 1, 0] rfl (ih (v2 + (0 : Int32)) (v3 + (1 : Int32)) w15.2)
                          · refine r_iconst (pc := 212) dX8_countOf_212 kc_iconst_1 ?_
                            refine r_goto (pc := 213) 217 dX8_countOf_213 (by decide) ?_
                            refine r_iadd (pc := 217) dX8_countOf_217 ?_
                            refine r_istore_n (pc := 218) [(2, .int (v2 + (1 : Int32))), (4, .int (0 : Int32)), (0, .ref (ad en 21 0 0)), (1, .int a1), (3, .int v3)] dX8_countOf_218 rfl (by decide) rfl ?_
                            refine r_iinc (pc := 219) 4 [(3, .int (v3 + (1 : Int32))), (2, .int (v2 + (1 : Int32))), (4, .int (0 : Int32)), (0, .ref (ad en 21 0 0)), (1, .int a1)] dX8_countOf_219 rfl rfl (by decide) rfl ?_
                            refine r_goto (pc := 222) 102 dX8_countOf_222 (by decide) ?_
                            exact r_sub [3, 4, 1, 0] rfl (ih (v2 + (1 : Int32)) (v3 + (1 : Int32)) w15.2)
                    · refine r_iconst (pc := 169) dX8_countOf_169 kc_iconst_1 ?_
                      refine r_goto (pc := 170) 174 dX8_countOf_170 (by decide) ?_
                      refine r_istore (pc := 174) [(4, .int (1 : Int32)), (0, .ref (ad en 21 0 0)), (1, .int a1), (2, .int v2), (3, .int v3)] dX8_countOf_174 (by decide) rfl ?_
                      refine r_iload_n (pc := 176) 3 dX8_countOf_176 rfl rfl ?_
                      refine r_iload (pc := 177) 0 dX8_countOf_177 rfl ?_
                      refine r_if_ne_f (pc := 179) 212 dX8_countOf_179 (by decide) (by decide) ?_
                      refine r_iconst (pc := 212) dX8_countOf_212 kc_iconst_1 ?_
                      refine r_goto (pc := 213) 217 dX8_countOf_213 (by decide) ?_
                      refine r_iadd (pc := 217) dX8_countOf_217 ?_
                      refine r_istore_n (pc := 218) [(2, .int (v2 + (1 : Int32))), (4, .int (1 : Int32)), (0, .ref (ad en 21 0 0)), (1, .int a1), (3, .int v3)] dX8_countOf_218 rfl (by decide) rfl ?_
                      refine r_iinc (pc := 219) 4 [(3, .int (v3 + (1 : Int32))), (2, .int (v2 + (1 : Int32))), (4, .int (1 : Int32)), (0, .ref (ad en 21 0 0)), (1, .int a1)] dX8_countOf_219 rfl rfl (by decide) rfl ?_
                      refine r_goto (pc := 222) 102 dX8_countOf_222 (by decide) ?_
                      exact r_sub [3, 4, 1, 0] rfl (ih (v2 + (1 : Int32)) (v3 + (1 : Int32)) σ)
                · refine r_iconst (pc := 173) dX8_countOf_173 kc_iconst_0 ?_
                  refine r_istore (pc := 174) [(4, .int (0 : Int32)), (0, .ref (ad en 21 0 0)), (1, .int a1), (2, .int v2), (3, .int v3)] dX8_countOf_174 (by decide) rfl ?_
                  refine r_iload_n (pc := 176) 3 dX8_countOf_176 rfl rfl ?_
                  refine r_iload (pc := 177) 0 dX8_countOf_177 rfl ?_
                  refine r_if_ne_t (pc := 179) 212 dX8_countOf_179 (by decide) (by decide) ?_
                  refine r_iload_n (pc := 182) 2 dX8_countOf_182 rfl rfl ?_
                  refine r_bipush (pc := 183) dX8_countOf_183 kc_bipush_8 ?_
                  refine r_icmp_le (pc := 185) 216 dX8_countOf_185 (by decide) (fun h90 => ?_) (fun h90 => ?_)
                  · refine r_iconst (pc := 216) dX8_countOf_216 kc_iconst_0 ?_
                    refine r_iadd (pc := 217) dX8_countOf_217 ?_
                    refine r_istore_n (pc := 218) [(2, .int (v2 + (0 : Int32))), (4, .int (0 : Int32)), (0, .ref (ad en 21 0 0)), (1, .int a1), (3, .int v3)] dX8_countOf_218 rfl (by decide) rfl ?_
                    refine r_iinc (pc := 219) 4 [(3, .int (v3 + (1 : Int32))), (2, .int (v2 + (0 : Int32))), (4, .int (0 : Int32)), (0, .ref (ad en 21 0 0)), (1, .int a1)] dX8_countOf_219 rfl rfl (by decide) rfl ?_
                    refine r_goto (pc := 222) 102 dX8_countOf_222 (by decide) ?_
                    exact r_sub [3, 4, 1, 0] rfl (ih (v2 + (0 : Int32)) (v3 + (1 : Int32)) σ)
                  · refine r_iload_n (pc := 188) 4 dX8_countOf_188 rfl rfl ?_
                    refine r_aload_n (pc := 189) 1 dX8_countOf_189 rfl rfl ?_
                    refine g_X8_panes (pc := 190)  lf_RX8_143 dX8_countOf_190 ?_
                    refine r_icmp_ge (pc := 193) 216 dX8_countOf_193 (by decide) (fun h91 => ?_) (fun h91 => ?_)
                    · refine r_iconst (pc := 216) dX8_countOf_216 kc_iconst_0 ?_
                      refine r_iadd (pc := 217) dX8_countOf_217 ?_
                      refine r_istore_n (pc := 218) [(2, .int (v2 + (0 : Int32))), (4, .int (0 : Int32)), (0, .ref (ad en 21 0 0)), (1, .int a1), (3, .int v3)] dX8_countOf_218 rfl (by decide) rfl ?_
                      refine r_iinc (pc := 219) 4 [(3, .int (v3 + (1 : Int32))), (2, .int (v2 + (0 : Int32))), (4, .int (0 : Int32)), (0, .ref (ad en 21 0 0)), (1, .int a1)] dX8_countOf_219 rfl rfl (by decide) rfl ?_
                      refine r_goto (pc := 222) 102 dX8_countOf_222 (by decide) ?_
                      exact r_sub [3, 4, 1, 0] rfl (ih (v2 + (0 : Int32)) (v3 + (1 : Int32)) σ)
                    · refine r_aload_n (pc := 196) 1 dX8_countOf_196 rfl rfl ?_
                      refine g_X8_kind (pc := 197)  lf_RX8_25 dX8_countOf_197 ?_
                      refine r_iload_n (pc := 200) 4 dX8_countOf_200 rfl rfl ?_
                      refine r_iald (pc := 201) (n := 7) o22_11 rfl dX8_countOf_201 (fun h92 => ?_)
                      refine r_iload_n (pc := 202) 2 dX8_countOf_202 rfl rfl ?_
                      refine r_bipush (pc := 203) dX8_countOf_203 kc_bipush_8 ?_
                      refine r_isub (pc := 205) dX8_countOf_205 ?_
                      refine k_X8_isOne (pc := 206) lm_RX8_194  (by decide) (Nat.le_of_ble_eq_true rfl) dX8_countOf_206 (fun w16 h93 => ?_)
                      refine r_if_eq (pc := 209) 216 dX8_countOf_209 (by decide) (fun h94 => ?_) (fun h94 => ?_)
                      · refine r_iconst (pc := 216) dX8_countOf_216 kc_iconst_0 ?_
                        refine r_iadd (pc := 217) dX8_countOf_217 ?_
                        refine r_istore_n (pc := 218) [(2, .int (v2 + (0 : Int32))), (4, .int (0 : Int32)), (0, .ref (ad en 21 0 0)), (1, .int a1), (3, .int v3)] dX8_countOf_218 rfl (by decide) rfl ?_
                        refine r_iinc (pc := 219) 4 [(3, .int (v3 + (1 : Int32))), (2, .int (v2 + (0 : Int32))), (4, .int (0 : Int32)), (0, .ref (ad en 21 0 0)), (1, .int a1)] dX8_countOf_219 rfl rfl (by decide) rfl ?_
                        refine r_goto (pc := 222) 102 dX8_countOf_222 (by decide) ?_
                        exact r_sub [3, 4, 1, 0] rfl (ih (v2 + (0 : Int32)) (v3 + (1 : Int32)) w16.2)
                      · refine r_iconst (pc := 212) dX8_countOf_212 kc_iconst_1 ?_
                        refine r_goto (pc := 213) 217 dX8_countOf_213 (by decide) ?_
                        refine r_iadd (pc := 217) dX8_countOf_217 ?_
                        refine r_istore_n (pc := 218) [(2, .int (v2 + (1 : Int32))), (4, .int (0 : Int32)), (0, .ref (ad en 21 0 0)), (1, .int a1), (3, .int v3)] dX8_countOf_218 rfl (by decide) rfl ?_
                        refine r_iinc (pc := 219) 4 [(3, .int (v3 + (1 : Int32))), (2, .int (v2 + (1 : Int32))), (4, .int (0 : Int32)), (0, .ref (ad en 21 0 0)), (1, .int a1)] dX8_countOf_219 rfl rfl (by decide) rfl ?_
                        refine r_goto (pc := 222) 102 dX8_countOf_222 (by decide) ?_
                        exact r_sub [3, 4, 1, 0] rfl (ih (v2 + (1 : Int32)) (v3 + (1 : Int32)) w16.2)
              · refine r_aload_n (pc := 140) 0 dX8_countOf_140 rfl rfl ?_
                refine g_X8_byteSize (pc := 141)  lf_RX8_22 dX8_countOf_141 ?_
                refine r_iload_n (pc := 144) 3 dX8_countOf_144 rfl rfl ?_
                refine r_iald (pc := 145) (n := 4) o22_9 rfl dX8_countOf_145 (fun h95 => ?_)
                refine r_if_ge (pc := 146) 169 dX8_countOf_146 (by decide) (fun h96 => ?_) (fun h96 => ?_)
                · refine r_iconst (pc := 169) dX8_countOf_169 kc_iconst_1 ?_
                  refine r_goto (pc := 170) 174 dX8_countOf_170 (by decide) ?_
                  refine r_istore (pc := 174) [(4, .int (1 : Int32)), (0, .ref (ad en 21 0 0)), (1, .int a1), (2, .int v2), (3, .int v3)] dX8_countOf_174 (by decide) rfl ?_
                  refine r_iload_n (pc := 176) 3 dX8_countOf_176 rfl rfl ?_
                  refine r_iload (pc := 177) 0 dX8_countOf_177 rfl ?_
                  refine r_if_ne_f (pc := 179) 212 dX8_countOf_179 (by decide) (by decide) ?_
                  refine r_iconst (pc := 212) dX8_countOf_212 kc_iconst_1 ?_
                  refine r_goto (pc := 213) 217 dX8_countOf_213 (by decide) ?_
                  refine r_iadd (pc := 217) dX8_countOf_217 ?_
                  refine r_istore_n (pc := 218) [(2, .int (v2 + (1 : Int32))), (4, .int (1 : Int32)), (0, .ref (ad en 21 0 0)), (1, .int a1), (3, .int v3)] dX8_countOf_218 rfl (by decide) rfl ?_
                  refine r_iinc (pc := 219) 4 [(3, .int (v3 + (1 : Int32))), (2, .int (v2 + (1 : Int32))), (4, .int (1 : Int32)), (0, .ref (ad en 21 0 0)), (1, .int a1)] dX8_countOf_219 rfl rfl (by decide) rfl ?_
                  refine r_goto (pc := 222) 102 dX8_countOf_222 (by decide) ?_
                  exact r_sub [3, 4, 1, 0] rfl (ih (v2 + (1 : Int32)) (v3 + (1 : Int32)) σ)
                · refine r_iload_n (pc := 149) 1 dX8_countOf_149 rfl rfl ?_
                  refine r_bipush (pc := 150) dX8_countOf_150 kc_bipush_8 ?_
                  refine r_icmp_ne (pc := 152) 173 dX8_countOf_152 (by decide) (fun h97 => ?_) (fun h97 => ?_)
                  · refine r_iload_n (pc := 155) 3 dX8_countOf_155 rfl rfl ?_
                    refine r_iconst (pc := 156) dX8_countOf_156 kc_iconst_3 ?_
                    refine r_icmp_ge (pc := 157) 173 dX8_countOf_157 (by decide) (fun h98 => ?_) (fun h98 => ?_)
                    · refine r_iconst (pc := 173) dX8_countOf_173 kc_iconst_0 ?_
                      refine r_istore (pc := 174) [(4, .int (0 : Int32)), (0, .ref (ad en 21 0 0)), (1, .int a1), (2, .int v2), (3, .int v3)] dX8_countOf_174 (by decide) rfl ?_
                      refine r_iload_n (pc := 176) 3 dX8_countOf_176 rfl rfl ?_
                      refine r_iload (pc := 177) 0 dX8_countOf_177 rfl ?_
                      refine r_if_ne_t (pc := 179) 212 dX8_countOf_179 (by decide) (by decide) ?_
                      refine r_iload_n (pc := 182) 2 dX8_countOf_182 rfl rfl ?_
                      refine r_bipush (pc := 183) dX8_countOf_183 kc_bipush_8 ?_
                      refine r_icmp_le (pc := 185) 216 dX8_countOf_185 (by decide) (fun h99 => ?_) (fun h99 => ?_)
                      · refine r_iconst (pc := 216) dX8_countOf_216 kc_iconst_0 ?_
                        refine r_iadd (pc := 217) dX8_countOf_217 ?_
                        refine r_istore_n (pc := 218) [(2, .int (v2 + (0 : Int32))), (4, .int (0 : Int32)), (0, .ref (ad en 21 0 0)), (1, .int a1), (3, .int v3)] dX8_countOf_218 rfl (by decide) rfl ?_
                        refine r_iinc (pc := 219) 4 [(3, .int (v3 + (1 : Int32))), (2, .int (v2 + (0 : Int32))), (4, .int (0 : Int32)), (0, .ref (ad en 21 0 0)), (1, .int a1)] dX8_countOf_219 rfl rfl (by decide) rfl ?_
                        refine r_goto (pc := 222) 102 dX8_countOf_222 (by decide) ?_
                        exact r_sub [3, 4, 1, 0] rfl (ih (v2 + (0 : Int32)) (v3 + (1 : Int32)) σ)
                      · refine r_iload_n (pc := 188) 4 dX8_countOf_188 rfl rfl ?_
                        refine r_aload_n (pc := 189) 1 dX8_countOf_189 rfl rfl ?_
                        refine g_X8_panes (pc := 190)  lf_RX8_143 dX8_countOf_190 ?_
                        refine r_icmp_ge (pc := 193) 216 dX8_countOf_193 (by decide) (fun h100 => ?_) (fun h100 => ?_)
                        · refine r_iconst (pc := 216) dX8_countOf_216 kc_iconst_0 ?_
                          refine r_iadd (pc := 217) dX8_countOf_217 ?_
                          refine r_istore_n (pc := 218) [(2, .int (v2 + (0 : Int32))), (4, .int (0 : Int32)), (0, .ref (ad en 21 0 0)), (1, .int a1), (3, .int v3)] dX8_countOf_218 rfl (by decide) rfl ?_
                          refine r_iinc (pc := 219) 4 [(3, .int (v3 + (1 : Int32))), (2, .int (v2 + (0 : Int32))), (4, .int (0 : Int32)), (0, .ref (ad en 21 0 0)), (1, .int a1)] dX8_countOf_219 rfl rfl (by decide) rfl ?_
                          refine r_goto (pc := 222) 102 dX8_countOf_222 (by decide) ?_
                          exact r_sub [3, 4, 1, 0] rfl (ih (v2 + (0 : Int32)) (v3 + (1 : Int32)) σ)
                        · refine r_aload_n (pc := 196) 1 dX8_countOf_196 rfl rfl ?_
                          refine g_X8_kind (pc := 197)  lf_RX8_25 dX8_countOf_197 ?_
                          refine r_iload_n (pc := 200) 4 dX8_countOf_200 rfl rfl ?_
                          refine r_iald (pc := 201) (n := 7) o22_11 rfl dX8_countOf_201 (fun h101 => ?_)
                          refine r_iload_n (pc := 202) 2 dX8_countOf_202 rfl rfl ?_
                          refine r_bipush (pc := 203) dX8_countOf_203 kc_bipush_8 ?_
                          refine r_isub (pc := 205) dX8_countOf_205 ?_
                          refine k_X8_isOne (pc := 206) lm_RX8_194  (by decide) (Nat.le_of_ble_eq_true rfl) dX8_countOf_206 (fun w17 h102 => ?_)
                          refine r_if_eq (pc := 209) 216 dX8_countOf_209 (by decide) (fun h103 => ?_) (fun h103 => ?_)
                          · refine r_iconst (pc := 216) dX8_countOf_216 kc_iconst_0 ?_
                            refine r_iadd (pc := 217) dX8_countOf_217 ?_
                            refine r_istore_n (pc := 218) [(2, .int (v2 + (0 : Int32))), (4, .int (0 : Int32)), (0, .ref (ad en 21 0 0)), (1, .int a1), (3, .int v3)] dX8_countOf_218 rfl (by decide) rfl ?_
                            refine r_iinc (pc := 219) 4 [(3, .int (v3 + (1 : Int32))), (2, .int (v2 + (0 : Int32))), (4, .int (0 : Int32)), (0, .ref (ad en 21 0 0)), (1, .int a1)] dX8_countOf_219 rfl rfl (by decide) rfl ?_
                            refine r_goto (pc := 222) 102 dX8_countOf_222 (by decide) ?_
                            exact r_sub [3, 4, 1, 0] rfl (ih (v2 + (0 : Int32)) (v3 + (1 : Int32)) w17.2)
                          · refine r_iconst (pc := 212) dX8_countOf_212 kc_iconst_1 ?_
                            refine r_goto (pc := 213) 217 dX8_countOf_213 (by decide) ?_
                            refine r_iadd (pc := 217) dX8_countOf_217 ?_
                            refine r_istore_n (pc := 218) [(2, .int (v2 + (1 : Int32))), (4, .int (0 : Int32)), (0, .ref (ad en 21 0 0)), (1, .int a1), (3, .int v3)] dX8_countOf_218 rfl (by decide) rfl ?_
                            refine r_iinc (pc := 219) 4 [(3, .int (v3 + (1 : Int32))), (2, .int (v2 + (1 : Int32))), (4, .int (0 : Int32)), (0, .ref (ad en 21 0 0)), (1, .int a1)] dX8_countOf_219 rfl rfl (by decide) rfl ?_
                            refine r_goto (pc := 222) 102 dX8_countOf_222 (by decide) ?_
                            exact r_sub [3, 4, 1, 0] rfl (ih (v2 + (1 : Int32)) (v3 + (1 : Int32)) w17.2)
                    · refine r_aload_n (pc := 160) 0 dX8_countOf_160 rfl rfl ?_
                      refine g_X8_keptDeeds (pc := 161)  lf_RX8_46 dX8_countOf_161 ?_
                      refine r_iload_n (pc := 164) 3 dX8_countOf_164 rfl rfl ?_
                      refine r_iald (pc := 165) (n := 3) o22_19 rfl dX8_countOf_165 (fun h104 => ?_)
                      refine r_if_lt (pc := 166) 173 dX8_countOf_166 (by decide) (fun h105 => ?_) (fun h105 => ?_)
                      · refine r_iconst (pc := 173) dX8_countOf_173 kc_iconst_0 ?_
                        refine r_istore (pc := 174) [(4, .int (0 : Int32)), (0, .ref (ad en 21 0 0)), (1, .int a1), (2, .int v2), (3, .int v3)] dX8_countOf_174 (by decide) rfl ?_
                        refine r_iload_n (pc := 176) 3 dX8_countOf_176 rfl rfl ?_
                        refine r_iload (pc := 177) 0 dX8_countOf_177 rfl ?_
                        refine r_if_ne_t (pc := 179) 212 dX8_countOf_179 (by decide) (by decide) ?_
                        refine r_iload_n (pc := 182) 2 dX8_countOf_182 rfl rfl ?_
                        refine r_bipush (pc := 183) dX8_countOf_183 kc_bipush_8 ?_
                        refine r_icmp_le (pc := 185) 216 dX8_countOf_185 (by decide) (fun h106 => ?_) (fun h106 => ?_)
                        · refine r_iconst (pc := 216) dX8_countOf_216 kc_iconst_0 ?_
                          refine r_iadd (pc := 217) dX8_countOf_217 ?_
                          refine r_istore_n (pc := 218) [(2, .int (v2 + (0 : Int32))), (4, .int (0 : Int32)), (0, .ref (ad en 21 0 0)), (1, .int a1), (3, .int v3)] dX8_countOf_218 rfl (by decide) rfl ?_
                          refine r_iinc (pc := 219) 4 [(3, .int (v3 + (1 : Int32))), (2, .int (v2 + (0 : Int32))), (4, .int (0 : Int32)), (0, .ref (ad en 21 0 0)), (1, .int a1)] dX8_countOf_219 rfl rfl (by decide) rfl ?_
                          refine r_goto (pc := 222) 102 dX8_countOf_222 (by decide) ?_
                          exact r_sub [3, 4, 1, 0] rfl (ih (v2 + (0 : Int32)) (v3 + (1 : Int32)) σ)
                        · refine r_iload_n (pc := 188) 4 dX8_countOf_188 rfl rfl ?_
                          refine r_aload_n (pc := 189) 1 dX8_countOf_189 rfl rfl ?_
                          refine g_X8_panes (pc := 190)  lf_RX8_143 dX8_countOf_190 ?_
                          refine r_icmp_ge (pc := 193) 216 dX8_countOf_193 (by decide) (fun h107 => ?_) (fun h107 => ?_)
                          · refine r_iconst (pc := 216) dX8_countOf_216 kc_iconst_0 ?_
                            refine r_iadd (pc := 217) dX8_countOf_217 ?_
                            refine r_istore_n (pc := 218) [(2, .int (v2 + (0 : Int32))), (4, .int (0 : Int32)), (0, .ref (ad en 21 0 0)), (1, .int a1), (3, .int v3)] dX8_countOf_218 rfl (by decide) rfl ?_
                            refine r_iinc (pc := 219) 4 [(3, .int (v3 + (1 : Int32))), (2, .int (v2 + (0 : Int32))), (4, .int (0 : Int32)), (0, .ref (ad en 21 0 0)), (1, .int a1)] dX8_countOf_219 rfl rfl (by decide) rfl ?_
                            refine r_goto (pc := 222) 102 dX8_countOf_222 (by decide) ?_
                            exact r_sub [3, 4, 1, 0] rfl (ih (v2 + (0 : Int32)) (v3 + (1 : Int32)) σ)
                          · refine r_aload_n (pc := 196) 1 dX8_countOf_196 rfl rfl ?_
                            refine g_X8_kind (pc := 197)  lf_RX8_25 dX8_countOf_197 ?_
                            refine r_iload_n (pc := 200) 4 dX8_countOf_200 rfl rfl ?_
                            refine r_iald (pc := 201) (n := 7) o22_11 rfl dX8_countOf_201 (fun h108 => ?_)
                            refine r_iload_n (pc := 202) 2 dX8_countOf_202 rfl rfl ?_
                            refine r_bipush (pc := 203) dX8_countOf_203 kc_bipush_8 ?_
                            refine r_isub (pc := 205) dX8_countOf_205 ?_
                            refine k_X8_isOne (pc := 206) lm_RX8_194  (by decide) (Nat.le_of_ble_eq_true rfl) dX8_countOf_206 (fun w18 h109 => ?_)
                            refine r_if_eq (pc := 209) 216 dX8_countOf_209 (by decide) (fun h110 => ?_) (fun h110 => ?_)
                            · refine r_iconst (pc := 216) dX8_countOf_216 kc_iconst_0 ?_
                              refine r_iadd (pc := 217) dX8_countOf_217 ?_
                              refine r_istore_n (pc := 218) [(2, .int (v2 + (0 : Int32))), (4, .int (0 : Int32)), (0, .ref (ad en 21 0 0)), (1, .int a1), (3, .int v3)] dX8_countOf_218 rfl (by decide) rfl ?_
                              refine r_iinc (pc := 219) 4 [(3, .int (v3 + (1 : Int32))), (2, .int (v2 + (0 : Int32))), (4, .int (0 : Int32)), (0, .ref (ad en 21 0 0)), (1, .int a1)] dX8_countOf_219 rfl rfl (by decide) rfl ?_
                              refine r_goto (pc := 222) 102 dX8_countOf_222 (by decide) ?_
                              exact r_sub [3, 4, 1, 0] rfl (ih (v2 + (0 : Int32)) (v3 + (1 : Int32)) w18.2)
                            · refine r_iconst (pc := 212) dX8_countOf_212 kc_iconst_1 ?_
                              refine r_goto (pc := 213) 217 dX8_countOf_213 (by decide) ?_
                              refine r_iadd (pc := 217) dX8_countOf_217 ?_
                              refine r_istore_n (pc := 218) [(2, .int (v2 + (1 : Int32))), (4, .int (0 : Int32)), (0, .ref (ad en 21 0 0)), (1, .int a1), (3, .int v3)] dX8_countOf_218 rfl (by decide) rfl ?_
                              refine r_iinc (pc := 219) 4 [(3, .int (v3 + (1 : Int32))), (2, .int (v2 + (1 : Int32))), (4, .int (0 : Int32)), (0, .ref (ad en 21 0 0)), (1, .int a1)] dX8_countOf_219 rfl rfl (by decide) rfl ?_
                              refine r_goto (pc := 222) 102 dX8_countOf_222 (by decide) ?_
                              exact r_sub [3, 4, 1, 0] rfl (ih (v2 + (1 : Int32)) (v3 + (1 : Int32)) w18.2)
                      · refine r_iconst (pc := 169) dX8_countOf_169 kc_iconst_1 ?_
                        refine r_goto (pc := 170) 174 dX8_countOf_170 (by decide) ?_
                        refine r_istore (pc := 174) [(4, .int (1 : Int32)), (0, .ref (ad en 21 0 0)), (1, .int a1), (2, .int v2), (3, .int v3)] dX8_countOf_174 (by decide) rfl ?_
                        refine r_iload_n (pc := 176) 3 dX8_countOf_176 rfl rfl ?_
                        refine r_iload (pc := 177) 0 dX8_countOf_177 rfl ?_
                        refine r_if_ne_f (pc := 179) 212 dX8_countOf_179 (by decide) (by decide) ?_
                        refine r_iconst (pc := 212) dX8_countOf_212 kc_iconst_1 ?_
                        refine r_goto (pc := 213) 217 dX8_countOf_213 (by decide) ?_
                        refine r_iadd (pc := 217) dX8_countOf_217 ?_
                        refine r_istore_n (pc := 218) [(2, .int (v2 + (1 : Int32))), (4, .int (1 : Int32)), (0, .ref (ad en 21 0 0)), (1, .int a1), (3, .int v3)] dX8_countOf_218 rfl (by decide) rfl ?_
                        refine r_iinc (pc := 219) 4 [(3, .int (v3 + (1 : Int32))), (2, .int (v2 + (1 : Int32))), (4, .int (1 : Int32)), (0, .ref (ad en 21 0 0)), (1, .int a1)] dX8_countOf_219 rfl rfl (by decide) rfl ?_
                        refine r_goto (pc := 222) 102 dX8_countOf_222 (by decide) ?_
                        exact r_sub [3, 4, 1, 0] rfl (ih (v2 + (1 : Int32)) (v3 + (1 : Int32)) σ)
                  · refine r_iconst (pc := 173) dX8_countOf_173 kc_iconst_0 ?_
                    refine r_istore (pc := 174) [(4, .int (0 : Int32)), (0, .ref (ad en 21 0 0)), (1, .int a1), (2, .int v2), (3, .int v3)] dX8_countOf_174 (by decide) rfl ?_
                    refine r_iload_n (pc := 176) 3 dX8_countOf_176 rfl rfl ?_
                    refine r_iload (pc := 177) 0 dX8_countOf_177 rfl ?_
                    refine r_if_ne_t (pc := 179) 212 dX8_countOf_179 (by decide) (by decide) ?_
                    refine r_iload_n (pc := 182) 2 dX8_countOf_182 rfl rfl ?_
                    refine r_bipush (pc := 183) dX8_countOf_183 kc_bipush_8 ?_
                    refine r_icmp_le (pc := 185) 216 dX8_countOf_185 (by decide) (fun h111 => ?_) (fun h111 => ?_)
                    · refine r_iconst (pc := 216) dX8_countOf_216 kc_iconst_0 ?_
                      refine r_iadd (pc := 217) dX8_countOf_217 ?_
                      refine r_istore_n (pc := 218) [(2, .int (v2 + (0 : Int32))), (4, .int (0 : Int32)), (0, .ref (ad en 21 0 0)), (1, .int a1), (3, .int v3)] dX8_countOf_218 rfl (by decide) rfl ?_
                      refine r_iinc (pc := 219) 4 [(3, .int (v3 + (1 : Int32))), (2, .int (v2 + (0 : Int32))), (4, .int (0 : Int32)), (0, .ref (ad en 21 0 0)), (1, .int a1)] dX8_countOf_219 rfl rfl (by decide) rfl ?_
                      refine r_goto (pc := 222) 102 dX8_countOf_222 (by decide) ?_
                      exact r_sub [3, 4, 1, 0] rfl (ih (v2 + (0 : Int32)) (v3 + (1 : Int32)) σ)
                    · refine r_iload_n (pc := 188) 4 dX8_countOf_188 rfl rfl ?_
                      refine r_aload_n (pc := 189) 1 dX8_countOf_189 rfl rfl ?_
                      refine g_X8_panes (pc := 190)  lf_RX8_143 dX8_countOf_190 ?_
                      refine r_icmp_ge (pc := 193) 216 dX8_countOf_193 (by decide) (fun h112 => ?_) (fun h112 => ?_)
                      · refine r_iconst (pc := 216) dX8_countOf_216 kc_iconst_0 ?_
                        refine r_iadd (pc := 217) dX8_countOf_217 ?_
                        refine r_istore_n (pc := 218) [(2, .int (v2 + (0 : Int32))), (4, .int (0 : Int32)), (0, .ref (ad en 21 0 0)), (1, .int a1), (3, .int v3)] dX8_countOf_218 rfl (by decide) rfl ?_
                        refine r_iinc (pc := 219) 4 [(3, .int (v3 + (1 : Int32))), (2, .int (v2 + (0 : Int32))), (4, .int (0 : Int32)), (0, .ref (ad en 21 0 0)), (1, .int a1)] dX8_countOf_219 rfl rfl (by decide) rfl ?_
                        refine r_goto (pc := 222) 102 dX8_countOf_222 (by decide) ?_
                        exact r_sub [3, 4, 1, 0] rfl (ih (v2 + (0 : Int32)) (v3 + (1 : Int32)) σ)
                      · refine r_aload_n (pc := 196) 1 dX8_countOf_196 rfl rfl ?_
                        refine g_X8_kind (pc := 197)  lf_RX8_25 dX8_countOf_197 ?_
                        refine r_iload_n (pc := 200) 4 dX8_countOf_200 rfl rfl ?_
                        refine r_iald (pc := 201) (n := 7) o22_11 rfl dX8_countOf_201 (fun h113 => ?_)
                        refine r_iload_n (pc := 202) 2 dX8_countOf_202 rfl rfl ?_
                        refine r_bipush (pc := 203) dX8_countOf_203 kc_bipush_8 ?_
                        refine r_isub (pc := 205) dX8_countOf_205 ?_
                        refine k_X8_isOne (pc := 206) lm_RX8_194  (by decide) (Nat.le_of_ble_eq_true rfl) dX8_countOf_206 (fun w19 h114 => ?_)
                        refine r_if_eq (pc := 209) 216 dX8_countOf_209 (by decide) (fun h115 => ?_) (fun h115 => ?_)
                        · refine r_iconst (pc := 216) dX8_countOf_216 kc_iconst_0 ?_
                          refine r_iadd (pc := 217) dX8_countOf_217 ?_
                          refine r_istore_n (pc := 218) [(2, .int (v2 + (0 : Int32))), (4, .int (0 : Int32)), (0, .ref (ad en 21 0 0)), (1, .int a1), (3, .int v3)] dX8_countOf_218 rfl (by decide) rfl ?_
                          refine r_iinc (pc := 219) 4 [(3, .int (v3 + (1 : Int32))), (2, .int (v2 + (0 : Int32))), (4, .int (0 : Int32)), (0, .ref (ad en 21 0 0)), (1, .int a1)] dX8_countOf_219 rfl rfl (by decide) rfl ?_
                          refine r_goto (pc := 222) 102 dX8_countOf_222 (by decide) ?_
                          exact r_sub [3, 4, 1, 0] rfl (ih (v2 + (0 : Int32)) (v3 + (1 : Int32)) w19.2)
                        · refine r_iconst (pc := 212) dX8_countOf_212 kc_iconst_1 ?_
                          refine r_goto (pc := 213) 217 dX8_countOf_213 (by decide) ?_
                          refine r_iadd (pc := 217) dX8_countOf_217 ?_
                          refine r_istore_n (pc := 218) [(2, .int (v2 + (1 : Int32))), (4, .int (0 : Int32)), (0, .ref (ad en 21 0 0)), (1, .int a1), (3, .int v3)] dX8_countOf_218 rfl (by decide) rfl ?_
                          refine r_iinc (pc := 219) 4 [(3, .int (v3 + (1 : Int32))), (2, .int (v2 + (1 : Int32))), (4, .int (0 : Int32)), (0, .ref (ad en 21 0 0)), (1, .int a1)] dX8_countOf_219 rfl rfl (by decide) rfl ?_
                          refine r_goto (pc := 222) 102 dX8_countOf_222 (by decide) ?_
                          exact r_sub [3, 4, 1, 0] rfl (ih (v2 + (1 : Int32)) (v3 + (1 : Int32)) w19.2)
            · refine r_iload_n (pc := 149) 1 dX8_countOf_149 rfl rfl ?_
              refine r_bipush (pc := 150) dX8_countOf_150 kc_bipush_8 ?_
              refine r_icmp_ne (pc := 152) 173 dX8_countOf_152 (by decide) (fun h116 => ?_) (fun h116 => ?_)
              · refine r_iload_n (pc := 155) 3 dX8_countOf_155 rfl rfl ?_
                refine r_iconst (pc := 156) dX8_countOf_156 kc_iconst_3 ?_
                refine r_icmp_ge (pc := 157) 173 dX8_countOf_157 (by decide) (fun h117 => ?_) (fun h117 => ?_)
                · refine r_iconst (pc := 173) dX8_countOf_173 kc_iconst_0 ?_
                  refine r_istore (pc := 174) [(4, .int (0 : Int32)), (0, .ref (ad en 21 0 0)), (1, .int a1), (2, .int v2), (3, .int v3)] dX8_countOf_174 (by decide) rfl ?_
                  refine r_iload_n (pc := 176) 3 dX8_countOf_176 rfl rfl ?_
                  refine r_iload (pc := 177) 0 dX8_countOf_177 rfl ?_
                  refine r_if_ne_t (pc := 179) 212 dX8_countOf_179 (by decide) (by decide) ?_
                  refine r_iload_n (pc := 182) 2 dX8_countOf_182 rfl rfl ?_
                  refine r_bipush (pc := 183) dX8_countOf_183 kc_bipush_8 ?_
                  refine r_icmp_le (pc := 185) 216 dX8_countOf_185 (by decide) (fun h118 => ?_) (fun h118 => ?_)
                  · refine r_iconst (pc := 216) dX8_countOf_216 kc_iconst_0 ?_
                    refine r_iadd (pc := 217) dX8_countOf_217 ?_
                    refine r_istore_n (pc := 218) [(2, .int (v2 + (0 : Int32))), (4, .int (0 : Int32)), (0, .ref (ad en 21 0 0)), (1, .int a1), (3, .int v3)] dX8_countOf_218 rfl (by decide) rfl ?_
                    refine r_iinc (pc := 219) 4 [(3, .int (v3 + (1 : Int32))), (2, .int (v2 + (0 : Int32))), (4, .int (0 : Int32)), (0, .ref (ad en 21 0 0)), (1, .int a1)] dX8_countOf_219 rfl rfl (by decide) rfl ?_
                    refine r_goto (pc := 222) 102 dX8_countOf_222 (by decide) ?_
                    exact r_sub [3, 4, 1, 0] rfl (ih (v2 + (0 : Int32)) (v3 + (1 : Int32)) σ)
                  · refine r_iload_n (pc := 188) 4 dX8_countOf_188 rfl rfl ?_
                    refine r_aload_n (pc := 189) 1 dX8_countOf_189 rfl rfl ?_
                    refine g_X8_panes (pc := 190)  lf_RX8_143 dX8_countOf_190 ?_
                    refine r_icmp_ge (pc := 193) 216 dX8_countOf_193 (by decide) (fun h119 => ?_) (fun h119 => ?_)
                    · refine r_iconst (pc := 216) dX8_countOf_216 kc_iconst_0 ?_
                      refine r_iadd (pc := 217) dX8_countOf_217 ?_
                      refine r_istore_n (pc := 218) [(2, .int (v2 + (0 : Int32))), (4, .int (0 : Int32)), (0, .ref (ad en 21 0 0)), (1, .int a1), (3, .int v3)] dX8_countOf_218 rfl (by decide) rfl ?_
                      refine r_iinc (pc := 219) 4 [(3, .int (v3 + (1 : Int32))), (2, .int (v2 + (0 : Int32))), (4, .int (0 : Int32)), (0, .ref (ad en 21 0 0)), (1, .int a1)] dX8_countOf_219 rfl rfl (by decide) rfl ?_
                      refine r_goto (pc := 222) 102 dX8_countOf_222 (by decide) ?_
                      exact r_sub [3, 4, 1, 0] rfl (ih (v2 + (0 : Int32)) (v3 + (1 : Int32)) σ)
                    · refine r_aload_n (pc := 196) 1 dX8_countOf_196 rfl rfl ?_
                      refine g_X8_kind (pc := 197)  lf_RX8_25 dX8_countOf_197 ?_
                      refine r_iload_n (pc := 200) 4 dX8_countOf_200 rfl rfl ?_
                      refine r_iald (pc := 201) (n := 7) o22_11 rfl dX8_countOf_201 (fun h120 => ?_)
                      refine r_iload_n (pc := 202) 2 dX8_countOf_202 rfl rfl ?_
                      refine r_bipush (pc := 203) dX8_countOf_203 kc_bipush_8 ?_
                      refine r_isub (pc := 205) dX8_countOf_205 ?_
                      refine k_X8_isOne (pc := 206) lm_RX8_194  (by decide) (Nat.le_of_ble_eq_true rfl) dX8_countOf_206 (fun w20 h121 => ?_)
                      refine r_if_eq (pc := 209) 216 dX8_countOf_209 (by decide) (fun h122 => ?_) (fun h122 => ?_)
                      · refine r_iconst (pc := 216) dX8_countOf_216 kc_iconst_0 ?_
                        refine r_iadd (pc := 217) dX8_countOf_217 ?_
                        refine r_istore_n (pc := 218) [(2, .int (v2 + (0 : Int32))), (4, .int (0 : Int32)), (0, .ref (ad en 21 0 0)), (1, .int a1), (3, .int v3)] dX8_countOf_218 rfl (by decide) rfl ?_
                        refine r_iinc (pc := 219) 4 [(3, .int (v3 + (1 : Int32))), (2, .int (v2 + (0 : Int32))), (4, .int (0 : Int32)), (0, .ref (ad en 21 0 0)), (1, .int a1)] dX8_countOf_219 rfl rfl (by decide) rfl ?_
                        refine r_goto (pc := 222) 102 dX8_countOf_222 (by decide) ?_
                        exact r_sub [3, 4, 1, 0] rfl (ih (v2 + (0 : Int32)) (v3 + (1 : Int32)) w20.2)
                      · refine r_iconst (pc := 212) dX8_countOf_212 kc_iconst_1 ?_
                        refine r_goto (pc := 213) 217 dX8_countOf_213 (by decide) ?_
                        refine r_iadd (pc := 217) dX8_countOf_217 ?_
                        refine r_istore_n (pc := 218) [(2, .int (v2 + (1 : Int32))), (4, .int (0 : Int32)), (0, .ref (ad en 21 0 0)), (1, .int a1), (3, .int v3)] dX8_countOf_218 rfl (by decide) rfl ?_
                        refine r_iinc (pc := 219) 4 [(3, .int (v3 + (1 : Int32))), (2, .int (v2 + (1 : Int32))), (4, .int (0 : Int32)), (0, .ref (ad en 21 0 0)), (1, .int a1)] dX8_countOf_219 rfl rfl (by decide) rfl ?_
                        refine r_goto (pc := 222) 102 dX8_countOf_222 (by decide) ?_
                        exact r_sub [3, 4, 1, 0] rfl (ih (v2 + (1 : Int32)) (v3 + (1 : Int32)) w20.2)
                · refine r_aload_n (pc := 160) 0 dX8_countOf_160 rfl rfl ?_
                  refine g_X8_keptDeeds (pc := 161)  lf_RX8_46 dX8_countOf_161 ?_
                  refine r_iload_n (pc := 164) 3 dX8_countOf_164 rfl rfl ?_
                  refine r_iald (pc := 165) (n := 3) o22_19 rfl dX8_countOf_165 (fun h123 => ?_)
                  refine r_if_lt (pc := 166) 173 dX8_countOf_166 (by decide) (fun h124 => ?_) (fun h124 => ?_)
                  · refine r_iconst (pc := 173) dX8_countOf_173 kc_iconst_0 ?_
                    refine r_istore (pc := 174) [(4, .int (0 : Int32)), (0, .ref (ad en 21 0 0)), (1, .int a1), (2, .int v2), (3, .int v3)] dX8_countOf_174 (by decide) rfl ?_
                    refine r_iload_n (pc := 176) 3 dX8_countOf_176 rfl rfl ?_
                    refine r_iload (pc := 177) 0 dX8_countOf_177 rfl ?_
                    refine r_if_ne_t (pc := 179) 212 dX8_countOf_179 (by decide) (by decide) ?_
                    refine r_iload_n (pc := 182) 2 dX8_countOf_182 rfl rfl ?_
                    refine r_bipush (pc := 183) dX8_countOf_183 kc_bipush_8 ?_
                    refine r_icmp_le (pc := 185) 216 dX8_countOf_185 (by decide) (fun h125 => ?_) (fun h125 => ?_)
                    · refine r_iconst (pc := 216) dX8_countOf_216 kc_iconst_0 ?_
                      refine r_iadd (pc := 217) dX8_countOf_217 ?_
                      refine r_istore_n (pc := 218) [(2, .int (v2 + (0 : Int32))), (4, .int (0 : Int32)), (0, .ref (ad en 21 0 0)), (1, .int a1), (3, .int v3)] dX8_countOf_218 rfl (by decide) rfl ?_
                      refine r_iinc (pc := 219) 4 [(3, .int (v3 + (1 : Int32))), (2, .int (v2 + (0 : Int32))), (4, .int (0 : Int32)), (0, .ref (ad en 21 0 0)), (1, .int a1)] dX8_countOf_219 rfl rfl (by decide) rfl ?_
                      refine r_goto (pc := 222) 102 dX8_countOf_222 (by decide) ?_
                      exact r_sub [3, 4, 1, 0] rfl (ih (v2 + (0 : Int32)) (v3 + (1 : Int32)) σ)
                    · refine r_iload_n (pc := 188) 4 dX8_countOf_188 rfl rfl ?_
                      refine r_aload_n (pc := 189) 1 dX8_countOf_189 rfl rfl ?_
                      refine g_X8_panes (pc := 190)  lf_RX8_143 dX8_countOf_190 ?_
                      refine r_icmp_ge (pc := 193) 216 dX8_countOf_193 (by decide) (fun h126 => ?_) (fun h126 => ?_)
                      · refine r_iconst (pc := 216) dX8_countOf_216 kc_iconst_0 ?_
                        refine r_iadd (pc := 217) dX8_countOf_217 ?_
                        refine r_istore_n (pc := 218) [(2, .int (v2 + (0 : Int32))), (4, .int (0 : Int32)), (0, .ref (ad en 21 0 0)), (1, .int a1), (3, .int v3)] dX8_countOf_218 rfl (by decide) rfl ?_
                        refine r_iinc (pc := 219) 4 [(3, .int (v3 + (1 : Int32))), (2, .int (v2 + (0 : Int32))), (4, .int (0 : Int32)), (0, .ref (ad en 21 0 0)), (1, .int a1)] dX8_countOf_219 rfl rfl (by decide) rfl ?_
                        refine r_goto (pc := 222) 102 dX8_countOf_222 (by decide) ?_
                        exact r_sub [3, 4, 1, 0] rfl (ih (v2 + (0 : Int32)) (v3 + (1 : Int32)) σ)
                      · refine r_aload_n (pc := 196) 1 dX8_countOf_196 rfl rfl ?_
                        refine g_X8_kind (pc := 197)  lf_RX8_25 dX8_countOf_197 ?_
                        refine r_iload_n (pc := 200) 4 dX8_countOf_200 rfl rfl ?_
                        refine r_iald (pc := 201) (n := 7) o22_11 rfl dX8_countOf_201 (fun h127 => ?_)
                        refine r_iload_n (pc := 202) 2 dX8_countOf_202 rfl rfl ?_
                        refine r_bipush (pc := 203) dX8_countOf_203 kc_bipush_8 ?_
                        refine r_isub (pc := 205) dX8_countOf_205 ?_
                        refine k_X8_isOne (pc := 206) lm_RX8_194  (by decide) (Nat.le_of_ble_eq_true rfl) dX8_countOf_206 (fun w21 h128 => ?_)
                        refine r_if_eq (pc := 209) 216 dX8_countOf_209 (by decide) (fun h129 => ?_) (fun h129 => ?_)
                        · refine r_iconst (pc := 216) dX8_countOf_216 kc_iconst_0 ?_
                          refine r_iadd (pc := 217) dX8_countOf_217 ?_
                          refine r_istore_n (pc := 218) [(2, .int (v2 + (0 : Int32))), (4, .int (0 : Int32)), (0, .ref (ad en 21 0 0)), (1, .int a1), (3, .int v3)] dX8_countOf_218 rfl (by decide) rfl ?_
                          refine r_iinc (pc := 219) 4 [(3, .int (v3 + (1 : Int32))), (2, .int (v2 + (0 : Int32))), (4, .int (0 : Int32)), (0, .ref (ad en 21 0 0)), (1, .int a1)] dX8_countOf_219 rfl rfl (by decide) rfl ?_
                          refine r_goto (pc := 222) 102 dX8_countOf_222 (by decide) ?_
                          exact r_sub [3, 4, 1, 0] rfl (ih (v2 + (0 : Int32)) (v3 + (1 : Int32)) w21.2)
                        · refine r_iconst (pc := 212) dX8_countOf_212 kc_iconst_1 ?_
                          refine r_goto (pc := 213) 217 dX8_countOf_213 (by decide) ?_
                          refine r_iadd (pc := 217) dX8_countOf_217 ?_
                          refine r_istore_n (pc := 218) [(2, .int (v2 + (1 : Int32))), (4, .int (0 : Int32)), (0, .ref (ad en 21 0 0)), (1, .int a1), (3, .int v3)] dX8_countOf_218 rfl (by decide) rfl ?_
                          refine r_iinc (pc := 219) 4 [(3, .int (v3 + (1 : Int32))), (2, .int (v2 + (1 : Int32))), (4, .int (0 : Int32)), (0, .ref (ad en 21 0 0)), (1, .int a1)] dX8_countOf_219 rfl rfl (by decide) rfl ?_
                          refine r_goto (pc := 222) 102 dX8_countOf_222 (by decide) ?_
                          exact r_sub [3, 4, 1, 0] rfl (ih (v2 + (1 : Int32)) (v3 + (1 : Int32)) w21.2)
                  · refine r_iconst (pc := 169) dX8_countOf_169 kc_iconst_1 ?_
                    refine r_goto (pc := 170) 174 dX8_countOf_170 (by decide) ?_
                    refine r_istore (pc := 174) [(4, .int (1 : Int32)), (0, .ref (ad en 21 0 0)), (1, .int a1), (2, .int v2), (3, .int v3)] dX8_countOf_174 (by decide) rfl ?_
                    refine r_iload_n (pc := 176) 3 dX8_countOf_176 rfl rfl ?_
                    refine r_iload (pc := 177) 0 dX8_countOf_177 rfl ?_
                    refine r_if_ne_f (pc := 179) 212 dX8_countOf_179 (by decide) (by decide) ?_
                    refine r_iconst (pc := 212) dX8_countOf_212 kc_iconst_1 ?_
                    refine r_goto (pc := 213) 217 dX8_countOf_213 (by decide) ?_
                    refine r_iadd (pc := 217) dX8_countOf_217 ?_
                    refine r_istore_n (pc := 218) [(2, .int (v2 + (1 : Int32))), (4, .int (1 : Int32)), (0, .ref (ad en 21 0 0)), (1, .int a1), (3, .int v3)] dX8_countOf_218 rfl (by decide) rfl ?_
                    refine r_iinc (pc := 219) 4 [(3, .int (v3 + (1 : Int32))), (2, .int (v2 + (1 : Int32))), (4, .int (1 : Int32)), (0, .ref (ad en 21 0 0)), (1, .int a1)] dX8_countOf_219 rfl rfl (by decide) rfl ?_
                    refine r_goto (pc := 222) 102 dX8_countOf_222 (by decide) ?_
                    exact r_sub [3, 4, 1, 0] rfl (ih (v2 + (1 : Int32)) (v3 + (1 : Int32)) σ)
              · refine r_iconst (pc := 173) dX8_countOf_173 kc_iconst_0 ?_
                refine r_istore (pc := 174) [(4, .int (0 : Int32)), (0, .ref (ad en 21 0 0)), (1, .int a1), (2, .int v2), (3, .int v3)] dX8_countOf_174 (by decide) rfl ?_
                refine r_iload_n (pc := 176) 3 dX8_countOf_176 rfl rfl ?_
                refine r_iload (pc := 177) 0 dX8_countOf_177 rfl ?_
                refine r_if_ne_t (pc := 179) 212 dX8_countOf_179 (by decide) (by decide) ?_
                refine r_iload_n (pc := 182) 2 dX8_countOf_182 rfl rfl ?_
                refine r_bipush (pc := 183) dX8_countOf_183 kc_bipush_8 ?_
                refine r_icmp_le (pc := 185) 216 dX8_countOf_185 (by decide) (fun h130 => ?_) (fun h130 => ?_)
                · refine r_iconst (pc := 216) dX8_countOf_216 kc_iconst_0 ?_
                  refine r_iadd (pc := 217) dX8_countOf_217 ?_
                  refine r_istore_n (pc := 218) [(2, .int (v2 + (0 : Int32))), (4, .int (0 : Int32)), (0, .ref (ad en 21 0 0)), (1, .int a1), (3, .int v3)] dX8_countOf_218 rfl (by decide) rfl ?_
                  refine r_iinc (pc := 219) 4 [(3, .int (v3 + (1 : Int32))), (2, .int (v2 + (0 : Int32))), (4, .int (0 : Int32)), (0, .ref (ad en 21 0 0)), (1, .int a1)] dX8_countOf_219 rfl rfl (by decide) rfl ?_
                  refine r_goto (pc := 222) 102 dX8_countOf_222 (by decide) ?_
                  exact r_sub [3, 4, 1, 0] rfl (ih (v2 + (0 : Int32)) (v3 + (1 : Int32)) σ)
                · refine r_iload_n (pc := 188) 4 dX8_countOf_188 rfl rfl ?_
                  refine r_aload_n (pc := 189) 1 dX8_countOf_189 rfl rfl ?_
                  refine g_X8_panes (pc := 190)  lf_RX8_143 dX8_countOf_190 ?_
                  refine r_icmp_ge (pc := 193) 216 dX8_countOf_193 (by decide) (fun h131 => ?_) (fun h131 => ?_)
                  · refine r_iconst (pc := 216) dX8_countOf_216 kc_iconst_0 ?_
                    refine r_iadd (pc := 217) dX8_countOf_217 ?_
                    refine r_istore_n (pc := 218) [(2, .int (v2 + (0 : Int32))), (4, .int (0 : Int32)), (0, .ref (ad en 21 0 0)), (1, .int a1), (3, .int v3)] dX8_countOf_218 rfl (by decide) rfl ?_
                    refine r_iinc (pc := 219) 4 [(3, .int (v3 + (1 : Int32))), (2, .int (v2 + (0 : Int32))), (4, .int (0 : Int32)), (0, .ref (ad en 21 0 0)), (1, .int a1)] dX8_countOf_219 rfl rfl (by decide) rfl ?_
                    refine r_goto (pc := 222) 102 dX8_countOf_222 (by decide) ?_
                    exact r_sub [3, 4, 1, 0] rfl (ih (v2 + (0 : Int32)) (v3 + (1 : Int32)) σ)
                  · refine r_aload_n (pc := 196) 1 dX8_countOf_196 rfl rfl ?_
                    refine g_X8_kind (pc := 197)  lf_RX8_25 dX8_countOf_197 ?_
                    refine r_iload_n (pc := 200) 4 dX8_countOf_200 rfl rfl ?_
                    refine r_iald (pc := 201) (n := 7) o22_11 rfl dX8_countOf_201 (fun h132 => ?_)
                    refine r_iload_n (pc := 202) 2 dX8_countOf_202 rfl rfl ?_
                    refine r_bipush (pc := 203) dX8_countOf_203 kc_bipush_8 ?_
                    refine r_isub (pc := 205) dX8_countOf_205 ?_
                    refine k_X8_isOne (pc := 206) lm_RX8_194  (by decide) (Nat.le_of_ble_eq_true rfl) dX8_countOf_206 (fun w22 h133 => ?_)
                    refine r_if_eq (pc := 209) 216 dX8_countOf_209 (by decide) (fun h134 => ?_) (fun h134 => ?_)
                    · refine r_iconst (pc := 216) dX8_countOf_216 kc_iconst_0 ?_
                      refine r_iadd (pc := 217) dX8_countOf_217 ?_
                      refine r_istore_n (pc := 218) [(2, .int (v2 + (0 : Int32))), (4, .int (0 : Int32)), (0, .ref (ad en 21 0 0)), (1, .int a1), (3, .int v3)] dX8_countOf_218 rfl (by decide) rfl ?_
                      refine r_iinc (pc := 219) 4 [(3, .int (v3 + (1 : Int32))), (2, .int (v2 + (0 : Int32))), (4, .int (0 : Int32)), (0, .ref (ad en 21 0 0)), (1, .int a1)] dX8_countOf_219 rfl rfl (by decide) rfl ?_
                      refine r_goto (pc := 222) 102 dX8_countOf_222 (by decide) ?_
                      exact r_sub [3, 4, 1, 0] rfl (ih (v2 + (0 : Int32)) (v3 + (1 : Int32)) w22.2)
                    · refine r_iconst (pc := 212) dX8_countOf_212 kc_iconst_1 ?_
                      refine r_goto (pc := 213) 217 dX8_countOf_213 (by decide) ?_
                      refine r_iadd (pc := 217) dX8_countOf_217 ?_
                      refine r_istore_n (pc := 218) [(2, .int (v2 + (1 : Int32))), (4, .int (0 : Int32)), (0, .ref (ad en 21 0 0)), (1, .int a1), (3, .int v3)] dX8_countOf_218 rfl (by decide) rfl ?_
                      refine r_iinc (pc := 219) 4 [(3, .int (v3 + (1 : Int32))), (2, .int (v2 + (1 : Int32))), (4, .int (0 : Int32)), (0, .ref (ad en 21 0 0)), (1, .int a1)] dX8_countOf_219 rfl rfl (by decide) rfl ?_
                      refine r_goto (pc := 222) 102 dX8_countOf_222 (by decide) ?_
                      exact r_sub [3, 4, 1, 0] rfl (ih (v2 + (1 : Int32)) (v3 + (1 : Int32)) w22.2)
      · refine r_iload_n (pc := 129) 1 dX8_countOf_129 rfl rfl ?_
        refine r_bipush (pc := 130) dX8_countOf_130 kc_bipush_7 ?_
        refine r_icmp_ne (pc := 132) 149 dX8_countOf_132 (by decide) (fun h135 => ?_) (fun h135 => ?_)
        · refine r_iload_n (pc := 135) 3 dX8_countOf_135 rfl rfl ?_
          refine r_iconst (pc := 136) dX8_countOf_136 kc_iconst_4 ?_
          refine r_icmp_ge (pc := 137) 149 dX8_countOf_137 (by decide) (fun h136 => ?_) (fun h136 => ?_)
          · refine r_iload_n (pc := 149) 1 dX8_countOf_149 rfl rfl ?_
            refine r_bipush (pc := 150) dX8_countOf_150 kc_bipush_8 ?_
            refine r_icmp_ne (pc := 152) 173 dX8_countOf_152 (by decide) (fun h137 => ?_) (fun h137 => ?_)
            · refine r_iload_n (pc := 155) 3 dX8_countOf_155 rfl rfl ?_
              refine r_iconst (pc := 156) dX8_countOf_156 kc_iconst_3 ?_
              refine r_icmp_ge (pc := 157) 173 dX8_countOf_157 (by decide) (fun h138 => ?_) (fun h138 => ?_)
              · refine r_iconst (pc := 173) dX8_countOf_173 kc_iconst_0 ?_
                refine r_istore (pc := 174) [(4, .int (0 : Int32)), (0, .ref (ad en 21 0 0)), (1, .int a1), (2, .int v2), (3, .int v3)] dX8_countOf_174 (by decide) rfl ?_
                refine r_iload_n (pc := 176) 3 dX8_countOf_176 rfl rfl ?_
                refine r_iload (pc := 177) 0 dX8_countOf_177 rfl ?_
                refine r_if_ne_t (pc := 179) 212 dX8_countOf_179 (by decide) (by decide) ?_
                refine r_iload_n (pc := 182) 2 dX8_countOf_182 rfl rfl ?_
                refine r_bipush (pc := 183) dX8_countOf_183 kc_bipush_8 ?_
                refine r_icmp_le (pc := 185) 216 dX8_countOf_185 (by decide) (fun h139 => ?_) (fun h139 => ?_)
                · refine r_iconst (pc := 216) dX8_countOf_216 kc_iconst_0 ?_
                  refine r_iadd (pc := 217) dX8_countOf_217 ?_
                  refine r_istore_n (pc := 218) [(2, .int (v2 + (0 : Int32))), (4, .int (0 : Int32)), (0, .ref (ad en 21 0 0)), (1, .int a1), (3, .int v3)] dX8_countOf_218 rfl (by decide) rfl ?_
                  refine r_iinc (pc := 219) 4 [(3, .int (v3 + (1 : Int32))), (2, .int (v2 + (0 : Int32))), (4, .int (0 : Int32)), (0, .ref (ad en 21 0 0)), (1, .int a1)] dX8_countOf_219 rfl rfl (by decide) rfl ?_
                  refine r_goto (pc := 222) 102 dX8_countOf_222 (by decide) ?_
                  exact r_sub [3, 4, 1, 0] rfl (ih (v2 + (0 : Int32)) (v3 + (1 : Int32)) σ)
                · refine r_iload_n (pc := 188) 4 dX8_countOf_188 rfl rfl ?_
                  refine r_aload_n (pc := 189) 1 dX8_countOf_189 rfl rfl ?_
                  refine g_X8_panes (pc := 190)  lf_RX8_143 dX8_countOf_190 ?_
                  refine r_icmp_ge (pc := 193) 216 dX8_countOf_193 (by decide) (fun h140 => ?_) (fun h140 => ?_)
                  · refine r_iconst (pc := 216) dX8_countOf_216 kc_iconst_0 ?_
                    refine r_iadd (pc := 217) dX8_countOf_217 ?_
                    refine r_istore_n (pc := 218) [(2, .int (v2 + (0 : Int32))), (4, .int (0 : Int32)), (0, .ref (ad en 21 0 0)), (1, .int a1), (3, .int v3)] dX8_countOf_218 rfl (by decide) rfl ?_
                    refine r_iinc (pc := 219) 4 [(3, .int (v3 + (1 : Int32))), (2, .int (v2 + (0 : Int32))), (4, .int (0 : Int32)), (0, .ref (ad en 21 0 0)), (1, .int a1)] dX8_countOf_219 rfl rfl (by decide) rfl ?_
                    refine r_goto (pc := 222) 102 dX8_countOf_222 (by decide) ?_
                    exact r_sub [3, 4, 1, 0] rfl (ih (v2 + (0 : Int32)) (v3 + (1 : Int32)) σ)
                  · refine r_aload_n (pc := 196) 1 dX8_countOf_196 rfl rfl ?_
                    refine g_X8_kind (pc := 197)  lf_RX8_25 dX8_countOf_197 ?_
                    refine r_iload_n (pc := 200) 4 dX8_countOf_200 rfl rfl ?_
                    refine r_iald (pc := 201) (n := 7) o22_11 rfl dX8_countOf_201 (fun h141 => ?_)
                    refine r_iload_n (pc := 202) 2 dX8_countOf_202 rfl rfl ?_
                    refine r_bipush (pc := 203) dX8_countOf_203 kc_bipush_8 ?_
                    refine r_isub (pc := 205) dX8_countOf_205 ?_
                    refine k_X8_isOne (pc := 206) lm_RX8_194  (by decide) (Nat.le_of_ble_eq_true rfl) dX8_countOf_206 (fun w23 h142 => ?_)
                    refine r_if_eq (pc := 209) 216 dX8_countOf_209 (by decide) (fun h143 => ?_) (fun h143 => ?_)
                    · refine r_iconst (pc := 216) dX8_countOf_216 kc_iconst_0 ?_
                      refine r_iadd (pc := 217) dX8_countOf_217 ?_
                      refine r_istore_n (pc := 218) [(2, .int (v2 + (0 : Int32))), (4, .int (0 : Int32)), (0, .ref (ad en 21 0 0)), (1, .int a1), (3, .int v3)] dX8_countOf_218 rfl (by decide) rfl ?_
                      refine r_iinc (pc := 219) 4 [(3, .int (v3 + (1 : Int32))), (2, .int (v2 + (0 : Int32))), (4, .int (0 : Int32)), (0, .ref (ad en 21 0 0)), (1, .int a1)] dX8_countOf_219 rfl rfl (by decide) rfl ?_
                      refine r_goto (pc := 222) 102 dX8_countOf_222 (by decide) ?_
                      exact r_sub [3, 4, 1, 0] rfl (ih (v2 + (0 : Int32)) (v3 + (1 : Int32)) w23.2)
                    · refine r_iconst (pc := 212) dX8_countOf_212 kc_iconst_1 ?_
                      refine r_goto (pc := 213) 217 dX8_countOf_213 (by decide) ?_
                      refine r_iadd (pc := 217) dX8_countOf_217 ?_
                      refine r_istore_n (pc := 218) [(2, .int (v2 + (1 : Int32))), (4, .int (0 : Int32)), (0, .ref (ad en 21 0 0)), (1, .int a1), (3, .int v3)] dX8_countOf_218 rfl (by decide) rfl ?_
                      refine r_iinc (pc := 219) 4 [(3, .int (v3 + (1 : Int32))), (2, .int (v2 + (1 : Int32))), (4, .int (0 : Int32)), (0, .ref (ad en 21 0 0)), (1, .int a1)] dX8_countOf_219 rfl rfl (by decide) rfl ?_
                      refine r_goto (pc := 222) 102 dX8_countOf_222 (by decide) ?_
                      exact r_sub [3, 4, 1, 0] rfl (ih (v2 + (1 : Int32)) (v3 + (1 : Int32)) w23.2)
              · refine r_aload_n (pc := 160) 0 dX8_countOf_160 rfl rfl ?_
                refine g_X8_keptDeeds (pc := 161)  lf_RX8_46 dX8_countOf_161 ?_
                refine r_iload_n (pc := 164) 3 dX8_countOf_164 rfl rfl ?_
                refine r_iald (pc := 165) (n := 3) o22_19 rfl dX8_countOf_165 (fun h144 => ?_)
                refine r_if_lt (pc := 166) 173 dX8_countOf_166 (by decide) (fun h145 => ?_) (fun h145 => ?_)
                · refine r_iconst (pc := 173) dX8_countOf_173 kc_iconst_0 ?_
                  refine r_istore (pc := 174) [(4, .int (0 : Int32)), (0, .ref (ad en 21 0 0)), (1, .int a1), (2, .int v2), (3, .int v3)] dX8_countOf_174 (by decide) rfl ?_
                  refine r_iload_n (pc := 176) 3 dX8_countOf_176 rfl rfl ?_
                  refine r_iload (pc := 177) 0 dX8_countOf_177 rfl ?_
                  refine r_if_ne_t (pc := 179) 212 dX8_countOf_179 (by decide) (by decide) ?_
                  refine r_iload_n (pc := 182) 2 dX8_countOf_182 rfl rfl ?_
                  refine r_bipush (pc := 183) dX8_countOf_183 kc_bipush_8 ?_
                  refine r_icmp_le (pc := 185) 216 dX8_countOf_185 (by decide) (fun h146 => ?_) (fun h146 => ?_)
                  · refine r_iconst (pc := 216) dX8_countOf_216 kc_iconst_0 ?_
                    refine r_iadd (pc := 217) dX8_countOf_217 ?_
                    refine r_istore_n (pc := 218) [(2, .int (v2 + (0 : Int32))), (4, .int (0 : Int32)), (0, .ref (ad en 21 0 0)), (1, .int a1), (3, .int v3)] dX8_countOf_218 rfl (by decide) rfl ?_
                    refine r_iinc (pc := 219) 4 [(3, .int (v3 + (1 : Int32))), (2, .int (v2 + (0 : Int32))), (4, .int (0 : Int32)), (0, .ref (ad en 21 0 0)), (1, .int a1)] dX8_countOf_219 rfl rfl (by decide) rfl ?_
                    refine r_goto (pc := 222) 102 dX8_countOf_222 (by decide) ?_
                    exact r_sub [3, 4, 1, 0] rfl (ih (v2 + (0 : Int32)) (v3 + (1 : Int32)) σ)
                  · refine r_iload_n (pc := 188) 4 dX8_countOf_188 rfl rfl ?_
                    refine r_aload_n (pc := 189) 1 dX8_countOf_189 rfl rfl ?_
                    refine g_X8_panes (pc := 190)  lf_RX8_143 dX8_countOf_190 ?_
                    refine r_icmp_ge (pc := 193) 216 dX8_countOf_193 (by decide) (fun h147 => ?_) (fun h147 => ?_)
                    · refine r_iconst (pc := 216) dX8_countOf_216 kc_iconst_0 ?_
                      refine r_iadd (pc := 217) dX8_countOf_217 ?_
                      refine r_istore_n (pc := 218) [(2, .int (v2 + (0 : Int32))), (4, .int (0 : Int32)), (0, .ref (ad en 21 0 0)), (1, .int a1), (3, .int v3)] dX8_countOf_218 rfl (by decide) rfl ?_
                      refine r_iinc (pc := 219) 4 [(3, .int (v3 + (1 : Int32))), (2, .int (v2 + (0 : Int32))), (4, .int (0 : Int32)), (0, .ref (ad en 21 0 0)), (1, .int a1)] dX8_countOf_219 rfl rfl (by decide) rfl ?_
                      refine r_goto (pc := 222) 102 dX8_countOf_222 (by decide) ?_
                      exact r_sub [3, 4, 1, 0] rfl (ih (v2 + (0 : Int32)) (v3 + (1 : Int32)) σ)
                    · refine r_aload_n (pc := 196) 1 dX8_countOf_196 rfl rfl ?_
                      refine g_X8_kind (pc := 197)  lf_RX8_25 dX8_countOf_197 ?_
                      refine r_iload_n (pc := 200) 4 dX8_countOf_200 rfl rfl ?_
                      refine r_iald (pc := 201) (n := 7) o22_11 rfl dX8_countOf_201 (fun h148 => ?_)
                      refine r_iload_n (pc := 202) 2 dX8_countOf_202 rfl rfl ?_
                      refine r_bipush (pc := 203) dX8_countOf_203 kc_bipush_8 ?_
                      refine r_isub (pc := 205) dX8_countOf_205 ?_
                      refine k_X8_isOne (pc := 206) lm_RX8_194  (by decide) (Nat.le_of_ble_eq_true rfl) dX8_countOf_206 (fun w24 h149 => ?_)
                      refine r_if_eq (pc := 209) 216 dX8_countOf_209 (by decide) (fun h150 => ?_) (fun h150 => ?_)
                      · refine r_iconst (pc := 216) dX8_countOf_216 kc_iconst_0 ?_
                        refine r_iadd (pc := 217) dX8_countOf_217 ?_
                        refine r_istore_n (pc := 218) [(2, .int (v2 + (0 : Int32))), (4, .int (0 : Int32)), (0, .ref (ad en 21 0 0)), (1, .int a1), (3, .int v3)] dX8_countOf_218 rfl (by decide) rfl ?_
                        refine r_iinc (pc := 219) 4 [(3, .int (v3 + (1 : Int32))), (2, .int (v2 + (0 : Int32))), (4, .int (0 : Int32)), (0, .ref (ad en 21 0 0)), (1, .int a1)] dX8_countOf_219 rfl rfl (by decide) rfl ?_
                        refine r_goto (pc := 222) 102 dX8_countOf_222 (by decide) ?_
                        exact r_sub [3, 4, 1, 0] rfl (ih (v2 + (0 : Int32)) (v3 + (1 : Int32)) w24.2)
                      · refine r_iconst (pc := 212) dX8_countOf_212 kc_iconst_1 ?_
                        refine r_goto (pc := 213) 217 dX8_countOf_213 (by decide) ?_
                        refine r_iadd (pc := 217) dX8_countOf_217 ?_
                        refine r_istore_n (pc := 218) [(2, .int (v2 + (1 : Int32))), (4, .int (0 : Int32)), (0, .ref (ad en 21 0 0)), (1, .int a1), (3, .int v3)] dX8_countOf_218 rfl (by decide) rfl ?_
                        refine r_iinc (pc := 219) 4 [(3, .int (v3 + (1 : Int32))), (2, .int (v2 + (1 : Int32))), (4, .int (0 : Int32)), (0, .ref (ad en 21 0 0)), (1, .int a1)] dX8_countOf_219 rfl rfl (by decide) rfl ?_
                        refine r_goto (pc := 222) 102 dX8_countOf_222 (by decide) ?_
                        exact r_sub [3, 4, 1, 0] rfl (ih (v2 + (1 : Int32)) (v3 + (1 : Int32)) w24.2)
                · refine r_iconst (pc := 169) dX8_countOf_169 kc_iconst_1 ?_
                  refine r_goto (pc := 170) 174 dX8_countOf_170 (by decide) ?_
                  refine r_istore (pc := 174) [(4, .int (1 : Int32)), (0, .ref (ad en 21 0 0)), (1, .int a1), (2, .int v2), (3, .int v3)] dX8_countOf_174 (by decide) rfl ?_
                  refine r_iload_n (pc := 176) 3 dX8_countOf_176 rfl rfl ?_
                  refine r_iload (pc := 177) 0 dX8_countOf_177 rfl ?_
                  refine r_if_ne_f (pc := 179) 212 dX8_countOf_179 (by decide) (by decide) ?_
                  refine r_iconst (pc := 212) dX8_countOf_212 kc_iconst_1 ?_
                  refine r_goto (pc := 213) 217 dX8_countOf_213 (by decide) ?_
                  refine r_iadd (pc := 217) dX8_countOf_217 ?_
                  refine r_istore_n (pc := 218) [(2, .int (v2 + (1 : Int32))), (4, .int (1 : Int32)), (0, .ref (ad en 21 0 0)), (1, .int a1), (3, .int v3)] dX8_countOf_218 rfl (by decide) rfl ?_
                  refine r_iinc (pc := 219) 4 [(3, .int (v3 + (1 : Int32))), (2, .int (v2 + (1 : Int32))), (4, .int (1 : Int32)), (0, .ref (ad en 21 0 0)), (1, .int a1)] dX8_countOf_219 rfl rfl (by decide) rfl ?_
                  refine r_goto (pc := 222) 102 dX8_countOf_222 (by decide) ?_
                  exact r_sub [3, 4, 1, 0] rfl (ih (v2 + (1 : Int32)) (v3 + (1 : Int32)) σ)
            · refine r_iconst (pc := 173) dX8_countOf_173 kc_iconst_0 ?_
              refine r_istore (pc := 174) [(4, .int (0 : Int32)), (0, .ref (ad en 21 0 0)), (1, .int a1), (2, .int v2), (3, .int v3)] dX8_countOf_174 (by decide) rfl ?_
              refine r_iload_n (pc := 176) 3 dX8_countOf_176 rfl rfl ?_
              refine r_iload (pc := 177) 0 dX8_countOf_177 rfl ?_
              refine r_if_ne_t (pc := 179) 212 dX8_countOf_179 (by decide) (by decide) ?_
              refine r_iload_n (pc := 182) 2 dX8_countOf_182 rfl rfl ?_
              refine r_bipush (pc := 183) dX8_countOf_183 kc_bipush_8 ?_
              refine r_icmp_le (pc := 185) 216 dX8_countOf_185 (by decide) (fun h151 => ?_) (fun h151 => ?_)
              · refine r_iconst (pc := 216) dX8_countOf_216 kc_iconst_0 ?_
                refine r_iadd (pc := 217) dX8_countOf_217 ?_
                refine r_istore_n (pc := 218) [(2, .int (v2 + (0 : Int32))), (4, .int (0 : Int32)), (0, .ref (ad en 21 0 0)), (1, .int a1), (3, .int v3)] dX8_countOf_218 rfl (by decide) rfl ?_
                refine r_iinc (pc := 219) 4 [(3, .int (v3 + (1 : Int32))), (2, .int (v2 + (0 : Int32))), (4, .int (0 : Int32)), (0, .ref (ad en 21 0 0)), (1, .int a1)] dX8_countOf_219 rfl rfl (by decide) rfl ?_
                refine r_goto (pc := 222) 102 dX8_countOf_222 (by decide) ?_
                exact r_sub [3, 4, 1, 0] rfl (ih (v2 + (0 : Int32)) (v3 + (1 : Int32)) σ)
              · refine r_iload_n (pc := 188) 4 dX8_countOf_188 rfl rfl ?_
                refine r_aload_n (pc := 189) 1 dX8_countOf_189 rfl rfl ?_
                refine g_X8_panes (pc := 190)  lf_RX8_143 dX8_countOf_190 ?_
                refine r_icmp_ge (pc := 193) 216 dX8_countOf_193 (by decide) (fun h152 => ?_) (fun h152 => ?_)
                · refine r_iconst (pc := 216) dX8_countOf_216 kc_iconst_0 ?_
                  refine r_iadd (pc := 217) dX8_countOf_217 ?_
                  refine r_istore_n (pc := 218) [(2, .int (v2 + (0 : Int32))), (4, .int (0 : Int32)), (0, .ref (ad en 21 0 0)), (1, .int a1), (3, .int v3)] dX8_countOf_218 rfl (by decide) rfl ?_
                  refine r_iinc (pc := 219) 4 [(3, .int (v3 + (1 : Int32))), (2, .int (v2 + (0 : Int32))), (4, .int (0 : Int32)), (0, .ref (ad en 21 0 0)), (1, .int a1)] dX8_countOf_219 rfl rfl (by decide) rfl ?_
                  refine r_goto (pc := 222) 102 dX8_countOf_222 (by decide) ?_
                  exact r_sub [3, 4, 1, 0] rfl (ih (v2 + (0 : Int32)) (v3 + (1 : Int32)) σ)
                · refine r_aload_n (pc := 196) 1 dX8_countOf_196 rfl rfl ?_
                  refine g_X8_kind (pc := 197)  lf_RX8_25 dX8_countOf_197 ?_
                  refine r_iload_n (pc := 200) 4 dX8_countOf_200 rfl rfl ?_
                  refine r_iald (pc := 201) (n := 7) o22_11 rfl dX8_countOf_201 (fun h153 => ?_)
                  refine r_iload_n (pc := 202) 2 dX8_countOf_202 rfl rfl ?_
                  refine r_bipush (pc := 203) dX8_countOf_203 kc_bipush_8 ?_
                  refine r_isub (pc := 205) dX8_countOf_205 ?_
                  refine k_X8_isOne (pc := 206) lm_RX8_194  (by decide) (Nat.le_of_ble_eq_true rfl) dX8_countOf_206 (fun w25 h154 => ?_)
                  refine r_if_eq (pc := 209) 216 dX8_countOf_209 (by decide) (fun h155 => ?_) (fun h155 => ?_)
                  · refine r_iconst (pc := 216) dX8_countOf_216 kc_iconst_0 ?_
                    refine r_iadd (pc := 217) dX8_countOf_217 ?_
                    refine r_istore_n (pc := 218) [(2, .int (v2 + (0 : Int32))), (4, .int (0 : Int32)), (0, .ref (ad en 21 0 0)), (1, .int a1), (3, .int v3)] dX8_countOf_218 rfl (by decide) rfl ?_
                    refine r_iinc (pc := 219) 4 [(3, .int (v3 + (1 : Int32))), (2, .int (v2 + (0 : Int32))), (4, .int (0 : Int32)), (0, .ref (ad en 21 0 0)), (1, .int a1)] dX8_countOf_219 rfl rfl (by decide) rfl ?_
                    refine r_goto (pc := 222) 102 dX8_countOf_222 (by decide) ?_
                    exact r_sub [3, 4, 1, 0] rfl (ih (v2 + (0 : Int32)) (v3 + (1 : Int32)) w25.2)
                  · refine r_iconst (pc := 212) dX8_countOf_212 kc_iconst_1 ?_
                    refine r_goto (pc := 213) 217 dX8_countOf_213 (by decide) ?_
                    refine r_iadd (pc := 217) dX8_countOf_217 ?_
                    refine r_istore_n (pc := 218) [(2, .int (v2 + (1 : Int32))), (4, .int (0 : Int32)), (0, .ref (ad en 21 0 0)), (1, .int a1), (3, .int v3)] dX8_countOf_218 rfl (by decide) rfl ?_
                    refine r_iinc (pc := 219) 4 [(3, .int (v3 + (1 : Int32))), (2, .int (v2 + (1 : Int32))), (4, .int (0 : Int32)), (0, .ref (ad en 21 0 0)), (1, .int a1)] dX8_countOf_219 rfl rfl (by decide) rfl ?_
                    refine r_goto (pc := 222) 102 dX8_countOf_222 (by decide) ?_
                    exact r_sub [3, 4, 1, 0] rfl (ih (v2 + (1 : Int32)) (v3 + (1 : Int32)) w25.2)
          · refine r_aload_n (pc := 140) 0 dX8_countOf_140 rfl rfl ?_
            refine g_X8_byteSize (pc := 141)  lf_RX8_22 dX8_countOf_141 ?_
            refine r_iload_n (pc := 144) 3 dX8_countOf_144 rfl rfl ?_
            refine r_iald (pc := 145) (n := 4) o22_9 rfl dX8_countOf_145 (fun h156 => ?_)
            refine r_if_ge (pc := 146) 169 dX8_countOf_146 (by decide) (fun h157 => ?_) (fun h157 => ?_)
            · refine r_iconst (pc := 169) dX8_countOf_169 kc_iconst_1 ?_
              refine r_goto (pc := 170) 174 dX8_countOf_170 (by decide) ?_
              refine r_istore (pc := 174) [(4, .int (1 : Int32)), (0, .ref (ad en 21 0 0)), (1, .int a1), (2, .int v2), (3, .int v3)] dX8_countOf_174 (by decide) rfl ?_
              refine r_iload_n (pc := 176) 3 dX8_countOf_176 rfl rfl ?_
              refine r_iload (pc := 177) 0 dX8_countOf_177 rfl ?_
              refine r_if_ne_f (pc := 179) 212 dX8_countOf_179 (by decide) (by decide) ?_
              refine r_iconst (pc := 212) dX8_countOf_212 kc_iconst_1 ?_
              refine r_goto (pc := 213) 217 dX8_countOf_213 (by decide) ?_
              refine r_iadd (pc := 217) dX8_countOf_217 ?_
              refine r_istore_n (pc := 218) [(2, .int (v2 + (1 : Int32))), (4, .int (1 : Int32)), (0, .ref (ad en 21 0 0)), (1, .int a1), (3, .int v3)] dX8_countOf_218 rfl (by decide) rfl ?_
              refine r_iinc (pc := 219) 4 [(3, .int (v3 + (1 : Int32))), (2, .int (v2 + (1 : Int32))), (4, .int (1 : Int32)), (0, .ref (ad en 21 0 0)), (1, .int a1)] dX8_countOf_219 rfl rfl (by decide) rfl ?_
              refine r_goto (pc := 222) 102 dX8_countOf_222 (by decide) ?_
              exact r_sub [3, 4, 1, 0] rfl (ih (v2 + (1 : Int32)) (v3 + (1 : Int32)) σ)
            · refine r_iload_n (pc := 149) 1 dX8_countOf_149 rfl rfl ?_
              refine r_bipush (pc := 150) dX8_countOf_150 kc_bipush_8 ?_
              refine r_icmp_ne (pc := 152) 173 dX8_countOf_152 (by decide) (fun h158 => ?_) (fun h158 => ?_)
              · refine r_iload_n (pc := 155) 3 dX8_countOf_155 rfl rfl ?_
                refine r_iconst (pc := 156) dX8_countOf_156 kc_iconst_3 ?_
                refine r_icmp_ge (pc := 157) 173 dX8_countOf_157 (by decide) (fun h159 => ?_) (fun h159 => ?_)
                · refine r_iconst (pc := 173) dX8_countOf_173 kc_iconst_0 ?_
                  refine r_istore (pc := 174) [(4, .int (0 : Int32)), (0, .ref (ad en 21 0 0)), (1, .int a1), (2, .int v2), (3, .int v3)] dX8_countOf_174 (by decide) rfl ?_
                  refine r_iload_n (pc := 176) 3 dX8_countOf_176 rfl rfl ?_
                  refine r_iload (pc := 177) 0 dX8_countOf_177 rfl ?_
                  refine r_if_ne_t (pc := 179) 212 dX8_countOf_179 (by decide) (by decide) ?_
                  refine r_iload_n (pc := 182) 2 dX8_countOf_182 rfl rfl ?_
                  refine r_bipush (pc := 183) dX8_countOf_183 kc_bipush_8 ?_
                  refine r_icmp_le (pc := 185) 216 dX8_countOf_185 (by decide) (fun h160 => ?_) (fun h160 => ?_)
                  · refine r_iconst (pc := 216) dX8_countOf_216 kc_iconst_0 ?_
                    refine r_iadd (pc := 217) dX8_countOf_217 ?_
                    refine r_istore_n (pc := 218) [(2, .int (v2 + (0 : Int32))), (4, .int (0 : Int32)), (0, .ref (ad en 21 0 0)), (1, .int a1), (3, .int v3)] dX8_countOf_218 rfl (by decide) rfl ?_
                    refine r_iinc (pc := 219) 4 [(3, .int (v3 + (1 : Int32))), (2, .int (v2 + (0 : Int32))), (4, .int (0 : Int32)), (0, .ref (ad en 21 0 0)), (1, .int a1)] dX8_countOf_219 rfl rfl (by decide) rfl ?_
                    refine r_goto (pc := 222) 102 dX8_countOf_222 (by decide) ?_
                    exact r_sub [3, 4, 1, 0] rfl (ih (v2 + (0 : Int32)) (v3 + (1 : Int32)) σ)
                  · refine r_iload_n (pc := 188) 4 dX8_countOf_188 rfl rfl ?_
                    refine r_aload_n (pc := 189) 1 dX8_countOf_189 rfl rfl ?_
                    refine g_X8_panes (pc := 190)  lf_RX8_143 dX8_countOf_190 ?_
                    refine r_icmp_ge (pc := 193) 216 dX8_countOf_193 (by decide) (fun h161 => ?_) (fun h161 => ?_)
                    · refine r_iconst (pc := 216) dX8_countOf_216 kc_iconst_0 ?_
                      refine r_iadd (pc := 217) dX8_countOf_217 ?_
                      refine r_istore_n (pc := 218) [(2, .int (v2 + (0 : Int32))), (4, .int (0 : Int32)), (0, .ref (ad en 21 0 0)), (1, .int a1), (3, .int v3)] dX8_countOf_218 rfl (by decide) rfl ?_
                      refine r_iinc (pc := 219) 4 [(3, .int (v3 + (1 : Int32))), (2, .int (v2 + (0 : Int32))), (4, .int (0 : Int32)), (0, .ref (ad en 21 0 0)), (1, .int a1)] dX8_countOf_219 rfl rfl (by decide) rfl ?_
                      refine r_goto (pc := 222) 102 dX8_countOf_222 (by decide) ?_
                      exact r_sub [3, 4, 1, 0] rfl (ih (v2 + (0 : Int32)) (v3 + (1 : Int32)) σ)
                    · refine r_aload_n (pc := 196) 1 dX8_countOf_196 rfl rfl ?_
                      refine g_X8_kind (pc := 197)  lf_RX8_25 dX8_countOf_197 ?_
                      refine r_iload_n (pc := 200) 4 dX8_countOf_200 rfl rfl ?_
                      refine r_iald (pc := 201) (n := 7) o22_11 rfl dX8_countOf_201 (fun h162 => ?_)
                      refine r_iload_n (pc := 202) 2 dX8_countOf_202 rfl rfl ?_
                      refine r_bipush (pc := 203) dX8_countOf_203 kc_bipush_8 ?_
                      refine r_isub (pc := 205) dX8_countOf_205 ?_
                      refine k_X8_isOne (pc := 206) lm_RX8_194  (by decide) (Nat.le_of_ble_eq_true rfl) dX8_countOf_206 (fun w26 h163 => ?_)
                      refine r_if_eq (pc := 209) 216 dX8_countOf_209 (by decide) (fun h164 => ?_) (fun h164 => ?_)
                      · refine r_iconst (pc := 216) dX8_countOf_216 kc_iconst_0 ?_
                        refine r_iadd (pc := 217) dX8_countOf_217 ?_
                        refine r_istore_n (pc := 218) [(2, .int (v2 + (0 : Int32))), (4, .int (0 : Int32)), (0, .ref (ad en 21 0 0)), (1, .int a1), (3, .int v3)] dX8_countOf_218 rfl (by decide) rfl ?_
                        refine r_iinc (pc := 219) 4 [(3, .int (v3 + (1 : Int32))), (2, .int (v2 + (0 : Int32))), (4, .int (0 : Int32)), (0, .ref (ad en 21 0 0)), (1, .int a1)] dX8_countOf_219 rfl rfl (by decide) rfl ?_
                        refine r_goto (pc := 222) 102 dX8_countOf_222 (by decide) ?_
                        exact r_sub [3, 4, 1, 0] rfl (ih (v2 + (0 : Int32)) (v3 + (1 : Int32)) w26.2)
                      · refine r_iconst (pc := 212) dX8_countOf_212 kc_iconst_1 ?_
                        refine r_goto (pc := 213) 217 dX8_countOf_213 (by decide) ?_
                        refine r_iadd (pc := 217) dX8_countOf_217 ?_
                        refine r_istore_n (pc := 218) [(2, .int (v2 + (1 : Int32))), (4, .int (0 : Int32)), (0, .ref (ad en 21 0 0)), (1, .int a1), (3, .int v3)] dX8_countOf_218 rfl (by decide) rfl ?_
                        refine r_iinc (pc := 219) 4 [(3, .int (v3 + (1 : Int32))), (2, .int (v2 + (1 : Int32))), (4, .int (0 : Int32)), (0, .ref (ad en 21 0 0)), (1, .int a1)] dX8_countOf_219 rfl rfl (by decide) rfl ?_
                        refine r_goto (pc := 222) 102 dX8_countOf_222 (by decide) ?_
                        exact r_sub [3, 4, 1, 0] rfl (ih (v2 + (1 : Int32)) (v3 + (1 : Int32)) w26.2)
                · refine r_aload_n (pc := 160) 0 dX8_countOf_160 rfl rfl ?_
                  refine g_X8_keptDeeds (pc := 161)  lf_RX8_46 dX8_countOf_161 ?_
                  refine r_iload_n (pc := 164) 3 dX8_countOf_164 rfl rfl ?_
                  refine r_iald (pc := 165) (n := 3) o22_19 rfl dX8_countOf_165 (fun h165 => ?_)
                  refine r_if_lt (pc := 166) 173 dX8_countOf_166 (by decide) (fun h166 => ?_) (fun h166 => ?_)
                  · refine r_iconst (pc := 173) dX8_countOf_173 kc_iconst_0 ?_
                    refine r_istore (pc := 174) [(4, .int (0 : Int32)), (0, .ref (ad en 21 0 0)), (1, .int a1), (2, .int v2), (3, .int v3)] dX8_countOf_174 (by decide) rfl ?_
                    refine r_iload_n (pc := 176) 3 dX8_countOf_176 rfl rfl ?_
                    refine r_iload (pc := 177) 0 dX8_countOf_177 rfl ?_
                    refine r_if_ne_t (pc := 179) 212 dX8_countOf_179 (by decide) (by decide) ?_
                    refine r_iload_n (pc := 182) 2 dX8_countOf_182 rfl rfl ?_
                    refine r_bipush (pc := 183) dX8_countOf_183 kc_bipush_8 ?_
                    refine r_icmp_le (pc := 185) 216 dX8_countOf_185 (by decide) (fun h167 => ?_) (fun h167 => ?_)
                    · refine r_iconst (pc := 216) dX8_countOf_216 kc_iconst_0 ?_
                      refine r_iadd (pc := 217) dX8_countOf_217 ?_
                      refine r_istore_n (pc := 218) [(2, .int (v2 + (0 : Int32))), (4, .int (0 : Int32)), (0, .ref (ad en 21 0 0)), (1, .int a1), (3, .int v3)] dX8_countOf_218 rfl (by decide) rfl ?_
                      refine r_iinc (pc := 219) 4 [(3, .int (v3 + (1 : Int32))), (2, .int (v2 + (0 : Int32))), (4, .int (0 : Int32)), (0, .ref (ad en 21 0 0)), (1, .int a1)] dX8_countOf_219 rfl rfl (by decide) rfl ?_
                      refine r_goto (pc := 222) 102 dX8_countOf_222 (by decide) ?_
                      exact r_sub [3, 4, 1, 0] rfl (ih (v2 + (0 : Int32)) (v3 + (1 : Int32)) σ)
                    · refine r_iload_n (pc := 188) 4 dX8_countOf_188 rfl rfl ?_
                      refine r_aload_n (pc := 189) 1 dX8_countOf_189 rfl rfl ?_
                      refine g_X8_panes (pc := 190)  lf_RX8_143 dX8_countOf_190 ?_
                      refine r_icmp_ge (pc := 193) 216 dX8_countOf_193 (by decide) (fun h168 => ?_) (fun h168 => ?_)
                      · refine r_iconst (pc := 216) dX8_countOf_216 kc_iconst_0 ?_
                        refine r_iadd (pc := 217) dX8_countOf_217 ?_
                        refine r_istore_n (pc := 218) [(2, .int (v2 + (0 : Int32))), (4, .int (0 : Int32)), (0, .ref (ad en 21 0 0)), (1, .int a1), (3, .int v3)] dX8_countOf_218 rfl (by decide) rfl ?_
                        refine r_iinc (pc := 219) 4 [(3, .int (v3 + (1 : Int32))), (2, .int (v2 + (0 : Int32))), (4, .int (0 : Int32)), (0, .ref (ad en 21 0 0)), (1, .int a1)] dX8_countOf_219 rfl rfl (by decide) rfl ?_
                        refine r_goto (pc := 222) 102 dX8_countOf_222 (by decide) ?_
                        exact r_sub [3, 4, 1, 0] rfl (ih (v2 + (0 : Int32)) (v3 + (1 : Int32)) σ)
                      · refine r_aload_n (pc := 196) 1 dX8_countOf_196 rfl rfl ?_
                        refine g_X8_kind (pc := 197)  lf_RX8_25 dX8_countOf_197 ?_
                        refine r_iload_n (pc := 200) 4 dX8_countOf_200 rfl rfl ?_
                        refine r_iald (pc := 201) (n := 7) o22_11 rfl dX8_countOf_201 (fun h169 => ?_)
                        refine r_iload_n (pc := 202) 2 dX8_countOf_202 rfl rfl ?_
                        refine r_bipush (pc := 203) dX8_countOf_203 kc_bipush_8 ?_
                        refine r_isub (pc := 205) dX8_countOf_205 ?_
                        refine k_X8_isOne (pc := 206) lm_RX8_194  (by decide) (Nat.le_of_ble_eq_true rfl) dX8_countOf_206 (fun w27 h170 => ?_)
                        refine r_if_eq (pc := 209) 216 dX8_countOf_209 (by decide) (fun h171 => ?_) (fun h171 => ?_)
                        · refine r_iconst (pc := 216) dX8_countOf_216 kc_iconst_0 ?_
                          refine r_iadd (pc := 217) dX8_countOf_217 ?_
                          refine r_istore_n (pc := 218) [(2, .int (v2 + (0 : Int32))), (4, .int (0 : Int32)), (0, .ref (ad en 21 0 0)), (1, .int a1), (3, .int v3)] dX8_countOf_218 rfl (by decide) rfl ?_
                          refine r_iinc (pc := 219) 4 [(3, .int (v3 + (1 : Int32))), (2, .int (v2 + (0 : Int32))), (4, .int (0 : Int32)), (0, .ref (ad en 21 0 0)), (1, .int a1)] dX8_countOf_219 rfl rfl (by decide) rfl ?_
                          refine r_goto (pc := 222) 102 dX8_countOf_222 (by decide) ?_
                          exact r_sub [3, 4, 1, 0] rfl (ih (v2 + (0 : Int32)) (v3 + (1 : Int32)) w27.2)
                        · refine r_iconst (pc := 212) dX8_countOf_212 kc_iconst_1 ?_
                          refine r_goto (pc := 213) 217 dX8_countOf_213 (by decide) ?_
                          refine r_iadd (pc := 217) dX8_countOf_217 ?_
                          refine r_istore_n (pc := 218) [(2, .int (v2 + (1 : Int32))), (4, .int (0 : Int32)), (0, .ref (ad en 21 0 0)), (1, .int a1), (3, .int v3)] dX8_countOf_218 rfl (by decide) rfl ?_
                          refine r_iinc (pc := 219) 4 [(3, .int (v3 + (1 : Int32))), (2, .int (v2 + (1 : Int32))), (4, .int (0 : Int32)), (0, .ref (ad en 21 0 0)), (1, .int a1)] dX8_countOf_219 rfl rfl (by decide) rfl ?_
                          refine r_goto (pc := 222) 102 dX8_countOf_222 (by decide) ?_
                          exact r_sub [3, 4, 1, 0] rfl (ih (v2 + (1 : Int32)) (v3 + (1 : Int32)) w27.2)
                  · refine r_iconst (pc := 169) dX8_countOf_169 kc_iconst_1 ?_
                    refine r_goto (pc := 170) 174 dX8_countOf_170 (by decide) ?_
                    refine r_istore (pc := 174) [(4, .int (1 : Int32)), (0, .ref (ad en 21 0 0)), (1, .int a1), (2, .int v2), (3, .int v3)] dX8_countOf_174 (by decide) rfl ?_
                    refine r_iload_n (pc := 176) 3 dX8_countOf_176 rfl rfl ?_
                    refine r_iload (pc := 177) 0 dX8_countOf_177 rfl ?_
                    refine r_if_ne_f (pc := 179) 212 dX8_countOf_179 (by decide) (by decide) ?_
                    refine r_iconst (pc := 212) dX8_countOf_212 kc_iconst_1 ?_
                    refine r_goto (pc := 213) 217 dX8_countOf_213 (by decide) ?_
                    refine r_iadd (pc := 217) dX8_countOf_217 ?_
                    refine r_istore_n (pc := 218) [(2, .int (v2 + (1 : Int32))), (4, .int (1 : Int32)), (0, .ref (ad en 21 0 0)), (1, .int a1), (3, .int v3)] dX8_countOf_218 rfl (by decide) rfl ?_
                    refine r_iinc (pc := 219) 4 [(3, .int (v3 + (1 : Int32))), (2, .int (v2 + (1 : Int32))), (4, .int (1 : Int32)), (0, .ref (ad en 21 0 0)), (1, .int a1)] dX8_countOf_219 rfl rfl (by decide) rfl ?_
                    refine r_goto (pc := 222) 102 dX8_countOf_222 (by decide) ?_
                    exact r_sub [3, 4, 1, 0] rfl (ih (v2 + (1 : Int32)) (v3 + (1 : Int32)) σ)
              · refine r_iconst (pc := 173) dX8_countOf_173 kc_iconst_0 ?_
                refine r_istore (pc := 174) [(4, .int (0 : Int32)), (0, .ref (ad en 21 0 0)), (1, .int a1), (2, .int v2), (3, .int v3)] dX8_countOf_174 (by decide) rfl ?_
                refine r_iload_n (pc := 176) 3 dX8_countOf_176 rfl rfl ?_
                refine r_iload (pc := 177) 0 dX8_countOf_177 rfl ?_
                refine r_if_ne_t (pc := 179) 212 dX8_countOf_179 (by decide) (by decide) ?_
                refine r_iload_n (pc := 182) 2 dX8_countOf_182 rfl rfl ?_
                refine r_bipush (pc := 183) dX8_countOf_183 kc_bipush_8 ?_
                refine r_icmp_le (pc := 185) 216 dX8_countOf_185 (by decide) (fun h172 => ?_) (fun h172 => ?_)
                · refine r_iconst (pc := 216) dX8_countOf_216 kc_iconst_0 ?_
                  refine r_iadd (pc := 217) dX8_countOf_217 ?_
                  refine r_istore_n (pc := 218) [(2, .int (v2 + (0 : Int32))), (4, .int (0 : Int32)), (0, .ref (ad en 21 0 0)), (1, .int a1), (3, .int v3)] dX8_countOf_218 rfl (by decide) rfl ?_
                  refine r_iinc (pc := 219) 4 [(3, .int (v3 + (1 : Int32))), (2, .int (v2 + (0 : Int32))), (4, .int (0 : Int32)), (0, .ref (ad en 21 0 0)), (1, .int a1)] dX8_countOf_219 rfl rfl (by decide) rfl ?_
                  refine r_goto (pc := 222) 102 dX8_countOf_222 (by decide) ?_
                  exact r_sub [3, 4, 1, 0] rfl (ih (v2 + (0 : Int32)) (v3 + (1 : Int32)) σ)
                · refine r_iload_n (pc := 188) 4 dX8_countOf_188 rfl rfl ?_
                  refine r_aload_n (pc := 189) 1 dX8_countOf_189 rfl rfl ?_
                  refine g_X8_panes (pc := 190)  lf_RX8_143 dX8_countOf_190 ?_
                  refine r_icmp_ge (pc := 193) 216 dX8_countOf_193 (by decide) (fun h173 => ?_) (fun h173 => ?_)
                  · refine r_iconst (pc := 216) dX8_countOf_216 kc_iconst_0 ?_
                    refine r_iadd (pc := 217) dX8_countOf_217 ?_
                    refine r_istore_n (pc := 218) [(2, .int (v2 + (0 : Int32))), (4, .int (0 : Int32)), (0, .ref (ad en 21 0 0)), (1, .int a1), (3, .int v3)] dX8_countOf_218 rfl (by decide) rfl ?_
                    refine r_iinc (pc := 219) 4 [(3, .int (v3 + (1 : Int32))), (2, .int (v2 + (0 : Int32))), (4, .int (0 : Int32)), (0, .ref (ad en 21 0 0)), (1, .int a1)] dX8_countOf_219 rfl rfl (by decide) rfl ?_
                    refine r_goto (pc := 222) 102 dX8_countOf_222 (by decide) ?_
                    exact r_sub [3, 4, 1, 0] rfl (ih (v2 + (0 : Int32)) (v3 + (1 : Int32)) σ)
                  · refine r_aload_n (pc := 196) 1 dX8_countOf_196 rfl rfl ?_
                    refine g_X8_kind (pc := 197)  lf_RX8_25 dX8_countOf_197 ?_
                    refine r_iload_n (pc := 200) 4 dX8_countOf_200 rfl rfl ?_
                    refine r_iald (pc := 201) (n := 7) o22_11 rfl dX8_countOf_201 (fun h174 => ?_)
                    refine r_iload_n (pc := 202) 2 dX8_countOf_202 rfl rfl ?_
                    refine r_bipush (pc := 203) dX8_countOf_203 kc_bipush_8 ?_
                    refine r_isub (pc := 205) dX8_countOf_205 ?_
                    refine k_X8_isOne (pc := 206) lm_RX8_194  (by decide) (Nat.le_of_ble_eq_true rfl) dX8_countOf_206 (fun w28 h175 => ?_)
                    refine r_if_eq (pc := 209) 216 dX8_countOf_209 (by decide) (fun h176 => ?_) (fun h176 => ?_)
                    · refine r_iconst (pc := 216) dX8_countOf_216 kc_iconst_0 ?_
                      refine r_iadd (pc := 217) dX8_countOf_217 ?_
                      refine r_istore_n (pc := 218) [(2, .int (v2 + (0 : Int32))), (4, .int (0 : Int32)), (0, .ref (ad en 21 0 0)), (1, .int a1), (3, .int v3)] dX8_countOf_218 rfl (by decide) rfl ?_
                      refine r_iinc (pc := 219) 4 [(3, .int (v3 + (1 : Int32))), (2, .int (v2 + (0 : Int32))), (4, .int (0 : Int32)), (0, .ref (ad en 21 0 0)), (1, .int a1)] dX8_countOf_219 rfl rfl (by decide) rfl ?_
                      refine r_goto (pc := 222) 102 dX8_countOf_222 (by decide) ?_
                      exact r_sub [3, 4, 1, 0] rfl (ih (v2 + (0 : Int32)) (v3 + (1 : Int32)) w28.2)
                    · refine r_iconst (pc := 212) dX8_countOf_212 kc_iconst_1 ?_
                      refine r_goto (pc := 213) 217 dX8_countOf_213 (by decide) ?_
                      refine r_iadd (pc := 217) dX8_countOf_217 ?_
                      refine r_istore_n (pc := 218) [(2, .int (v2 + (1 : Int32))), (4, .int (0 : Int32)), (0, .ref (ad en 21 0 0)), (1, .int a1), (3, .int v3)] dX8_countOf_218 rfl (by decide) rfl ?_
                      refine r_iinc (pc := 219) 4 [(3, .int (v3 + (1 : Int32))), (2, .int (v2 + (1 : Int32))), (4, .int (0 : Int32)), (0, .ref (ad en 21 0 0)), (1, .int a1)] dX8_countOf_219 rfl rfl (by decide) rfl ?_
                      refine r_goto (pc := 222) 102 dX8_countOf_222 (by decide) ?_
                      exact r_sub [3, 4, 1, 0] rfl (ih (v2 + (1 : Int32)) (v3 + (1 : Int32)) w28.2)
        · refine r_iload_n (pc := 149) 1 dX8_countOf_149 rfl rfl ?_
          refine r_bipush (pc := 150) dX8_countOf_150 kc_bipush_8 ?_
          refine r_icmp_ne (pc := 152) 173 dX8_countOf_152 (by decide) (fun h177 => ?_) (fun h177 => ?_)
          · refine r_iload_n (pc := 155) 3 dX8_countOf_155 rfl rfl ?_
            refine r_iconst (pc := 156) dX8_countOf_156 kc_iconst_3 ?_
            refine r_icmp_ge (pc := 157) 173 dX8_countOf_157 (by decide) (fun h178 => ?_) (fun h178 => ?_)
            · refine r_iconst (pc := 173) dX8_countOf_173 kc_iconst_0 ?_
              refine r_istore (pc := 174) [(4, .int (0 : Int32)), (0, .ref (ad en 21 0 0)), (1, .int a1), (2, .int v2), (3, .int v3)] dX8_countOf_174 (by decide) rfl ?_
              refine r_iload_n (pc := 176) 3 dX8_countOf_176 rfl rfl ?_
              refine r_iload (pc := 177) 0 dX8_countOf_177 rfl ?_
              refine r_if_ne_t (pc := 179) 212 dX8_countOf_179 (by decide) (by decide) ?_
              refine r_iload_n (pc := 182) 2 dX8_countOf_182 rfl rfl ?_
              refine r_bipush (pc := 183) dX8_countOf_183 kc_bipush_8 ?_
              refine r_icmp_le (pc := 185) 216 dX8_countOf_185 (by decide) (fun h179 => ?_) (fun h179 => ?_)
              · refine r_iconst (pc := 216) dX8_countOf_216 kc_iconst_0 ?_
                refine r_iadd (pc := 217) dX8_countOf_217 ?_
                refine r_istore_n (pc := 218) [(2, .int (v2 + (0 : Int32))), (4, .int (0 : Int32)), (0, .ref (ad en 21 0 0)), (1, .int a1), (3, .int v3)] dX8_countOf_218 rfl (by decide) rfl ?_
                refine r_iinc (pc := 219) 4 [(3, .int (v3 + (1 : Int32))), (2, .int (v2 + (0 : Int32))), (4, .int (0 : Int32)), (0, .ref (ad en 21 0 0)), (1, .int a1)] dX8_countOf_219 rfl rfl (by decide) rfl ?_
                refine r_goto (pc := 222) 102 dX8_countOf_222 (by decide) ?_
                exact r_sub [3, 4, 1, 0] rfl (ih (v2 + (0 : Int32)) (v3 + (1 : Int32)) σ)
              · refine r_iload_n (pc := 188) 4 dX8_countOf_188 rfl rfl ?_
                refine r_aload_n (pc := 189) 1 dX8_countOf_189 rfl rfl ?_
                refine g_X8_panes (pc := 190)  lf_RX8_143 dX8_countOf_190 ?_
                refine r_icmp_ge (pc := 193) 216 dX8_countOf_193 (by decide) (fun h180 => ?_) (fun h180 => ?_)
                · refine r_iconst (pc := 216) dX8_countOf_216 kc_iconst_0 ?_
                  refine r_iadd (pc := 217) dX8_countOf_217 ?_
                  refine r_istore_n (pc := 218) [(2, .int (v2 + (0 : Int32))), (4, .int (0 : Int32)), (0, .ref (ad en 21 0 0)), (1, .int a1), (3, .int v3)] dX8_countOf_218 rfl (by decide) rfl ?_
                  refine r_iinc (pc := 219) 4 [(3, .int (v3 + (1 : Int32))), (2, .int (v2 + (0 : Int32))), (4, .int (0 : Int32)), (0, .ref (ad en 21 0 0)), (1, .int a1)] dX8_countOf_219 rfl rfl (by decide) rfl ?_
                  refine r_goto (pc := 222) 102 dX8_countOf_222 (by decide) ?_
                  exact r_sub [3, 4, 1, 0] rfl (ih (v2 + (0 : Int32)) (v3 + (1 : Int32)) σ)
                · refine r_aload_n (pc := 196) 1 dX8_countOf_196 rfl rfl ?_
                  refine g_X8_kind (pc := 197)  lf_RX8_25 dX8_countOf_197 ?_
                  refine r_iload_n (pc := 200) 4 dX8_countOf_200 rfl rfl ?_
                  refine r_iald (pc := 201) (n := 7) o22_11 rfl dX8_countOf_201 (fun h181 => ?_)
                  refine r_iload_n (pc := 202) 2 dX8_countOf_202 rfl rfl ?_
                  refine r_bipush (pc := 203) dX8_countOf_203 kc_bipush_8 ?_
                  refine r_isub (pc := 205) dX8_countOf_205 ?_
                  refine k_X8_isOne (pc := 206) lm_RX8_194  (by decide) (Nat.le_of_ble_eq_true rfl) dX8_countOf_206 (fun w29 h182 => ?_)
                  refine r_if_eq (pc := 209) 216 dX8_countOf_209 (by decide) (fun h183 => ?_) (fun h183 => ?_)
                  · refine r_iconst (pc := 216) dX8_countOf_216 kc_iconst_0 ?_
                    refine r_iadd (pc := 217) dX8_countOf_217 ?_
                    refine r_istore_n (pc := 218) [(2, .int (v2 + (0 : Int32))), (4, .int (0 : Int32)), (0, .ref (ad en 21 0 0)), (1, .int a1), (3, .int v3)] dX8_countOf_218 rfl (by decide) rfl ?_
                    refine r_iinc (pc := 219) 4 [(3, .int (v3 + (1 : Int32))), (2, .int (v2 + (0 : Int32))), (4, .int (0 : Int32)), (0, .ref (ad en 21 0 0)), (1, .int a1)] dX8_countOf_219 rfl rfl (by decide) rfl ?_
                    refine r_goto (pc := 222) 102 dX8_countOf_222 (by decide) ?_
                    exact r_sub [3, 4, 1, 0] rfl (ih (v2 + (0 : Int32)) (v3 + (1 : Int32)) w29.2)
                  · refine r_iconst (pc := 212) dX8_countOf_212 kc_iconst_1 ?_
                    refine r_goto (pc := 213) 217 dX8_countOf_213 (by decide) ?_
                    refine r_iadd (pc := 217) dX8_countOf_217 ?_
                    refine r_istore_n (pc := 218) [(2, .int (v2 + (1 : Int32))), (4, .int (0 : Int32)), (0, .ref (ad en 21 0 0)), (1, .int a1), (3, .int v3)] dX8_countOf_218 rfl (by decide) rfl ?_
                    refine r_iinc (pc := 219) 4 [(3, .int (v3 + (1 : Int32))), (2, .int (v2 + (1 : Int32))), (4, .int (0 : Int32)), (0, .ref (ad en 21 0 0)), (1, .int a1)] dX8_countOf_219 rfl rfl (by decide) rfl ?_
                    refine r_goto (pc := 222) 102 dX8_countOf_222 (by decide) ?_
                    exact r_sub [3, 4, 1, 0] rfl (ih (v2 + (1 : Int32)) (v3 + (1 : Int32)) w29.2)
            · refine r_aload_n (pc := 160) 0 dX8_countOf_160 rfl rfl ?_
              refine g_X8_keptDeeds (pc := 161)  lf_RX8_46 dX8_countOf_161 ?_
              refine r_iload_n (pc := 164) 3 dX8_countOf_164 rfl rfl ?_
              refine r_iald (pc := 165) (n := 3) o22_19 rfl dX8_countOf_165 (fun h184 => ?_)
              refine r_if_lt (pc := 166) 173 dX8_countOf_166 (by decide) (fun h185 => ?_) (fun h185 => ?_)
              · refine r_iconst (pc := 173) dX8_countOf_173 kc_iconst_0 ?_
                refine r_istore (pc := 174) [(4, .int (0 : Int32)), (0, .ref (ad en 21 0 0)), (1, .int a1), (2, .int v2), (3, .int v3)] dX8_countOf_174 (by decide) rfl ?_
                refine r_iload_n (pc := 176) 3 dX8_countOf_176 rfl rfl ?_
                refine r_iload (pc := 177) 0 dX8_countOf_177 rfl ?_
                refine r_if_ne_t (pc := 179) 212 dX8_countOf_179 (by decide) (by decide) ?_
                refine r_iload_n (pc := 182) 2 dX8_countOf_182 rfl rfl ?_
                refine r_bipush (pc := 183) dX8_countOf_183 kc_bipush_8 ?_
                refine r_icmp_le (pc := 185) 216 dX8_countOf_185 (by decide) (fun h186 => ?_) (fun h186 => ?_)
                · refine r_iconst (pc := 216) dX8_countOf_216 kc_iconst_0 ?_
                  refine r_iadd (pc := 217) dX8_countOf_217 ?_
                  refine r_istore_n (pc := 218) [(2, .int (v2 + (0 : Int32))), (4, .int (0 : Int32)), (0, .ref (ad en 21 0 0)), (1, .int a1), (3, .int v3)] dX8_countOf_218 rfl (by decide) rfl ?_
                  refine r_iinc (pc := 219) 4 [(3, .int (v3 + (1 : Int32))), (2, .int (v2 + (0 : Int32))), (4, .int (0 : Int32)), (0, .ref (ad en 21 0 0)), (1, .int a1)] dX8_countOf_219 rfl rfl (by decide) rfl ?_
                  refine r_goto (pc := 222) 102 dX8_countOf_222 (by decide) ?_
                  exact r_sub [3, 4, 1, 0] rfl (ih (v2 + (0 : Int32)) (v3 + (1 : Int32)) σ)
                · refine r_iload_n (pc := 188) 4 dX8_countOf_188 rfl rfl ?_
                  refine r_aload_n (pc := 189) 1 dX8_countOf_189 rfl rfl ?_
                  refine g_X8_panes (pc := 190)  lf_RX8_143 dX8_countOf_190 ?_
                  refine r_icmp_ge (pc := 193) 216 dX8_countOf_193 (by decide) (fun h187 => ?_) (fun h187 => ?_)
                  · refine r_iconst (pc := 216) dX8_countOf_216 kc_iconst_0 ?_
                    refine r_iadd (pc := 217) dX8_countOf_217 ?_
                    refine r_istore_n (pc := 218) [(2, .int (v2 + (0 : Int32))), (4, .int (0 : Int32)), (0, .ref (ad en 21 0 0)), (1, .int a1), (3, .int v3)] dX8_countOf_218 rfl (by decide) rfl ?_
                    refine r_iinc (pc := 219) 4 [(3, .int (v3 + (1 : Int32))), (2, .int (v2 + (0 : Int32))), (4, .int (0 : Int32)), (0, .ref (ad en 21 0 0)), (1, .int a1)] dX8_countOf_219 rfl rfl (by decide) rfl ?_
                    refine r_goto (pc := 222) 102 dX8_countOf_222 (by decide) ?_
                    exact r_sub [3, 4, 1, 0] rfl (ih (v2 + (0 : Int32)) (v3 + (1 : Int32)) σ)
                  · refine r_aload_n (pc := 196) 1 dX8_countOf_196 rfl rfl ?_
                    refine g_X8_kind (pc := 197)  lf_RX8_25 dX8_countOf_197 ?_
                    refine r_iload_n (pc := 200) 4 dX8_countOf_200 rfl rfl ?_
                    refine r_iald (pc := 201) (n := 7) o22_11 rfl dX8_countOf_201 (fun h188 => ?_)
                    refine r_iload_n (pc := 202) 2 dX8_countOf_202 rfl rfl ?_
                    refine r_bipush (pc := 203) dX8_countOf_203 kc_bipush_8 ?_
                    refine r_isub (pc := 205) dX8_countOf_205 ?_
                    refine k_X8_isOne (pc := 206) lm_RX8_194  (by decide) (Nat.le_of_ble_eq_true rfl) dX8_countOf_206 (fun w30 h189 => ?_)
                    refine r_if_eq (pc := 209) 216 dX8_countOf_209 (by decide) (fun h190 => ?_) (fun h190 => ?_)
                    · refine r_iconst (pc := 216) dX8_countOf_216 kc_iconst_0 ?_
                      refine r_iadd (pc := 217) dX8_countOf_217 ?_
                      refine r_istore_n (pc := 218) [(2, .int (v2 + (0 : Int32))), (4, .int (0 : Int32)), (0, .ref (ad en 21 0 0)), (1, .int a1), (3, .int v3)] dX8_countOf_218 rfl (by decide) rfl ?_
                      refine r_iinc (pc := 219) 4 [(3, .int (v3 + (1 : Int32))), (2, .int (v2 + (0 : Int32))), (4, .int (0 : Int32)), (0, .ref (ad en 21 0 0)), (1, .int a1)] dX8_countOf_219 rfl rfl (by decide) rfl ?_
                      refine r_goto (pc := 222) 102 dX8_countOf_222 (by decide) ?_
                      exact r_sub [3, 4, 1, 0] rfl (ih (v2 + (0 : Int32)) (v3 + (1 : Int32)) w30.2)
                    · refine r_iconst (pc := 212) dX8_countOf_212 kc_iconst_1 ?_
                      refine r_goto (pc := 213) 217 dX8_countOf_213 (by decide) ?_
                      refine r_iadd (pc := 217) dX8_countOf_217 ?_
                      refine r_istore_n (pc := 218) [(2, .int (v2 + (1 : Int32))), (4, .int (0 : Int32)), (0, .ref (ad en 21 0 0)), (1, .int a1), (3, .int v3)] dX8_countOf_218 rfl (by decide) rfl ?_
                      refine r_iinc (pc := 219) 4 [(3, .int (v3 + (1 : Int32))), (2, .int (v2 + (1 : Int32))), (4, .int (0 : Int32)), (0, .ref (ad en 21 0 0)), (1, .int a1)] dX8_countOf_219 rfl rfl (by decide) rfl ?_
                      refine r_goto (pc := 222) 102 dX8_countOf_222 (by decide) ?_
                      exact r_sub [3, 4, 1, 0] rfl (ih (v2 + (1 : Int32)) (v3 + (1 : Int32)) w30.2)
              · refine r_iconst (pc := 169) dX8_countOf_169 kc_iconst_1 ?_
                refine r_goto (pc := 170) 174 dX8_countOf_170 (by decide) ?_
                refine r_istore (pc := 174) [(4, .int (1 : Int32)), (0, .ref (ad en 21 0 0)), (1, .int a1), (2, .int v2), (3, .int v3)] dX8_countOf_174 (by decide) rfl ?_
                refine r_iload_n (pc := 176) 3 dX8_countOf_176 rfl rfl ?_
                refine r_iload (pc := 177) 0 dX8_countOf_177 rfl ?_
                refine r_if_ne_f (pc := 179) 212 dX8_countOf_179 (by decide) (by decide) ?_
                refine r_iconst (pc := 212) dX8_countOf_212 kc_iconst_1 ?_
                refine r_goto (pc := 213) 217 dX8_countOf_213 (by decide) ?_
                refine r_iadd (pc := 217) dX8_countOf_217 ?_
                refine r_istore_n (pc := 218) [(2, .int (v2 + (1 : Int32))), (4, .int (1 : Int32)), (0, .ref (ad en 21 0 0)), (1, .int a1), (3, .int v3)] dX8_countOf_218 rfl (by decide) rfl ?_
                refine r_iinc (pc := 219) 4 [(3, .int (v3 + (1 : Int32))), (2, .int (v2 + (1 : Int32))), (4, .int (1 : Int32)), (0, .ref (ad en 21 0 0)), (1, .int a1)] dX8_countOf_219 rfl rfl (by decide) rfl ?_
                refine r_goto (pc := 222) 102 dX8_countOf_222 (by decide) ?_
                exact r_sub [3, 4, 1, 0] rfl (ih (v2 + (1 : Int32)) (v3 + (1 : Int32)) σ)
          · refine r_iconst (pc := 173) dX8_countOf_173 kc_iconst_0 ?_
            refine r_istore (pc := 174) [(4, .int (0 : Int32)), (0, .ref (ad en 21 0 0)), (1, .int a1), (2, .int v2), (3, .int v3)] dX8_countOf_174 (by decide) rfl ?_
            refine r_iload_n (pc := 176) 3 dX8_countOf_176 rfl rfl ?_
            refine r_iload (pc := 177) 0 dX8_countOf_177 rfl ?_
            refine r_if_ne_t (pc := 179) 212 dX8_countOf_179 (by decide) (by decide) ?_
            refine r_iload_n (pc := 182) 2 dX8_countOf_182 rfl rfl ?_
            refine r_bipush (pc := 183) dX8_countOf_183 kc_bipush_8 ?_
            refine r_icmp_le (pc := 185) 216 dX8_countOf_185 (by decide) (fun h191 => ?_) (fun h191 => ?_)
            · refine r_iconst (pc := 216) dX8_countOf_216 kc_iconst_0 ?_
              refine r_iadd (pc := 217) dX8_countOf_217 ?_
              refine r_istore_n (pc := 218) [(2, .int (v2 + (0 : Int32))), (4, .int (0 : Int32)), (0, .ref (ad en 21 0 0)), (1, .int a1), (3, .int v3)] dX8_countOf_218 rfl (by decide) rfl ?_
              refine r_iinc (pc := 219) 4 [(3, .int (v3 + (1 : Int32))), (2, .int (v2 + (0 : Int32))), (4, .int (0 : Int32)), (0, .ref (ad en 21 0 0)), (1, .int a1)] dX8_countOf_219 rfl rfl (by decide) rfl ?_
              refine r_goto (pc := 222) 102 dX8_countOf_222 (by decide) ?_
              exact r_sub [3, 4, 1, 0] rfl (ih (v2 + (0 : Int32)) (v3 + (1 : Int32)) σ)
            · refine r_iload_n (pc := 188) 4 dX8_countOf_188 rfl rfl ?_
              refine r_aload_n (pc := 189) 1 dX8_countOf_189 rfl rfl ?_
              refine g_X8_panes (pc := 190)  lf_RX8_143 dX8_countOf_190 ?_
              refine r_icmp_ge (pc := 193) 216 dX8_countOf_193 (by decide) (fun h192 => ?_) (fun h192 => ?_)
              · refine r_iconst (pc := 216) dX8_countOf_216 kc_iconst_0 ?_
                refine r_iadd (pc := 217) dX8_countOf_217 ?_
                refine r_istore_n (pc := 218) [(2, .int (v2 + (0 : Int32))), (4, .int (0 : Int32)), (0, .ref (ad en 21 0 0)), (1, .int a1), (3, .int v3)] dX8_countOf_218 rfl (by decide) rfl ?_
                refine r_iinc (pc := 219) 4 [(3, .int (v3 + (1 : Int32))), (2, .int (v2 + (0 : Int32))), (4, .int (0 : Int32)), (0, .ref (ad en 21 0 0)), (1, .int a1)] dX8_countOf_219 rfl rfl (by decide) rfl ?_
                refine r_goto (pc := 222) 102 dX8_countOf_222 (by decide) ?_
                exact r_sub [3, 4, 1, 0] rfl (ih (v2 + (0 : Int32)) (v3 + (1 : Int32)) σ)
              · refine r_aload_n (pc := 196) 1 dX8_countOf_196 rfl rfl ?_
                refine g_X8_kind (pc := 197)  lf_RX8_25 dX8_countOf_197 ?_
                refine r_iload_n (pc := 200) 4 dX8_countOf_200 rfl rfl ?_
                refine r_iald (pc := 201) (n := 7) o22_11 rfl dX8_countOf_201 (fun h193 => ?_)
                refine r_iload_n (pc := 202) 2 dX8_countOf_202 rfl rfl ?_
                refine r_bipush (pc := 203) dX8_countOf_203 kc_bipush_8 ?_
                refine r_isub (pc := 205) dX8_countOf_205 ?_
                refine k_X8_isOne (pc := 206) lm_RX8_194  (by decide) (Nat.le_of_ble_eq_true rfl) dX8_countOf_206 (fun w31 h194 => ?_)
                refine r_if_eq (pc := 209) 216 dX8_countOf_209 (by decide) (fun h195 => ?_) (fun h195 => ?_)
                · refine r_iconst (pc := 216) dX8_countOf_216 kc_iconst_0 ?_
                  refine r_iadd (pc := 217) dX8_countOf_217 ?_
                  refine r_istore_n (pc := 218) [(2, .int (v2 + (0 : Int32))), (4, .int (0 : Int32)), (0, .ref (ad en 21 0 0)), (1, .int a1), (3, .int v3)] dX8_countOf_218 rfl (by decide) rfl ?_
                  refine r_iinc (pc := 219) 4 [(3, .int (v3 + (1 : Int32))), (2, .int (v2 + (0 : Int32))), (4, .int (0 : Int32)), (0, .ref (ad en 21 0 0)), (1, .int a1)] dX8_countOf_219 rfl rfl (by decide) rfl ?_
                  refine r_goto (pc := 222) 102 dX8_countOf_222 (by decide) ?_
                  exact r_sub [3, 4, 1, 0] rfl (ih (v2 + (0 : Int32)) (v3 + (1 : Int32)) w31.2)
                · refine r_iconst (pc := 212) dX8_countOf_212 kc_iconst_1 ?_
                  refine r_goto (pc := 213) 217 dX8_countOf_213 (by decide) ?_
                  refine r_iadd (pc := 217) dX8_countOf_217 ?_
                  refine r_istore_n (pc := 218) [(2, .int (v2 + (1 : Int32))), (4, .int (0 : Int32)), (0, .ref (ad en 21 0 0)), (1, .int a1), (3, .int v3)] dX8_countOf_218 rfl (by decide) rfl ?_
                  refine r_iinc (pc := 219) 4 [(3, .int (v3 + (1 : Int32))), (2, .int (v2 + (1 : Int32))), (4, .int (0 : Int32)), (0, .ref (ad en 21 0 0)), (1, .int a1)] dX8_countOf_219 rfl rfl (by decide) rfl ?_
                  refine r_goto (pc := 222) 102 dX8_countOf_222 (by decide) ?_
                  exact r_sub [3, 4, 1, 0] rfl (ih (v2 + (1 : Int32)) (v3 + (1 : Int32)) w31.2)
set_option maxHeartbeats 4000000 in
theorem R_X8_countOf (en : En) (N : Nat) (p0 : Int32)  (σ : Sg) : RR en ExT mi_X8_countOf evI 0 [(0, .ref (ad en 21 0 0)), (1, .int p0)] [] σ (f_X8_countOf N p0 σ) := by
  unfold f_X8_countOf
  refine r_iload_n (pc := 0) 1 dX8_countOf_0 rfl rfl ?_
  refine r_iconst (pc := 1) dX8_countOf_1 kc_iconst_3 ?_
  refine r_icmp_eq (pc := 2) 10 dX8_countOf_2 (by decide) (fun h1 => ?_) (fun h1 => ?_)
  · refine r_aload_n (pc := 10) 0 dX8_countOf_10 rfl rfl ?_
    refine k_X8_sees (pc := 11) lm_RX8_182  (by decide) (Nat.le_of_ble_eq_true rfl) dX8_countOf_11 (fun w1 h2 => ?_)
    refine r_iload_n (pc := 14) 1 dX8_countOf_14 rfl rfl ?_
    refine r_iconst (pc := 15) dX8_countOf_15 kc_iconst_3 ?_
    refine r_icmp_ne_t (pc := 16) 26 dX8_countOf_16 (by decide) h1 ?_
    refine r_aload_n (pc := 19) 0 dX8_countOf_19 rfl rfl ?_
    refine k_X8_manySeen (pc := 20) lm_RX8_236  (by decide) (Nat.le_of_ble_eq_true rfl) dX8_countOf_20 (fun w2 h3 => ?_)
    refine r_goto (pc := 23) 30 dX8_countOf_23 (by decide) ?_
    exact r_iret (pc := 30) rfl dX8_countOf_30
  · refine r_iload_n (pc := 5) 1 dX8_countOf_5 rfl rfl ?_
    refine r_iconst (pc := 6) dX8_countOf_6 kc_iconst_4 ?_
    refine r_icmp_ne (pc := 7) 31 dX8_countOf_7 (by decide) (fun h4 => ?_) (fun h4 => ?_)
    · refine r_aload_n (pc := 10) 0 dX8_countOf_10 rfl rfl ?_
      refine k_X8_sees (pc := 11) lm_RX8_182  (by decide) (Nat.le_of_ble_eq_true rfl) dX8_countOf_11 (fun w3 h5 => ?_)
      refine r_iload_n (pc := 14) 1 dX8_countOf_14 rfl rfl ?_
      refine r_iconst (pc := 15) dX8_countOf_15 kc_iconst_3 ?_
      refine r_icmp_ne_f (pc := 16) 26 dX8_countOf_16 (by decide) h1 ?_
      refine r_aload_n (pc := 26) 0 dX8_countOf_26 rfl rfl ?_
      refine k_X8_shown (pc := 27) lm_RX8_219  (by decide) (Nat.le_of_ble_eq_true rfl) dX8_countOf_27 (fun w4 h6 => ?_)
      exact r_iret (pc := 30) rfl dX8_countOf_30
    · refine r_iload_n (pc := 31) 1 dX8_countOf_31 rfl rfl ?_
      refine r_bipush (pc := 32) dX8_countOf_32 kc_bipush_6 ?_
      refine r_icmp_ge (pc := 34) 98 dX8_countOf_34 (by decide) (fun h7 => ?_) (fun h7 => ?_)
      · refine r_iconst (pc := 98) dX8_countOf_98 kc_iconst_0 ?_
        refine r_istore_n (pc := 99) [(2, .int (0 : Int32)), (0, .ref (ad en 21 0 0)), (1, .int p0)] dX8_countOf_99 rfl (by decide) rfl ?_
        refine r_iconst (pc := 100) dX8_countOf_100 kc_iconst_0 ?_
        refine r_istore_n (pc := 101) [(3, .int (0 : Int32)), (2, .int (0 : Int32)), (0, .ref (ad en 21 0 0)), (1, .int p0)] dX8_countOf_101 rfl (by decide) rfl ?_
        refine r_sub [2, 3, 1, 0] rfl (RL_X8_countOf_102 en N p0  (fun v2_32 v3_32 σ_32 => ?_) N (0 : Int32) (0 : Int32) σ)
        refine r_iload_n (pc := 225) 0 dX8_countOf_225 rfl rfl ?_
        exact r_iret (pc := 226) rfl dX8_countOf_226
      · refine r_iload_n (pc := 37) 1 dX8_countOf_37 rfl rfl ?_
        refine r_if_ne (pc := 38) 48 dX8_countOf_38 (by decide) (fun h196 => ?_) (fun h196 => ?_)
        · refine r_aload_n (pc := 41) 0 dX8_countOf_41 rfl rfl ?_
          refine g_X8_panes (pc := 42)  lf_RX8_143 dX8_countOf_42 ?_
          refine r_goto (pc := 45) 97 dX8_countOf_45 (by decide) ?_
          exact r_iret (pc := 97) rfl dX8_countOf_97
        · refine r_iload_n (pc := 48) 1 dX8_countOf_48 rfl rfl ?_
          refine r_iconst (pc := 49) dX8_countOf_49 kc_iconst_1 ?_
          refine r_icmp_ne (pc := 50) 67 dX8_countOf_50 (by decide) (fun h197 => ?_) (fun h197 => ?_)
          · refine r_aload_n (pc := 53) 0 dX8_countOf_53 rfl rfl ?_
            refine g_X8_s (pc := 54)  lf_RX8_34 dX8_countOf_54 ?_
            refine r_bipush (pc := 57) dX8_countOf_57 kc_bipush_21 ?_
            refine r_iald (pc := 59) (n := 22) o22_14 rfl dX8_countOf_59 (fun h198 => ?_)
            refine r_i2l (pc := 60) dX8_countOf_60 ?_
            refine k_X8_ones (pc := 61) lm_RX8_172  (by decide) (Nat.le_of_ble_eq_true rfl) dX8_countOf_61 (fun w33 h199 => ?_)
            refine r_goto (pc := 64) 97 dX8_countOf_64 (by decide) ?_
            exact r_iret (pc := 97) rfl dX8_countOf_97
          · refine r_iload_n (pc := 67) 1 dX8_countOf_67 rfl rfl ?_
            refine r_iconst (pc := 68) dX8_countOf_68 kc_iconst_2 ?_
            refine r_icmp_ne (pc := 69) 79 dX8_countOf_69 (by decide) (fun h200 => ?_) (fun h200 => ?_)
            · refine r_aload_n (pc := 72) 0 dX8_countOf_72 rfl rfl ?_
              refine g_X8_deeds (pc := 73)  lf_RX8_146 dX8_countOf_73 ?_
              refine r_goto (pc := 76) 97 dX8_countOf_76 (by decide) ?_
              exact r_iret (pc := 97) rfl dX8_countOf_97
            · refine r_iconst (pc := 79) dX8_countOf_79 kc_iconst_1 ?_
              refine r_aload_n (pc := 80) 0 dX8_countOf_80 rfl rfl ?_
              refine g_X8_panes (pc := 81)  lf_RX8_143 dX8_countOf_81 ?_
              refine r_ishl (pc := 84) dX8_countOf_84 ?_
              refine r_iconst (pc := 85) dX8_countOf_85 kc_iconst_1 ?_
              refine r_isub (pc := 86) dX8_countOf_86 ?_
              refine r_aload_n (pc := 87) 0 dX8_countOf_87 rfl rfl ?_
              refine g_X8_s (pc := 88)  lf_RX8_34 dX8_countOf_88 ?_
              refine r_bipush (pc := 91) dX8_countOf_91 kc_bipush_21 ?_
              refine r_iald (pc := 93) (n := 22) o22_14 rfl dX8_countOf_93 (fun h201 => ?_)
              refine r_iconst (pc := 94) dX8_countOf_94 kc_iconst_m1 ?_
              refine r_ixor (pc := 95) dX8_countOf_95 ?_
              refine r_iand (pc := 96) dX8_countOf_96 ?_
              exact r_iret (pc := 97) rfl dX8_countOf_97
theorem ok_X8_countOf : yOk yX8_countOf cX8_countOf 5 (some .int) := ⟨in_lwG (by decide +kernel) rfl, in_lwG (by decide +kernel) rfl, by decide, by decide, by decide⟩
theorem k_X8_countOf {en : En} {Ex : (Nat → Prop) → State → Prop} {mi : Mi} {α : Type} {ev : α → Option Value × Sg} {pc index : Nat} {lv : List (Nat × Value)} {rest : List Value} {σ : Sg} {N : Nat} {k : (Int32 × Sg) → Option α} {p0 : Int32} (hlink : Cond.methodLink mi.1 index yX8_countOf ∈ lwG) (hroom : 6 + 1 ≤ mi.2.2.2.2) (hcat : (rest.map fun v => v.category).sum ≤ 8) (hd : decode mi.2.1 pc = .ok (.invokevirtual index, 3))  (h : ∀ w : Int32 × Sg, f_X8_countOf N p0 σ = some w → RR en Ex mi ev (pc + 3) lv (.int w.1 :: rest) w.2 (k w)) : RR en Ex mi ev pc lv (.int p0 :: .ref (ad en 21 0 0) :: rest) σ ((f_X8_countOf N p0 σ).bind k) :=
  r_callV (n := 1) [.int p0] ok_X8_countOf hlink (in_lwG (by decide +kernel) rfl) (in_lwG (by decide +kernel) rfl) (by decide +kernel) rfl hroom (by decide) o21 rfl rfl hcat (R_X8_countOf en N p0  σ) (Nat.le_of_ble_eq_true rfl) hd h
set_option maxHeartbeats 4000000 in
theorem R_X8_count (en : En) (N : Nat) (p0 : Int32)  (σ : Sg) : RR en ExT mi_X8_count evI 0 [(0, .ref (ad en 21 0 0)), (1, .int p0)] [] σ (f_X8_count N p0 σ) := by
  unfold f_X8_count
  refine r_aload_n (pc := 0) 0 dX8_count_0 rfl rfl ?_
  refine r_iconst (pc := 1) dX8_count_1 kc_iconst_0 ?_
  refine p_X8_thrown (pc := 2)  lf_RX8_81 dX8_count_2 ?_
  refine r_iload_n (pc := 5) 1 dX8_count_5 rfl rfl ?_
  refine r_iconst (pc := 6) dX8_count_6 kc_iconst_0 ?_
  refine r_bipush (pc := 7) dX8_count_7 kc_bipush_10 ?_
  refine k_X8_in (pc := 9) lm_RX8_91  (by decide) (Nat.le_of_ble_eq_true rfl) dX8_count_9 (fun w1 h1 => ?_)
  refine r_if_eq (pc := 12) 23 dX8_count_12 (by decide) (fun h2 => ?_) (fun h2 => ?_)
  · refine r_iconst (pc := 23) dX8_count_23 kc_iconst_m1 ?_
    exact r_iret (pc := 24) rfl dX8_count_24
  · refine r_aload_n (pc := 15) 0 dX8_count_15 rfl rfl ?_
    refine r_iload_n (pc := 16) 1 dX8_count_16 rfl rfl ?_
    refine k_X8_countOf (pc := 17) lm_RX8_277  (by decide) (Nat.le_of_ble_eq_true rfl) dX8_count_17 (fun w2 h3 => ?_)
    refine r_goto (pc := 20) 24 dX8_count_20 (by decide) ?_
    exact r_iret (pc := 24) rfl dX8_count_24
theorem ok_X8_count : yOk yX8_count cX8_count 2 (some .int) := ⟨in_lwG (by decide +kernel) rfl, in_lwG (by decide +kernel) rfl, by decide, by decide, by decide⟩
theorem k_X8_count {en : En} {Ex : (Nat → Prop) → State → Prop} {mi : Mi} {α : Type} {ev : α → Option Value × Sg} {pc index : Nat} {lv : List (Nat × Value)} {rest : List Value} {σ : Sg} {N : Nat} {k : (Int32 × Sg) → Option α} {p0 : Int32} (hlink : Cond.methodLink mi.1 index yX8_count ∈ lwG) (hroom : 7 + 1 ≤ mi.2.2.2.2) (hcat : (rest.map fun v => v.category).sum ≤ 8) (hd : decode mi.2.1 pc = .ok (.invokevirtual index, 3))  (h : ∀ w : Int32 × Sg, f_X8_count N p0 σ = some w → RR en Ex mi ev (pc + 3) lv (.int w.1 :: rest) w.2 (k w)) : RR en Ex mi ev pc lv (.int p0 :: .ref (ad en 21 0 0) :: rest) σ ((f_X8_count N p0 σ).bind k) :=
  r_callV (n := 1) [.int p0] ok_X8_count hlink (in_lwG (by decide +kernel) rfl) (in_lwG (by decide +kernel) rfl) (by decide +kernel) rfl hroom (by decide) o21 rfl rfl hcat (R_X8_count en N p0  σ) (Nat.le_of_ble_eq_true rfl) hd h
set_option maxHeartbeats 4000000 in
theorem R_X8_coveredOf (en : En) (N : Nat) (p0 : Int32)  (σ : Sg) : RR en ExT mi_X8_coveredOf evI 0 [(0, .ref (ad en 21 0 0)), (1, .int p0)] [] σ (f_X8_coveredOf N p0 σ) := by
  unfold f_X8_coveredOf
  refine r_aload_n (pc := 0) 0 dX8_coveredOf_0 rfl rfl ?_
  refine g_X8_coverLow (pc := 1)  lf_RX8_55 dX8_coveredOf_1 ?_
  refine r_iload_n (pc := 4) 1 dX8_coveredOf_4 rfl rfl ?_
  refine r_lald (pc := 5) (n := 7) o23_22 rfl dX8_coveredOf_5 (fun h1 => ?_)
  refine k_X8_ones (pc := 6) lm_RX8_172  (by decide) (Nat.le_of_ble_eq_true rfl) dX8_coveredOf_6 (fun w1 h2 => ?_)
  refine r_aload_n (pc := 9) 0 dX8_coveredOf_9 rfl rfl ?_
  refine g_X8_coverHigh (pc := 10)  lf_RX8_59 dX8_coveredOf_10 ?_
  refine r_iload_n (pc := 13) 1 dX8_coveredOf_13 rfl rfl ?_
  refine r_lald (pc := 14) (n := 7) o23_23 rfl dX8_coveredOf_14 (fun h3 => ?_)
  refine k_X8_ones (pc := 15) lm_RX8_172  (by decide) (Nat.le_of_ble_eq_true rfl) dX8_coveredOf_15 (fun w2 h4 => ?_)
  refine r_iadd (pc := 18) dX8_coveredOf_18 ?_
  exact r_iret (pc := 19) rfl dX8_coveredOf_19
theorem ok_X8_coveredOf : yOk yX8_coveredOf cX8_coveredOf 2 (some .int) := ⟨in_lwG (by decide +kernel) rfl, in_lwG (by decide +kernel) rfl, by decide, by decide, by decide⟩
theorem k_X8_coveredOf {en : En} {Ex : (Nat → Prop) → State → Prop} {mi : Mi} {α : Type} {ev : α → Option Value × Sg} {pc index : Nat} {lv : List (Nat × Value)} {rest : List Value} {σ : Sg} {N : Nat} {k : (Int32 × Sg) → Option α} {p0 : Int32} (hlink : Cond.methodLink mi.1 index yX8_coveredOf ∈ lwG) (hroom : 2 + 1 ≤ mi.2.2.2.2) (hcat : (rest.map fun v => v.category).sum ≤ 8) (hd : decode mi.2.1 pc = .ok (.invokevirtual index, 3))  (h : ∀ w : Int32 × Sg, f_X8_coveredOf N p0 σ = some w → RR en Ex mi ev (pc + 3) lv (.int w.1 :: rest) w.2 (k w)) : RR en Ex mi ev pc lv (.int p0 :: .ref (ad en 21 0 0) :: rest) σ ((f_X8_coveredOf N p0 σ).bind k) :=
  r_callV (n := 1) [.int p0] ok_X8_coveredOf hlink (in_lwG (by decide +kernel) rfl) (in_lwG (by decide +kernel) rfl) (by decide +kernel) rfl hroom (by decide) o21 rfl rfl hcat (R_X8_coveredOf en N p0  σ) (Nat.le_of_ble_eq_true rfl) hd h
set_option maxHeartbeats 4000000 in
theorem R_X8_covers (en : En) (N : Nat) (p0 : Int32) (p1 : Int32)  (σ : Sg) : RR en ExT mi_X8_covers evI 0 [(0, .ref (ad en 21 0 0)), (1, .int p0), (2, .int p1)] [] σ (f_X8_covers N p0 p1 σ) := by
  unfold f_X8_covers
  refine r_aload_n (pc := 0) 0 dX8_covers_0 rfl rfl ?_
  refine r_iconst (pc := 1) dX8_covers_1 kc_iconst_0 ?_
  refine p_X8_thrown (pc := 2)  lf_RX8_81 dX8_covers_2 ?_
  refine r_aload_n (pc := 5) 0 dX8_covers_5 rfl rfl ?_
  refine r_iload_n (pc := 6) 1 dX8_covers_6 rfl rfl ?_
  refine k_X8_isPane (pc := 7) lm_RX8_188  (by decide) (Nat.le_of_ble_eq_true rfl) dX8_covers_7 (fun w1 h1 => ?_)
  refine r_if_eq (pc := 10) 23 dX8_covers_10 (by decide) (fun h2 => ?_) (fun h2 => ?_)
  · refine r_iconst (pc := 23) dX8_covers_23 kc_iconst_m1 ?_
    refine r_goto (pc := 24) 64 dX8_covers_24 (by decide) ?_
    exact r_iret (pc := 64) rfl dX8_covers_64
  · refine r_iload_n (pc := 13) 2 dX8_covers_13 rfl rfl ?_
    refine r_iconst (pc := 14) dX8_covers_14 kc_iconst_0 ?_
    refine r_bipush (pc := 15) dX8_covers_15 kc_bipush_95 ?_
    refine k_X8_in (pc := 17) lm_RX8_91  (by decide) (Nat.le_of_ble_eq_true rfl) dX8_covers_17 (fun w2 h3 => ?_)
    refine r_if_ne (pc := 20) 27 dX8_covers_20 (by decide) (fun h4 => ?_) (fun h4 => ?_)
    · refine r_iconst (pc := 23) dX8_covers_23 kc_iconst_m1 ?_
      refine r_goto (pc := 24) 64 dX8_covers_24 (by decide) ?_
      exact r_iret (pc := 64) rfl dX8_covers_64
    · refine r_aload_n (pc := 27) 0 dX8_covers_27 rfl rfl ?_
      refine r_aload_n (pc := 28) 0 dX8_covers_28 rfl rfl ?_
      refine g_X8_kind (pc := 29)  lf_RX8_25 dX8_covers_29 ?_
      refine r_iload_n (pc := 32) 1 dX8_covers_32 rfl rfl ?_
      refine r_iald (pc := 33) (n := 7) o22_11 rfl dX8_covers_33 (fun h5 => ?_)
      refine r_iload_n (pc := 34) 1 dX8_covers_34 rfl rfl ?_
      refine r_aload_n (pc := 35) 0 dX8_covers_35 rfl rfl ?_
      refine g_X8_s (pc := 36)  lf_RX8_34 dX8_covers_36 ?_
      refine r_iconst (pc := 39) dX8_covers_39 kc_iconst_0 ?_
      refine r_iload_n (pc := 40) 1 dX8_covers_40 rfl rfl ?_
      refine r_iadd (pc := 41) dX8_covers_41 ?_
      refine r_iald (pc := 42) (n := 22) o22_14 rfl dX8_covers_42 (fun h6 => ?_)
      refine r_aload_n (pc := 43) 0 dX8_covers_43 rfl rfl ?_
      refine g_X8_s (pc := 44)  lf_RX8_34 dX8_covers_44 ?_
      refine r_bipush (pc := 47) dX8_covers_47 kc_bipush_7 ?_
      refine r_iload_n (pc := 49) 1 dX8_covers_49 rfl rfl ?_
      refine r_iadd (pc := 50) dX8_covers_50 ?_
      refine r_iald (pc := 51) (n := 22) o22_14 rfl dX8_covers_51 (fun h7 => ?_)
      refine r_iload_n (pc := 52) 2 dX8_covers_52 rfl rfl ?_
      refine k_X8_isCovered (pc := 53) lm_RX8_149  (by decide) (Nat.le_of_ble_eq_true rfl) dX8_covers_53 (fun w3 h8 => ?_)
      refine r_if_eq (pc := 56) 63 dX8_covers_56 (by decide) (fun h9 => ?_) (fun h9 => ?_)
      · refine r_iconst (pc := 63) dX8_covers_63 kc_iconst_0 ?_
        exact r_iret (pc := 64) rfl dX8_covers_64
      · refine r_iconst (pc := 59) dX8_covers_59 kc_iconst_1 ?_
        refine r_goto (pc := 60) 64 dX8_covers_60 (by decide) ?_
        exact r_iret (pc := 64) rfl dX8_covers_64
theorem ok_X8_covers : yOk yX8_covers cX8_covers 3 (some .int) := ⟨in_lwG (by decide +kernel) rfl, in_lwG (by decide +kernel) rfl, by decide, by decide, by decide⟩
theorem k_X8_covers {en : En} {Ex : (Nat → Prop) → State → Prop} {mi : Mi} {α : Type} {ev : α → Option Value × Sg} {pc index : Nat} {lv : List (Nat × Value)} {rest : List Value} {σ : Sg} {N : Nat} {k : (Int32 × Sg) → Option α} {p0 : Int32} {p1 : Int32} (hlink : Cond.methodLink mi.1 index yX8_covers ∈ lwG) (hroom : 3 + 1 ≤ mi.2.2.2.2) (hcat : (rest.map fun v => v.category).sum ≤ 8) (hd : decode mi.2.1 pc = .ok (.invokevirtual index, 3))  (h : ∀ w : Int32 × Sg, f_X8_covers N p0 p1 σ = some w → RR en Ex mi ev (pc + 3) lv (.int w.1 :: rest) w.2 (k w)) : RR en Ex mi ev pc lv (.int p1 :: .int p0 :: .ref (ad en 21 0 0) :: rest) σ ((f_X8_covers N p0 p1 σ).bind k) :=
  r_callV (n := 2) [.int p0, .int p1] ok_X8_covers hlink (in_lwG (by decide +kernel) rfl) (in_lwG (by decide +kernel) rfl) (by decide +kernel) rfl hroom (by decide) o21 rfl rfl hcat (R_X8_covers en N p0 p1  σ) (Nat.le_of_ble_eq_true rfl) hd h
set_option maxHeartbeats 4000000 in
theorem R_X8_ofPane (en : En) (N : Nat) (p0 : Int32) (p1 : Int32)  (σ : Sg) : RR en ExT mi_X8_ofPane evI 0 [(0, .ref (ad en 21 0 0)), (1, .int p0), (2, .int p1)] [] σ (f_X8_ofPane N p0 p1 σ) := by
  unfold f_X8_ofPane
  refine r_iload_n (pc := 0) 2 dX8_ofPane_0 rfl rfl ?_
  refine r_iconst (pc := 1) dX8_ofPane_1 kc_iconst_5 ?_
  refine r_icmp_ge (pc := 2) 72 dX8_ofPane_2 (by decide) (fun h1 => ?_) (fun h1 => ?_)
  · refine r_iload_n (pc := 72) 2 dX8_ofPane_72 rfl rfl ?_
    refine r_bipush (pc := 73) dX8_ofPane_73 kc_bipush_7 ?_
    refine r_icmp_ne (pc := 75) 88 dX8_ofPane_75 (by decide) (fun h2 => ?_) (fun h2 => ?_)
    · refine r_aload_n (pc := 78) 0 dX8_ofPane_78 rfl rfl ?_
      refine k_X8_sees (pc := 79) lm_RX8_182  (by decide) (Nat.le_of_ble_eq_true rfl) dX8_ofPane_79 (fun w1 h3 => ?_)
      refine r_aload_n (pc := 82) 0 dX8_ofPane_82 rfl rfl ?_
      refine r_iload_n (pc := 83) 1 dX8_ofPane_83 rfl rfl ?_
      refine k_X8_cellsOf (pc := 84) lm_RX8_185  (by decide) (Nat.le_of_ble_eq_true rfl) dX8_ofPane_84 (fun w2 h4 => ?_)
      exact r_iret (pc := 87) rfl dX8_ofPane_87
    · refine r_iload_n (pc := 88) 2 dX8_ofPane_88 rfl rfl ?_
      refine r_iconst (pc := 89) dX8_ofPane_89 kc_iconst_5 ?_
      refine r_icmp_ne (pc := 90) 101 dX8_ofPane_90 (by decide) (fun h5 => ?_) (fun h5 => ?_)
      · refine r_aload_n (pc := 93) 0 dX8_ofPane_93 rfl rfl ?_
        refine r_iload_n (pc := 94) 1 dX8_ofPane_94 rfl rfl ?_
        refine k_X8_placeOf (pc := 95) lm_RX8_179  (by decide) (Nat.le_of_ble_eq_true rfl) dX8_ofPane_95 (fun w3 h6 => ?_)
        refine r_goto (pc := 98) 112 dX8_ofPane_98 (by decide) ?_
        exact r_iret (pc := 112) rfl dX8_ofPane_112
      · refine r_aload_n (pc := 101) 0 dX8_ofPane_101 rfl rfl ?_
        refine g_X8_s (pc := 102)  lf_RX8_34 dX8_ofPane_102 ?_
        refine r_bipush (pc := 105) dX8_ofPane_105 kc_bipush_21 ?_
        refine r_iald (pc := 107) (n := 22) o22_14 rfl dX8_ofPane_107 (fun h7 => ?_)
        refine r_iload_n (pc := 108) 1 dX8_ofPane_108 rfl rfl ?_
        refine r_ishr (pc := 109) dX8_ofPane_109 ?_
        refine r_iconst (pc := 110) dX8_ofPane_110 kc_iconst_1 ?_
        refine r_iand (pc := 111) dX8_ofPane_111 ?_
        exact r_iret (pc := 112) rfl dX8_ofPane_112
  · refine r_iload_n (pc := 5) 2 dX8_ofPane_5 rfl rfl ?_
    refine r_if_ne (pc := 6) 18 dX8_ofPane_6 (by decide) (fun h8 => ?_) (fun h8 => ?_)
    · refine r_aload_n (pc := 9) 0 dX8_ofPane_9 rfl rfl ?_
      refine g_X8_kind (pc := 10)  lf_RX8_25 dX8_ofPane_10 ?_
      refine r_iload_n (pc := 13) 1 dX8_ofPane_13 rfl rfl ?_
      refine r_iald (pc := 14) (n := 7) o22_11 rfl dX8_ofPane_14 (fun h9 => ?_)
      refine r_goto (pc := 15) 71 dX8_ofPane_15 (by decide) ?_
      exact r_iret (pc := 71) rfl dX8_ofPane_71
    · refine r_iload_n (pc := 18) 2 dX8_ofPane_18 rfl rfl ?_
      refine r_iconst (pc := 19) dX8_ofPane_19 kc_iconst_1 ?_
      refine r_icmp_ne (pc := 20) 34 dX8_ofPane_20 (by decide) (fun h10 => ?_) (fun h10 => ?_)
      · refine r_aload_n (pc := 23) 0 dX8_ofPane_23 rfl rfl ?_
        refine g_X8_s (pc := 24)  lf_RX8_34 dX8_ofPane_24 ?_
        refine r_iconst (pc := 27) dX8_ofPane_27 kc_iconst_0 ?_
        refine r_iload_n (pc := 28) 1 dX8_ofPane_28 rfl rfl ?_
        refine r_iadd (pc := 29) dX8_ofPane_29 ?_
        refine r_iald (pc := 30) (n := 22) o22_14 rfl dX8_ofPane_30 (fun h11 => ?_)
        refine r_goto (pc := 31) 71 dX8_ofPane_31 (by decide) ?_
        exact r_iret (pc := 71) rfl dX8_ofPane_71
      · refine r_iload_n (pc := 34) 2 dX8_ofPane_34 rfl rfl ?_
        refine r_iconst (pc := 35) dX8_ofPane_35 kc_iconst_2 ?_
        refine r_icmp_ne (pc := 36) 51 dX8_ofPane_36 (by decide) (fun h12 => ?_) (fun h12 => ?_)
        · refine r_aload_n (pc := 39) 0 dX8_ofPane_39 rfl rfl ?_
          refine g_X8_s (pc := 40)  lf_RX8_34 dX8_ofPane_40 ?_
          refine r_bipush (pc := 43) dX8_ofPane_43 kc_bipush_7 ?_
          refine r_iload_n (pc := 45) 1 dX8_ofPane_45 rfl rfl ?_
          refine r_iadd (pc := 46) dX8_ofPane_46 ?_
          refine r_iald (pc := 47) (n := 22) o22_14 rfl dX8_ofPane_47 (fun h13 => ?_)
          refine r_goto (pc := 48) 71 dX8_ofPane_48 (by decide) ?_
          exact r_iret (pc := 71) rfl dX8_ofPane_71
        · refine r_iload_n (pc := 51) 2 dX8_ofPane_51 rfl rfl ?_
          refine r_iconst (pc := 52) dX8_ofPane_52 kc_iconst_3 ?_
          refine r_icmp_ne (pc := 53) 65 dX8_ofPane_53 (by decide) (fun h14 => ?_) (fun h14 => ?_)
          · refine r_aload_n (pc := 56) 0 dX8_ofPane_56 rfl rfl ?_
            refine g_X8_wide (pc := 57)  lf_RX8_28 dX8_ofPane_57 ?_
            refine r_iload_n (pc := 60) 1 dX8_ofPane_60 rfl rfl ?_
            refine r_iald (pc := 61) (n := 7) o22_12 rfl dX8_ofPane_61 (fun h15 => ?_)
            refine r_goto (pc := 62) 71 dX8_ofPane_62 (by decide) ?_
            exact r_iret (pc := 71) rfl dX8_ofPane_71
          · refine r_aload_n (pc := 65) 0 dX8_ofPane_65 rfl rfl ?_
            refine g_X8_high (pc := 66)  lf_RX8_31 dX8_ofPane_66 ?_
            refine r_iload_n (pc := 69) 1 dX8_ofPane_69 rfl rfl ?_
            refine r_iald (pc := 70) (n := 7) o22_13 rfl dX8_ofPane_70 (fun h16 => ?_)
            exact r_iret (pc := 71) rfl dX8_ofPane_71
theorem ok_X8_ofPane : yOk yX8_ofPane cX8_ofPane 3 (some .int) := ⟨in_lwG (by decide +kernel) rfl, in_lwG (by decide +kernel) rfl, by decide, by decide, by decide⟩
theorem k_X8_ofPane {en : En} {Ex : (Nat → Prop) → State → Prop} {mi : Mi} {α : Type} {ev : α → Option Value × Sg} {pc index : Nat} {lv : List (Nat × Value)} {rest : List Value} {σ : Sg} {N : Nat} {k : (Int32 × Sg) → Option α} {p0 : Int32} {p1 : Int32} (hlink : Cond.methodLink mi.1 index yX8_ofPane ∈ lwG) (hroom : 6 + 1 ≤ mi.2.2.2.2) (hcat : (rest.map fun v => v.category).sum ≤ 8) (hd : decode mi.2.1 pc = .ok (.invokevirtual index, 3))  (h : ∀ w : Int32 × Sg, f_X8_ofPane N p0 p1 σ = some w → RR en Ex mi ev (pc + 3) lv (.int w.1 :: rest) w.2 (k w)) : RR en Ex mi ev pc lv (.int p1 :: .int p0 :: .ref (ad en 21 0 0) :: rest) σ ((f_X8_ofPane N p0 p1 σ).bind k) :=
  r_callV (n := 2) [.int p0, .int p1] ok_X8_ofPane hlink (in_lwG (by decide +kernel) rfl) (in_lwG (by decide +kernel) rfl) (by decide +kernel) rfl hroom (by decide) o21 rfl rfl hcat (R_X8_ofPane en N p0 p1  σ) (Nat.le_of_ble_eq_true rfl) hd h
set_option maxHeartbeats 4000000 in
theorem RL_X8_digest_11 (en : En) (N : Nat) {k : Int64 → Int32 → Sg → Option (Int64 × Sg)}   (hk : ∀ (v1 : Int64) (v3 : Int32) (σ : Sg), RR en ExT mi_X8_digest evL 36 [(0, .ref (ad en 21 0 0)), (1, .long v1)] [] σ (k v1 v3 σ)) : ∀ (n : Nat) (v1 : Int64) (v3 : Int32) (σ : Sg), RR en ExT mi_X8_digest evL 11 [(0, .ref (ad en 21 0 0)), (1, .long v1), (3, .int v3)] [] σ (L_X8_digest_11 N k  n v1 v3 σ) := by
  intro n
  induction n with
  | zero => intro v1 v3 σ; exact r_none
  | succ n ih =>
    intro v1 v3 σ
    rw [L_X8_digest_11_s]
    refine r_iload_n (pc := 11) 2 dX8_digest_11 rfl rfl ?_
    refine r_bipush (pc := 12) dX8_digest_12 kc_bipush_11 ?_
    refine r_icmp_ge (pc := 14) 36 dX8_digest_14 (by decide) (fun h1 => ?_) (fun h1 => ?_)
    · exact r_sub [0, 1] rfl (hk v1 v3 σ)
    · refine r_ldc2 (pc := 17) lj_RX8_282 dX8_digest_17 ?_
      refine r_lload_n (pc := 20) 1 dX8_digest_20 rfl rfl ?_
      refine r_lmul (pc := 21) dX8_digest_21 ?_
      refine r_aload_n (pc := 22) 0 dX8_digest_22 rfl rfl ?_
      refine r_iload_n (pc := 23) 2 dX8_digest_23 rfl rfl ?_
      refine k_X8_countOf (pc := 24) lm_RX8_277  (by decide) (Nat.le_of_ble_eq_true rfl) dX8_digest_24 (fun w1 h2 => ?_)
      refine r_i2l (pc := 27) dX8_digest_27 ?_
      refine r_ladd (pc := 28) dX8_digest_28 ?_
      refine r_lstore_n (pc := 29) [(1, .long (((31 : Int64) * v1) + w1.1.toInt64)), (0, .ref (ad en 21 0 0)), (3, .int v3)] dX8_digest_29 rfl (by decide) rfl ?_
      refine r_iinc (pc := 30) 2 [(3, .int (v3 + (1 : Int32))), (1, .long (((31 : Int64) * v1) + w1.1.toInt64)), (0, .ref (ad en 21 0 0))] dX8_digest_30 rfl rfl (by decide) rfl ?_
      refine r_goto (pc := 33) 11 dX8_digest_33 (by decide) ?_
      exact r_sub [2, 1, 0] rfl (ih (((31 : Int64) * v1) + w1.1.toInt64) (v3 + (1 : Int32)) w1.2)
set_option maxHeartbeats 4000000 in
theorem RL_X8_digest_49 (en : En) (N : Nat) {k : Int64 → Int32 → Sg → Option (Int64 × Sg)} (a3 : Int32)  (hk : ∀ (v1 : Int64) (v4 : Int32) (σ : Sg), RR en ExT mi_X8_digest evL 77 [(0, .ref (ad en 21 0 0)), (1, .long v1), (3, .int a3)] [] σ (k v1 v4 σ)) : ∀ (n : Nat) (v1 : Int64) (v4 : Int32) (σ : Sg), RR en ExT mi_X8_digest evL 49 [(0, .ref (ad en 21 0 0)), (1, .long v1), (3, .int a3), (4, .int v4)] [] σ (L_X8_digest_49 N k a3 n v1 v4 σ) := by
  intro n
  induction n with
  | zero => intro v1 v4 σ; exact r_none
  | succ n ih =>
    intro v1 v4 σ
    rw [L_X8_digest_49_s]
    refine r_iload (pc := 49) 3 dX8_digest_49 rfl ?_
    refine r_bipush (pc := 51) dX8_digest_51 kc_bipush_8 ?_
    refine r_icmp_ge (pc := 53) 77 dX8_digest_53 (by decide) (fun h4 => ?_) (fun h4 => ?_)
    · exact r_sub [0, 1, 2] rfl (hk v1 v4 σ)
    · refine r_ldc2 (pc := 56) lj_RX8_282 dX8_digest_56 ?_
      refine r_lload_n (pc := 59) 1 dX8_digest_59 rfl rfl ?_
      refine r_lmul (pc := 60) dX8_digest_60 ?_
      refine r_aload_n (pc := 61) 0 dX8_digest_61 rfl rfl ?_
      refine r_iload_n (pc := 62) 2 dX8_digest_62 rfl rfl ?_
      refine r_iload (pc := 63) 3 dX8_digest_63 rfl ?_
      refine k_X8_ofPane (pc := 65) lm_RX8_191  (by decide) (Nat.le_of_ble_eq_true rfl) dX8_digest_65 (fun w3 h5 => ?_)
      refine r_i2l (pc := 68) dX8_digest_68 ?_
      refine r_ladd (pc := 69) dX8_digest_69 ?_
      refine r_lstore_n (pc := 70) [(1, .long (((31 : Int64) * v1) + w3.1.toInt64)), (0, .ref (ad en 21 0 0)), (3, .int a3), (4, .int v4)] dX8_digest_70 rfl (by decide) rfl ?_
      refine r_iinc (pc := 71) 3 [(4, .int (v4 + (1 : Int32))), (1, .long (((31 : Int64) * v1) + w3.1.toInt64)), (0, .ref (ad en 21 0 0)), (3, .int a3)] dX8_digest_71 rfl rfl (by decide) rfl ?_
      refine r_goto (pc := 74) 49 dX8_digest_74 (by decide) ?_
      exact r_sub [2, 1, 3, 0] rfl (ih (((31 : Int64) * v1) + w3.1.toInt64) (v4 + (1 : Int32)) w3.2)
set_option maxHeartbeats 4000000 in
theorem RL_X8_digest_38 (en : En) (N : Nat) {k : Int64 → Int32 → Sg → Option (Int64 × Sg)}   (hk : ∀ (v1 : Int64) (v3 : Int32) (σ : Sg), RR en ExT mi_X8_digest evL 83 [(0, .ref (ad en 21 0 0)), (1, .long v1)] [] σ (k v1 v3 σ)) : ∀ (n : Nat) (v1 : Int64) (v3 : Int32) (σ : Sg), RR en ExT mi_X8_digest evL 38 [(0, .ref (ad en 21 0 0)), (1, .long v1), (3, .int v3)] [] σ (L_X8_digest_38 N k  n v1 v3 σ) := by
  intro n
  induction n with
  | zero => intro v1 v3 σ; exact r_none
  | succ n ih =>
    intro v1 v3 σ
    rw [L_X8_digest_38_s]
    refine r_iload_n (pc := 38) 2 dX8_digest_38 rfl rfl ?_
    refine r_aload_n (pc := 39) 0 dX8_digest_39 rfl rfl ?_
    refine g_X8_panes (pc := 40)  lf_RX8_143 dX8_digest_40 ?_
    refine r_icmp_ge (pc := 43) 83 dX8_digest_43 (by decide) (fun h3 => ?_) (fun h3 => ?_)
    · exact r_sub [0, 1] rfl (hk v1 v3 σ)
    · refine r_iconst (pc := 46) dX8_digest_46 kc_iconst_0 ?_
      refine r_istore (pc := 47) [(4, .int (0 : Int32)), (0, .ref (ad en 21 0 0)), (1, .long v1), (3, .int v3)] dX8_digest_47 (by decide) rfl ?_
      refine r_sub [1, 2, 3, 0] rfl (RL_X8_digest_49 en N v3  (fun v1_4 v4_4 σ_4 => ?_) N v1 (0 : Int32) σ)
      refine r_iinc (pc := 77) 2 [(3, .int (v3 + (1 : Int32))), (0, .ref (ad en 21 0 0)), (1, .long v1_4)] dX8_digest_77 rfl rfl (by decide) rfl ?_
      refine r_goto (pc := 80) 38 dX8_digest_80 (by decide) ?_
      exact r_sub [1, 2, 0] rfl (ih v1_4 (v3 + (1 : Int32)) σ_4)
set_option maxHeartbeats 4000000 in
theorem RL_X8_digest_85 (en : En) (N : Nat) {k : Int64 → Int32 → Option (Int64 × Sg)} (σ : Sg)  (hk : ∀ (v1 : Int64) (v3 : Int32), RR en ExT mi_X8_digest evL 110 [(0, .ref (ad en 21 0 0)), (1, .long v1)] [] σ (k v1 v3)) : ∀ (n : Nat) (v1 : Int64) (v3 : Int32), RR en ExT mi_X8_digest evL 85 [(0, .ref (ad en 21 0 0)), (1, .long v1), (3, .int v3)] [] σ (L_X8_digest_85 N k σ n v1 v3) := by
  intro n
  induction n with
  | zero => intro v1 v3; exact r_none
  | succ n ih =>
    intro v1 v3
    rw [L_X8_digest_85_s]
    refine r_iload_n (pc := 85) 2 dX8_digest_85 rfl rfl ?_
    refine r_iconst (pc := 86) dX8_digest_86 kc_iconst_3 ?_
    refine r_icmp_ge (pc := 87) 110 dX8_digest_87 (by decide) (fun h6 => ?_) (fun h6 => ?_)
    · exact r_sub [0, 1] rfl (hk v1 v3)
    · refine r_ldc2 (pc := 90) lj_RX8_282 dX8_digest_90 ?_
      refine r_lload_n (pc := 93) 1 dX8_digest_93 rfl rfl ?_
      refine r_lmul (pc := 94) dX8_digest_94 ?_
      refine r_aload_n (pc := 95) 0 dX8_digest_95 rfl rfl ?_
      refine g_X8_keptDeeds (pc := 96)  lf_RX8_46 dX8_digest_96 ?_
      refine r_iload_n (pc := 99) 2 dX8_digest_99 rfl rfl ?_
      refine r_iald (pc := 100) (n := 3) o22_19 rfl dX8_digest_100 (fun h7 => ?_)
      refine r_i2l (pc := 101) dX8_digest_101 ?_
      refine r_ladd (pc := 102) dX8_digest_102 ?_
      refine r_lstore_n (pc := 103) [(1, .long (((31 : Int64) * v1) + ((rI σ 22 19 0 v3.toNatClampNeg).toInt64))), (0, .ref (ad en 21 0 0)), (3, .int v3)] dX8_digest_103 rfl (by decide) rfl ?_
      refine r_iinc (pc := 104) 2 [(3, .int (v3 + (1 : Int32))), (1, .long (((31 : Int64) * v1) + ((rI σ 22 19 0 v3.toNatClampNeg).toInt64))), (0, .ref (ad en 21 0 0))] dX8_digest_104 rfl rfl (by decide) rfl ?_
      refine r_goto (pc := 107) 85 dX8_digest_107 (by decide) ?_
      exact r_sub [2, 1, 0] rfl (ih (((31 : Int64) * v1) + ((rI σ 22 19 0 v3.toNatClampNeg).toInt64)) (v3 + (1 : Int32)))
set_option maxHeartbeats 4000000 in
theorem RL_X8_digest_135 (en : En) (N : Nat) {k : Int64 → Int32 → Option (Int64 × Sg)} (a3 : Int32) (σ : Sg)  (hk : ∀ (v1 : Int64) (v4 : Int32), RR en ExT mi_X8_digest evL 172 [(0, .ref (ad en 21 0 0)), (1, .long v1), (3, .int a3)] [] σ (k v1 v4)) : ∀ (n : Nat) (v1 : Int64) (v4 : Int32), RR en ExT mi_X8_digest evL 135 [(0, .ref (ad en 21 0 0)), (1, .long v1), (3, .int a3), (4, .int v4)] [] σ (L_X8_digest_135 N k a3 σ n v1 v4) := by
  intro n
  induction n with
  | zero => intro v1 v4; exact r_none
  | succ n ih =>
    intro v1 v4
    rw [L_X8_digest_135_s]
    refine r_iload (pc := 135) 3 dX8_digest_135 rfl ?_
    refine r_aload_n (pc := 137) 0 dX8_digest_137 rfl rfl ?_
    refine g_X8_rowSize (pc := 138)  lf_RX8_16 dX8_digest_138 ?_
    refine r_iload_n (pc := 141) 2 dX8_digest_141 rfl rfl ?_
    refine r_iald (pc := 142) (n := 6) o22_7 rfl dX8_digest_142 (fun h10 => ?_)
    refine r_icmp_ge (pc := 143) 172 dX8_digest_143 (by decide) (fun h11 => ?_) (fun h11 => ?_)
    · exact r_sub [0, 1, 2] rfl (hk v1 v4)
    · refine r_ldc2 (pc := 146) lj_RX8_282 dX8_digest_146 ?_
      refine r_lload_n (pc := 149) 1 dX8_digest_149 rfl rfl ?_
      refine r_lmul (pc := 150) dX8_digest_150 ?_
      refine r_aload_n (pc := 151) 0 dX8_digest_151 rfl rfl ?_
      refine g_X8_rows (pc := 152)  lf_RX8_13 dX8_digest_152 ?_
      refine r_bipush (pc := 155) dX8_digest_155 kc_bipush_40 ?_
      refine r_iload_n (pc := 157) 2 dX8_digest_157 rfl rfl ?_
      refine r_imul (pc := 158) dX8_digest_158 ?_
      refine r_iload (pc := 159) 3 dX8_digest_159 rfl ?_
      refine r_iadd (pc := 161) dX8_digest_161 ?_
      refine r_iald (pc := 162) (n := 240) o22_6 rfl dX8_digest_162 (fun h12 => ?_)
      refine r_i2l (pc := 163) dX8_digest_163 ?_
      refine r_ladd (pc := 164) dX8_digest_164 ?_
      refine r_lstore_n (pc := 165) [(1, .long (((31 : Int64) * v1) + ((rI σ 22 6 0 (((40 : Int32) * a3) + v4).toNatClampNeg).toInt64))), (0, .ref (ad en 21 0 0)), (3, .int a3), (4, .int v4)] dX8_digest_165 rfl (by decide) rfl ?_
      refine r_iinc (pc := 166) 3 [(4, .int (v4 + (1 : Int32))), (1, .long (((31 : Int64) * v1) + ((rI σ 22 6 0 (((40 : Int32) * a3) + v4).toNatClampNeg).toInt64))), (0, .ref (ad en 21 0 0)), (3, .int a3)] dX8_digest_166 rfl rfl (by decide) rfl ?_
      refine r_goto (pc := 169) 135 dX8_digest_169 (by decide) ?_
      exact r_sub [2, 1, 3, 0] rfl (ih (((31 : Int64) * v1) + ((rI σ 22 6 0 (((40 : Int32) * a3) + v4).toNatClampNeg).toInt64)) (v4 + (1 : Int32)))
set_option maxHeartbeats 4000000 in
theorem RL_X8_digest_112 (en : En) (N : Nat) {k : Int64 → Int32 → Option (Int64 × Sg)} (σ : Sg)  (hk : ∀ (v1 : Int64) (v3 : Int32), RR en ExT mi_X8_digest evL 178 [(0, .ref (ad en 21 0 0)), (1, .long v1)] [] σ (k v1 v3)) : ∀ (n : Nat) (v1 : Int64) (v3 : Int32), RR en ExT mi_X8_digest evL 112 [(0, .ref (ad en 21 0 0)), (1, .long v1), (3, .int v3)] [] σ (L_X8_digest_112 N k σ n v1 v3) := by
  intro n
  induction n with
  | zero => intro v1 v3; exact r_none
  | succ n ih =>
    intro v1 v3
    rw [L_X8_digest_112_s]
    refine r_iload_n (pc := 112) 2 dX8_digest_112 rfl rfl ?_
    refine r_bipush (pc := 113) dX8_digest_113 kc_bipush_6 ?_
    refine r_icmp_ge (pc := 115) 178 dX8_digest_115 (by decide) (fun h8 => ?_) (fun h8 => ?_)
    · exact r_sub [0, 1] rfl (hk v1 v3)
    · refine r_ldc2 (pc := 118) lj_RX8_282 dX8_digest_118 ?_
      refine r_lload_n (pc := 121) 1 dX8_digest_121 rfl rfl ?_
      refine r_lmul (pc := 122) dX8_digest_122 ?_
      refine r_aload_n (pc := 123) 0 dX8_digest_123 rfl rfl ?_
      refine g_X8_rowSize (pc := 124)  lf_RX8_16 dX8_digest_124 ?_
      refine r_iload_n (pc := 127) 2 dX8_digest_127 rfl rfl ?_
      refine r_iald (pc := 128) (n := 6) o22_7 rfl dX8_digest_128 (fun h9 => ?_)
      refine r_i2l (pc := 129) dX8_digest_129 ?_
      refine r_ladd (pc := 130) dX8_digest_130 ?_
      refine r_lstore_n (pc := 131) [(1, .long (((31 : Int64) * v1) + ((rI σ 22 7 0 v3.toNatClampNeg).toInt64))), (0, .ref (ad en 21 0 0)), (3, .int v3)] dX8_digest_131 rfl (by decide) rfl ?_
      refine r_iconst (pc := 132) dX8_digest_132 kc_iconst_0 ?_
      refine r_istore (pc := 133) [(4, .int (0 : Int32)), (1, .long (((31 : Int64) * v1) + ((rI σ 22 7 0 v3.toNatClampNeg).toInt64))), (0, .ref (ad en 21 0 0)), (3, .int v3)] dX8_digest_133 (by decide) rfl ?_
      refine r_sub [2, 1, 3, 0] rfl (RL_X8_digest_135 en N v3 σ  (fun v1_7 v4_7 => ?_) N (((31 : Int64) * v1) + ((rI σ 22 7 0 v3.toNatClampNeg).toInt64)) (0 : Int32))
      refine r_iinc (pc := 172) 2 [(3, .int (v3 + (1 : Int32))), (0, .ref (ad en 21 0 0)), (1, .long v1_7)] dX8_digest_172 rfl rfl (by decide) rfl ?_
      refine r_goto (pc := 175) 112 dX8_digest_175 (by decide) ?_
      exact r_sub [1, 2, 0] rfl (ih v1_7 (v3 + (1 : Int32)))
set_option maxHeartbeats 4000000 in
theorem RL_X8_digest_202 (en : En) (N : Nat) {k : Int64 → Int32 → Option (Int64 × Sg)} (a3 : Int32) (σ : Sg)  (hk : ∀ (v1 : Int64) (v4 : Int32), RR en ExT mi_X8_digest evL 239 [(0, .ref (ad en 21 0 0)), (1, .long v1), (3, .int a3)] [] σ (k v1 v4)) : ∀ (n : Nat) (v1 : Int64) (v4 : Int32), RR en ExT mi_X8_digest evL 202 [(0, .ref (ad en 21 0 0)), (1, .long v1), (3, .int a3), (4, .int v4)] [] σ (L_X8_digest_202 N k a3 σ n v1 v4) := by
  intro n
  induction n with
  | zero => intro v1 v4; exact r_none
  | succ n ih =>
    intro v1 v4
    rw [L_X8_digest_202_s]
    refine r_iload (pc := 202) 3 dX8_digest_202 rfl ?_
    refine r_aload_n (pc := 204) 0 dX8_digest_204 rfl rfl ?_
    refine g_X8_byteSize (pc := 205)  lf_RX8_22 dX8_digest_205 ?_
    refine r_iload_n (pc := 208) 2 dX8_digest_208 rfl rfl ?_
    refine r_iald (pc := 209) (n := 4) o22_9 rfl dX8_digest_209 (fun h15 => ?_)
    refine r_icmp_ge (pc := 210) 239 dX8_digest_210 (by decide) (fun h16 => ?_) (fun h16 => ?_)
    · exact r_sub [0, 1, 2] rfl (hk v1 v4)
    · refine r_ldc2 (pc := 213) lj_RX8_282 dX8_digest_213 ?_
      refine r_lload_n (pc := 216) 1 dX8_digest_216 rfl rfl ?_
      refine r_lmul (pc := 217) dX8_digest_217 ?_
      refine r_aload_n (pc := 218) 0 dX8_digest_218 rfl rfl ?_
      refine g_X8_bytes (pc := 219)  lf_RX8_19 dX8_digest_219 ?_
      refine r_bipush (pc := 222) dX8_digest_222 kc_bipush_60 ?_
      refine r_iload_n (pc := 224) 2 dX8_digest_224 rfl rfl ?_
      refine r_imul (pc := 225) dX8_digest_225 ?_
      refine r_iload (pc := 226) 3 dX8_digest_226 rfl ?_
      refine r_iadd (pc := 228) dX8_digest_228 ?_
      refine r_iald (pc := 229) (n := 240) o22_8 rfl dX8_digest_229 (fun h17 => ?_)
      refine r_i2l (pc := 230) dX8_digest_230 ?_
      refine r_ladd (pc := 231) dX8_digest_231 ?_
      refine r_lstore_n (pc := 232) [(1, .long (((31 : Int64) * v1) + ((rI σ 22 8 0 (((60 : Int32) * a3) + v4).toNatClampNeg).toInt64))), (0, .ref (ad en 21 0 0)), (3, .int a3), (4, .int v4)] dX8_digest_232 rfl (by decide) rfl ?_
      refine r_iinc (pc := 233) 3 [(4, .int (v4 + (1 : Int32))), (1, .long (((31 : Int64) * v1) + ((rI σ 22 8 0 (((60 : Int32) * a3) + v4).toNatClampNeg).toInt64))), (0, .ref (ad en 21 0 0)), (3, .int a3)] dX8_digest_233 rfl rfl (by decide) rfl ?_
      refine r_goto (pc := 236) 202 dX8_digest_236 (by decide) ?_
      exact r_sub [2, 1, 3, 0] rfl (ih (((31 : Int64) * v1) + ((rI σ 22 8 0 (((60 : Int32) * a3) + v4).toNatClampNeg).toInt64)) (v4 + (1 : Int32)))
set_option maxHeartbeats 4000000 in
theorem RL_X8_digest_180 (en : En) (N : Nat) {k : Int64 → Int32 → Option (Int64 × Sg)} (σ : Sg)  (hk : ∀ (v1 : Int64) (v3 : Int32), RR en ExT mi_X8_digest evL 245 [(1, .long v1)] [] σ (k v1 v3)) : ∀ (n : Nat) (v1 : Int64) (v3 : Int32), RR en ExT mi_X8_digest evL 180 [(0, .ref (ad en 21 0 0)), (1, .long v1), (3, .int v3)] [] σ (L_X8_digest_180 N k σ n v1 v3) := by
  intro n
  induction n with
  | zero => intro v1 v3; exact r_none
  | succ n ih =>
    intro v1 v3
    rw [L_X8_digest_180_s]
    refine r_iload_n (pc := 180) 2 dX8_digest_180 rfl rfl ?_
    refine r_iconst (pc := 181) dX8_digest_181 kc_iconst_4 ?_
    refine r_icmp_ge (pc := 182) 245 dX8_digest_182 (by decide) (fun h13 => ?_) (fun h13 => ?_)
    · exact r_sub [1] rfl (hk v1 v3)
    · refine r_ldc2 (pc := 185) lj_RX8_282 dX8_digest_185 ?_
      refine r_lload_n (pc := 188) 1 dX8_digest_188 rfl rfl ?_
      refine r_lmul (pc := 189) dX8_digest_189 ?_
      refine r_aload_n (pc := 190) 0 dX8_digest_190 rfl rfl ?_
      refine g_X8_byteSize (pc := 191)  lf_RX8_22 dX8_digest_191 ?_
      refine r_iload_n (pc := 194) 2 dX8_digest_194 rfl rfl ?_
      refine r_iald (pc := 195) (n := 4) o22_9 rfl dX8_digest_195 (fun h14 => ?_)
      refine r_i2l (pc := 196) dX8_digest_196 ?_
      refine r_ladd (pc := 197) dX8_digest_197 ?_
      refine r_lstore_n (pc := 198) [(1, .long (((31 : Int64) * v1) + ((rI σ 22 9 0 v3.toNatClampNeg).toInt64))), (0, .ref (ad en 21 0 0)), (3, .int v3)] dX8_digest_198 rfl (by decide) rfl ?_
      refine r_iconst (pc := 199) dX8_digest_199 kc_iconst_0 ?_
      refine r_istore (pc := 200) [(4, .int (0 : Int32)), (1, .long (((31 : Int64) * v1) + ((rI σ 22 9 0 v3.toNatClampNeg).toInt64))), (0, .ref (ad en 21 0 0)), (3, .int v3)] dX8_digest_200 (by decide) rfl ?_
      refine r_sub [2, 1, 3, 0] rfl (RL_X8_digest_202 en N v3 σ  (fun v1_9 v4_9 => ?_) N (((31 : Int64) * v1) + ((rI σ 22 9 0 v3.toNatClampNeg).toInt64)) (0 : Int32))
      refine r_iinc (pc := 239) 2 [(3, .int (v3 + (1 : Int32))), (0, .ref (ad en 21 0 0)), (1, .long v1_9)] dX8_digest_239 rfl rfl (by decide) rfl ?_
      refine r_goto (pc := 242) 180 dX8_digest_242 (by decide) ?_
      exact r_sub [1, 2, 0] rfl (ih v1_9 (v3 + (1 : Int32)))
set_option maxHeartbeats 4000000 in
theorem R_X8_digest (en : En) (N : Nat)  (σ : Sg) : RR en ExT mi_X8_digest evL 0 [(0, .ref (ad en 21 0 0))] [] σ (f_X8_digest N σ) := by
  unfold f_X8_digest
  refine r_aload_n (pc := 0) 0 dX8_digest_0 rfl rfl ?_
  refine r_iconst (pc := 1) dX8_digest_1 kc_iconst_0 ?_
  refine p_X8_thrown (pc := 2)  lf_RX8_81 dX8_digest_2 ?_
  refine r_ldc2 (pc := 5) lj_RX8_280 dX8_digest_5 ?_
  refine r_lstore_n (pc := 8) [(1, .long (17 : Int64)), (0, .ref (ad en 21 0 0))] dX8_digest_8 rfl (by decide) rfl ?_
  refine r_iconst (pc := 9) dX8_digest_9 kc_iconst_0 ?_
  refine r_istore_n (pc := 10) [(3, .int (0 : Int32)), (1, .long (17 : Int64)), (0, .ref (ad en 21 0 0))] dX8_digest_10 rfl (by decide) rfl ?_
  refine r_sub [2, 1, 0] rfl (RL_X8_digest_11 en N   (fun v1_2 v3_2 σ_2 => ?_) N (17 : Int64) (0 : Int32) (uI σ 21 0 0 0 (0 : Int32)))
  refine r_iconst (pc := 36) dX8_digest_36 kc_iconst_0 ?_
  refine r_istore_n (pc := 37) [(3, .int (0 : Int32)), (0, .ref (ad en 21 0 0)), (1, .long v1_2)] dX8_digest_37 rfl (by decide) rfl ?_
  refine r_sub [1, 2, 0] rfl (RL_X8_digest_38 en N   (fun v1_5 v3_5 σ_5 => ?_) N v1_2 (0 : Int32) σ_2)
  refine r_iconst (pc := 83) dX8_digest_83 kc_iconst_0 ?_
  refine r_istore_n (pc := 84) [(3, .int (0 : Int32)), (0, .ref (ad en 21 0 0)), (1, .long v1_5)] dX8_digest_84 rfl (by decide) rfl ?_
  refine r_sub [1, 2, 0] rfl (RL_X8_digest_85 en N σ_5  (fun v1_6 v3_6 => ?_) N v1_5 (0 : Int32))
  refine r_iconst (pc := 110) dX8_digest_110 kc_iconst_0 ?_
  refine r_istore_n (pc := 111) [(3, .int (0 : Int32)), (0, .ref (ad en 21 0 0)), (1, .long v1_6)] dX8_digest_111 rfl (by decide) rfl ?_
  refine r_sub [1, 2, 0] rfl (RL_X8_digest_112 en N σ_5  (fun v1_8 v3_8 => ?_) N v1_6 (0 : Int32))
  refine r_iconst (pc := 178) dX8_digest_178 kc_iconst_0 ?_
  refine r_istore_n (pc := 179) [(3, .int (0 : Int32)), (0, .ref (ad en 21 0 0)), (1, .long v1_8)] dX8_digest_179 rfl (by decide) rfl ?_
  refine r_sub [1, 2, 0] rfl (RL_X8_digest_180 en N σ_5  (fun v1_10 v3_10 => ?_) N v1_8 (0 : Int32))
  refine r_lload_n (pc := 245) 0 dX8_digest_245 rfl rfl ?_
  exact r_lret (pc := 246) rfl dX8_digest_246
theorem ok_X8_digest : yOk yX8_digest cX8_digest 5 (some .long) := ⟨in_lwG (by decide +kernel) rfl, in_lwG (by decide +kernel) rfl, by decide, by decide, by decide⟩
theorem k_X8_digest {en : En} {Ex : (Nat → Prop) → State → Prop} {mi : Mi} {α : Type} {ev : α → Option Value × Sg} {pc index : Nat} {lv : List (Nat × Value)} {rest : List Value} {σ : Sg} {N : Nat} {k : (Int64 × Sg) → Option α}  (hlink : Cond.methodLink mi.1 index yX8_digest ∈ lwG) (hroom : 7 + 1 ≤ mi.2.2.2.2) (hcat : (rest.map fun v => v.category).sum ≤ 8) (hd : decode mi.2.1 pc = .ok (.invokevirtual index, 3))  (h : ∀ w : Int64 × Sg, f_X8_digest N  σ = some w → RR en Ex mi ev (pc + 3) lv (.long w.1 :: rest) w.2 (k w)) : RR en Ex mi ev pc lv (.ref (ad en 21 0 0) :: rest) σ ((f_X8_digest N  σ).bind k) :=
  r_callV (n := 0) [] ok_X8_digest hlink (in_lwG (by decide +kernel) rfl) (in_lwG (by decide +kernel) rfl) (by decide +kernel) rfl hroom (by decide) o21 rfl rfl hcat (R_X8_digest en N   σ) (Nat.le_of_ble_eq_true rfl) hd h
set_option maxHeartbeats 4000000 in
theorem RL_X8_placeIf_2 (en : En) (N : Nat) {k : Int32 → Option (Int32 × Sg)} (a1 : Int32) (σ : Sg)  (hk : ∀ (v2 : Int32), RR en ExT mi_X8_placeIf evI 21 [(2, .int v2)] [] σ (k v2)) : ∀ (n : Nat) (v2 : Int32), RR en ExT mi_X8_placeIf evI 2 [(0, .ref (ad en 21 0 0)), (1, .int a1), (2, .int v2)] [] σ (L_X8_placeIf_2 N k a1 σ n v2) := by
  intro n
  induction n with
  | zero => intro v2; exact r_none
  | succ n ih =>
    intro v2
    rw [L_X8_placeIf_2_s]
    refine r_aload_n (pc := 2) 0 dX8_placeIf_2 rfl rfl ?_
    refine g_X8_w (pc := 3)  lf_RX8_52 dX8_placeIf_3 ?_
    refine r_bipush (pc := 6) dX8_placeIf_6 kc_bipush_14 ?_
    refine r_iload_n (pc := 8) 2 dX8_placeIf_8 rfl rfl ?_
    refine r_iadd (pc := 9) dX8_placeIf_9 ?_
    refine r_iald (pc := 10) (n := 22) o22_21 rfl dX8_placeIf_10 (fun h1 => ?_)
    refine r_iload_n (pc := 11) 1 dX8_placeIf_11 rfl rfl ?_
    refine r_icmp_eq (pc := 12) 21 dX8_placeIf_12 (by decide) (fun h2 => ?_) (fun h2 => ?_)
    · exact r_sub [2] rfl (hk v2)
    · refine r_iinc (pc := 15) 2 [(2, .int (v2 + (1 : Int32))), (0, .ref (ad en 21 0 0)), (1, .int a1)] dX8_placeIf_15 rfl rfl (by decide) rfl ?_
      refine r_goto (pc := 18) 2 dX8_placeIf_18 (by decide) ?_
      exact r_sub [1, 2, 0] rfl (ih (v2 + (1 : Int32)))
set_option maxHeartbeats 4000000 in
theorem R_X8_placeIf (en : En) (N : Nat) (p0 : Int32)  (σ : Sg) : RR en ExT mi_X8_placeIf evI 0 [(0, .ref (ad en 21 0 0)), (1, .int p0)] [] σ (f_X8_placeIf N p0 σ) := by
  unfold f_X8_placeIf
  refine r_iconst (pc := 0) dX8_placeIf_0 kc_iconst_0 ?_
  refine r_istore_n (pc := 1) [(2, .int (0 : Int32)), (0, .ref (ad en 21 0 0)), (1, .int p0)] dX8_placeIf_1 rfl (by decide) rfl ?_
  refine r_sub [1, 2, 0] rfl (RL_X8_placeIf_2 en N p0 σ  (fun v2_1 => ?_) N (0 : Int32))
  refine r_iload_n (pc := 21) 0 dX8_placeIf_21 rfl rfl ?_
  exact r_iret (pc := 22) rfl dX8_placeIf_22
theorem ok_X8_placeIf : yOk yX8_placeIf cX8_placeIf 3 (some .int) := ⟨in_lwG (by decide +kernel) rfl, in_lwG (by decide +kernel) rfl, by decide, by decide, by decide⟩
theorem k_X8_placeIf {en : En} {Ex : (Nat → Prop) → State → Prop} {mi : Mi} {α : Type} {ev : α → Option Value × Sg} {pc index : Nat} {lv : List (Nat × Value)} {rest : List Value} {σ : Sg} {N : Nat} {k : (Int32 × Sg) → Option α} {p0 : Int32} (hlink : Cond.methodLink mi.1 index yX8_placeIf ∈ lwG) (hroom : 1 + 1 ≤ mi.2.2.2.2) (hcat : (rest.map fun v => v.category).sum ≤ 8) (hd : decode mi.2.1 pc = .ok (.invokevirtual index, 3))  (h : ∀ w : Int32 × Sg, f_X8_placeIf N p0 σ = some w → RR en Ex mi ev (pc + 3) lv (.int w.1 :: rest) w.2 (k w)) : RR en Ex mi ev pc lv (.int p0 :: .ref (ad en 21 0 0) :: rest) σ ((f_X8_placeIf N p0 σ).bind k) :=
  r_callV (n := 1) [.int p0] ok_X8_placeIf hlink (in_lwG (by decide +kernel) rfl) (in_lwG (by decide +kernel) rfl) (by decide +kernel) rfl hroom (by decide) o21 rfl rfl hcat (R_X8_placeIf en N p0  σ) (Nat.le_of_ble_eq_true rfl) hd h
set_option maxHeartbeats 4000000 in
theorem RL_X8_duel_37 (en : En) (N : Nat) {k : Int32 → Int32 → Option (Int32 × Sg)} (a1 : Int32) (a2 : Int32) (σ : Sg)  (hk : ∀ (v3 : Int32) (v4 : Int32), RR en ExT mi_X8_duel evI 56 [(0, .ref (ad en 21 0 0)), (1, .int a1), (2, .int a2), (3, .int v3)] [] σ (k v3 v4)) : ∀ (n : Nat) (v3 : Int32) (v4 : Int32), RR en ExT mi_X8_duel evI 37 [(0, .ref (ad en 21 0 0)), (1, .int a1), (2, .int a2), (3, .int v3), (4, .int v4)] [] σ (L_X8_duel_37 N k a1 a2 σ n v3 v4) := by
  intro n
  induction n with
  | zero => intro v3 v4; exact r_none
  | succ n ih =>
    intro v3 v4
    rw [L_X8_duel_37_s]
    refine r_iload (pc := 37) 4 dX8_duel_37 rfl ?_
    refine r_iload_n (pc := 39) 2 dX8_duel_39 rfl rfl ?_
    refine r_icmp_ge (pc := 40) 56 dX8_duel_40 (by decide) (fun h7 => ?_) (fun h7 => ?_)
    · exact r_sub [0, 1, 2, 3] rfl (hk v3 v4)
    · refine r_iload_n (pc := 43) 3 dX8_duel_43 rfl rfl ?_
      refine r_aload_n (pc := 44) 0 dX8_duel_44 rfl rfl ?_
      refine g_X8_panes (pc := 45)  lf_RX8_143 dX8_duel_45 ?_
      refine r_imul (pc := 48) dX8_duel_48 ?_
      refine r_istore_n (pc := 49) [(3, .int (v3 * (rI σ 21 0 0 10))), (0, .ref (ad en 21 0 0)), (1, .int a1), (2, .int a2), (4, .int v4)] dX8_duel_49 rfl (by decide) rfl ?_
      refine r_iinc (pc := 50) 4 [(4, .int (v4 + (1 : Int32))), (3, .int (v3 * (rI σ 21 0 0 10))), (0, .ref (ad en 21 0 0)), (1, .int a1), (2, .int a2)] dX8_duel_50 rfl rfl (by decide) rfl ?_
      refine r_goto (pc := 53) 37 dX8_duel_53 (by decide) ?_
      exact r_sub [2, 3, 4, 1, 0] rfl (ih (v3 * (rI σ 21 0 0 10)) (v4 + (1 : Int32)))
set_option maxHeartbeats 4000000 in
theorem RL_X8_duel_68 (en : En) (N : Nat) {k : Int32 → Sg → Option (Int32 × Sg)} (a1 : Int32) (a2 : Int32) (a3 : Int32) (a4 : Int32)  (hk : ∀ (v5 : Int32) (σ : Sg), RR en ExT mi_X8_duel evI 103 [(0, .ref (ad en 21 0 0)), (1, .int a1), (2, .int a2), (3, .int a3), (4, .int a4)] [] σ (k v5 σ)) : ∀ (n : Nat) (v5 : Int32) (σ : Sg), RR en ExT mi_X8_duel evI 68 [(0, .ref (ad en 21 0 0)), (1, .int a1), (2, .int a2), (3, .int a3), (4, .int a4), (5, .int v5)] [] σ (L_X8_duel_68 N k a1 a2 a3 a4 n v5 σ) := by
  intro n
  induction n with
  | zero => intro v5 σ; exact r_none
  | succ n ih =>
    intro v5 σ
    rw [L_X8_duel_68_s]
    refine r_iload (pc := 68) 5 dX8_duel_68 rfl ?_
    refine r_aload_n (pc := 70) 0 dX8_duel_70 rfl rfl ?_
    refine g_X8_panes (pc := 71)  lf_RX8_143 dX8_duel_71 ?_
    refine r_icmp_ge (pc := 74) 103 dX8_duel_74 (by decide) (fun h9 => ?_) (fun h9 => ?_)
    · exact r_sub [0, 1, 2, 3, 4] rfl (hk v5 σ)
    · refine r_aload_n (pc := 77) 0 dX8_duel_77 rfl rfl ?_
      refine g_X8_w (pc := 78)  lf_RX8_52 dX8_duel_78 ?_
      refine r_bipush (pc := 81) dX8_duel_81 kc_bipush_14 ?_
      refine r_iload (pc := 83) 5 dX8_duel_83 rfl ?_
      refine r_iadd (pc := 85) dX8_duel_85 ?_
      refine r_aload_n (pc := 86) 0 dX8_duel_86 rfl rfl ?_
      refine g_X8_s (pc := 87)  lf_RX8_34 dX8_duel_87 ?_
      refine r_bipush (pc := 90) dX8_duel_90 kc_bipush_14 ?_
      refine r_iload (pc := 92) 5 dX8_duel_92 rfl ?_
      refine r_iadd (pc := 94) dX8_duel_94 ?_
      refine r_iald (pc := 95) (n := 22) o22_14 rfl dX8_duel_95 (fun h10 => ?_)
      refine r_iast (pc := 96) (n := 22) o22_21 rfl rfl dX8_duel_96 (fun h11 => ?_)
      refine r_iinc (pc := 97) 5 [(5, .int (v5 + (1 : Int32))), (0, .ref (ad en 21 0 0)), (1, .int a1), (2, .int a2), (3, .int a3), (4, .int a4)] dX8_duel_97 rfl rfl (by decide) rfl ?_
      refine r_goto (pc := 100) 68 dX8_duel_100 (by decide) ?_
      exact r_sub [1, 2, 3, 4, 5, 0] rfl (ih (v5 + (1 : Int32)) (uI σ 22 21 0 ((14 : Int32) + v5).toNatClampNeg (rI σ 22 14 0 ((14 : Int32) + v5).toNatClampNeg)))
set_option maxHeartbeats 4000000 in
theorem RL_X8_duel_109 (en : En) (N : Nat) {k : Int32 → Int32 → Sg → Option (Int32 × Sg)} (a1 : Int32) (a2 : Int32) (a3 : Int32) (a4 : Int32)  (hk : ∀ (v5 : Int32) (v6 : Int32) (σ : Sg), RR en ExT mi_X8_duel evI 158 [(0, .ref (ad en 21 0 0)), (1, .int a1), (2, .int a2), (3, .int a3), (4, .int a4)] [] σ (k v5 v6 σ)) : ∀ (n : Nat) (v5 : Int32) (v6 : Int32) (σ : Sg), RR en ExT mi_X8_duel evI 109 [(0, .ref (ad en 21 0 0)), (1, .int a1), (2, .int a2), (3, .int a3), (4, .int a4), (5, .int v5), (6, .int v6)] [] σ (L_X8_duel_109 N k a1 a2 a3 a4 n v5 v6 σ) := by
  intro n
  induction n with
  | zero => intro v5 v6 σ; exact r_none
  | succ n ih =>
    intro v5 v6 σ
    rw [L_X8_duel_109_s]
    refine r_iload (pc := 109) 6 dX8_duel_109 rfl ?_
    refine r_iload_n (pc := 111) 2 dX8_duel_111 rfl rfl ?_
    refine r_icmp_ge (pc := 112) 158 dX8_duel_112 (by decide) (fun h12 => ?_) (fun h12 => ?_)
    · exact r_sub [0, 1, 2, 3, 4] rfl (hk v5 v6 σ)
    · refine r_iload (pc := 115) 5 dX8_duel_115 rfl ?_
      refine r_aload_n (pc := 117) 0 dX8_duel_117 rfl rfl ?_
      refine g_X8_panes (pc := 118)  lf_RX8_143 dX8_duel_118 ?_
      refine r_gd (fun h13 => ?_)
      refine r_idiv (pc := 121) dX8_duel_121 (of_decide_eq_true h13) ?_
      refine r_istore (pc := 122) [(5, .int (v5 / (rI σ 21 0 0 10))), (0, .ref (ad en 21 0 0)), (1, .int a1), (2, .int a2), (3, .int a3), (4, .int a4), (6, .int v6)] dX8_duel_122 (by decide) rfl ?_
      refine r_aload_n (pc := 124) 1 dX8_duel_124 rfl rfl ?_
      refine r_aload_n (pc := 125) 1 dX8_duel_125 rfl rfl ?_
      refine g_X8_w (pc := 126)  lf_RX8_52 dX8_duel_126 ?_
      refine r_aload_n (pc := 129) 1 dX8_duel_129 rfl rfl ?_
      refine r_iload (pc := 130) 5 dX8_duel_130 rfl ?_
      refine r_iload (pc := 132) 0 dX8_duel_132 rfl ?_
      refine r_gd (fun h14 => ?_)
      refine r_idiv (pc := 134) dX8_duel_134 (of_decide_eq_true h14) ?_
      refine r_aload_n (pc := 135) 1 dX8_duel_135 rfl rfl ?_
      refine g_X8_panes (pc := 136)  lf_RX8_143 dX8_duel_136 ?_
      refine r_irem (pc := 139) dX8_duel_139 (of_decide_eq_true h13) ?_
      refine k_X8_placeIf (pc := 140) lm_RX8_252  (by decide) (Nat.le_of_ble_eq_true rfl) dX8_duel_140 (fun w7 h15 => ?_)
      refine r_aload_n (pc := 143) 1 dX8_duel_143 rfl rfl ?_
      refine g_X8_panes (pc := 144)  lf_RX8_143 dX8_duel_144 ?_
      refine r_iconst (pc := 147) dX8_duel_147 kc_iconst_1 ?_
      refine r_isub (pc := 148) dX8_duel_148 ?_
      refine k_X8_comesTo (pc := 149) lm_RX8_203  (by decide) (Nat.le_of_ble_eq_true rfl) dX8_duel_149 o22_21 (fun w8 h16 => ?_)
      refine r_iinc (pc := 152) 6 [(6, .int (v6 + (1 : Int32))), (5, .int (v5 / (rI σ 21 0 0 10))), (0, .ref (ad en 21 0 0)), (1, .int a1), (2, .int a2), (3, .int a3), (4, .int a4)] dX8_duel_152 rfl rfl (by decide) rfl ?_
      refine r_goto (pc := 155) 109 dX8_duel_155 (by decide) ?_
      exact r_sub [2, 3, 4, 5, 6, 1, 0] rfl (ih (v5 / (rI σ 21 0 0 10)) (v6 + (1 : Int32)) w8)
set_option maxHeartbeats 4000000 in
theorem RL_X8_duel_59 (en : En) (N : Nat) {k : Int32 → Sg → Option (Int32 × Sg)} (a1 : Int32) (a2 : Int32) (a3 : Int32)  (hk : ∀ (v4 : Int32) (σ : Sg), RR en ExT mi_X8_duel evI 180 [(0, .ref (ad en 21 0 0)), (2, .int a2), (3, .int a3)] [] σ (k v4 σ)) : ∀ (n : Nat) (v4 : Int32) (σ : Sg), RR en ExT mi_X8_duel evI 59 [(0, .ref (ad en 21 0 0)), (1, .int a1), (2, .int a2), (3, .int a3), (4, .int v4)] [] σ (L_X8_duel_59 N k a1 a2 a3 n v4 σ) := by
  intro n
  induction n with
  | zero => intro v4 σ; exact r_none
  | succ n ih =>
    intro v4 σ
    rw [L_X8_duel_59_s]
    refine r_iload (pc := 59) 4 dX8_duel_59 rfl ?_
    refine r_iload_n (pc := 61) 3 dX8_duel_61 rfl rfl ?_
    refine r_icmp_ge (pc := 62) 180 dX8_duel_62 (by decide) (fun h8 => ?_) (fun h8 => ?_)
    · exact r_sub [0, 2, 3] rfl (hk v4 σ)
    · refine r_iconst (pc := 65) dX8_duel_65 kc_iconst_0 ?_
      refine r_istore (pc := 66) [(5, .int (0 : Int32)), (0, .ref (ad en 21 0 0)), (1, .int a1), (2, .int a2), (3, .int a3), (4, .int v4)] dX8_duel_66 (by decide) rfl ?_
      refine r_sub [1, 2, 3, 4, 5, 0] rfl (RL_X8_duel_68 en N a1 a2 a3 v4  (fun v5_6 σ_6 => ?_) N (0 : Int32) σ)
      refine r_iload_n (pc := 103) 3 dX8_duel_103 rfl rfl ?_
      refine r_istore (pc := 104) [(5, .int a3), (0, .ref (ad en 21 0 0)), (1, .int a1), (2, .int a2), (3, .int a3), (4, .int v4)] dX8_duel_104 (by decide) rfl ?_
      refine r_iconst (pc := 106) dX8_duel_106 kc_iconst_0 ?_
      refine r_istore (pc := 107) [(6, .int (0 : Int32)), (5, .int a3), (0, .ref (ad en 21 0 0)), (1, .int a1), (2, .int a2), (3, .int a3), (4, .int v4)] dX8_duel_107 (by decide) rfl ?_
      refine r_sub [2, 3, 4, 5, 6, 1, 0] rfl (RL_X8_duel_109 en N a1 a2 a3 v4  (fun v5_9 v6_9 σ_9 => ?_) N a3 (0 : Int32) σ_6)
      refine r_aload_n (pc := 158) 0 dX8_duel_158 rfl rfl ?_
      refine k_X8_seeing (pc := 159) lm_RX8_169  (by decide) (Nat.le_of_ble_eq_true rfl) dX8_duel_159 (fun w10 h17 => ?_)
      refine r_aload_n (pc := 162) 0 dX8_duel_162 rfl rfl ?_
      refine g_X8_value (pc := 163)  lf_RX8_68 dX8_duel_163 ?_
      refine r_iload (pc := 166) 4 dX8_duel_166 rfl ?_
      refine r_aload_n (pc := 168) 0 dX8_duel_168 rfl rfl ?_
      refine r_iload_n (pc := 169) 1 dX8_duel_169 rfl rfl ?_
      refine k_X8_cellsOf (pc := 170) lm_RX8_185  (by decide) (Nat.le_of_ble_eq_true rfl) dX8_duel_170 (fun w11 h18 => ?_)
      refine r_iast (pc := 173) (n := 2401) o22_26 rfl rfl dX8_duel_173 (fun h19 => ?_)
      refine r_iinc (pc := 174) 4 [(4, .int (v4 + (1 : Int32))), (0, .ref (ad en 21 0 0)), (1, .int a1), (2, .int a2), (3, .int a3)] dX8_duel_174 rfl rfl (by decide) rfl ?_
      refine r_goto (pc := 177) 59 dX8_duel_177 (by decide) ?_
      exact r_sub [1, 2, 3, 4, 0] rfl (ih (v4 + (1 : Int32)) (uI w11.2 22 26 0 v4.toNatClampNeg w11.1))
set_option maxHeartbeats 4000000 in
theorem RL_X8_duel_223 (en : En) (N : Nat) {k : Int32 → Int32 → Option (Int32 × Sg)} (a3 : Int32) (a4 : Int32) (a5 : Int32) (σ : Sg)  (hk : ∀ (v6 : Int32) (v7 : Int32), RR en ExT mi_X8_duel evI 288 [(0, .ref (ad en 21 0 0)), (3, .int a3), (4, .int a4), (5, .int a5), (6, .int v6)] [] σ (k v6 v7)) : ∀ (n : Nat) (v6 : Int32) (v7 : Int32), RR en ExT mi_X8_duel evI 223 [(0, .ref (ad en 21 0 0)), (3, .int a3), (4, .int a4), (5, .int a5), (6, .int v6), (7, .int v7)] [] σ (L_X8_duel_223 N k a3 a4 a5 σ n v6 v7) := by
  intro n
  induction n with
  | zero => intro v6 v7; exact r_none
  | succ n ih =>
    intro v6 v7
    rw [L_X8_duel_223_s]
    refine r_iload (pc := 223) 5 dX8_duel_223 rfl ?_
    refine r_aload_n (pc := 225) 0 dX8_duel_225 rfl rfl ?_
    refine g_X8_panes (pc := 226)  lf_RX8_143 dX8_duel_226 ?_
    refine r_icmp_ge (pc := 229) 288 dX8_duel_229 (by decide) (fun h24 => ?_) (fun h24 => ?_)
    · exact r_sub [0, 1, 2, 3, 4] rfl (hk v6 v7)
    · refine r_aload_n (pc := 232) 0 dX8_duel_232 rfl rfl ?_
      refine g_X8_value (pc := 233)  lf_RX8_68 dX8_duel_233 ?_
      refine r_aload_n (pc := 236) 0 dX8_duel_236 rfl rfl ?_
      refine g_X8_panes (pc := 237)  lf_RX8_143 dX8_duel_237 ?_
      refine r_iload (pc := 240) 3 dX8_duel_240 rfl ?_
      refine r_imul (pc := 242) dX8_duel_242 ?_
      refine r_iload (pc := 243) 5 dX8_duel_243 rfl ?_
      refine r_iadd (pc := 245) dX8_duel_245 ?_
      refine r_iald (pc := 246) (n := 2401) o22_26 rfl dX8_duel_246 (fun h25 => ?_)
      refine r_istore (pc := 247) [(8, .int (rI σ 22 26 0 (((rI σ 21 0 0 10) * a5) + v7).toNatClampNeg)), (0, .ref (ad en 21 0 0)), (3, .int a3), (4, .int a4), (5, .int a5), (6, .int v6), (7, .int v7)] dX8_duel_247 (by decide) rfl ?_
      refine r_iload (pc := 249) 3 dX8_duel_249 rfl ?_
      refine r_iconst (pc := 251) dX8_duel_251 kc_iconst_2 ?_
      refine r_irem (pc := 252) dX8_duel_252 (by decide) ?_
      refine r_if_ne (pc := 253) 266 dX8_duel_253 (by decide) (fun h26 => ?_) (fun h26 => ?_)
      · refine r_iload (pc := 256) 0 dX8_duel_256 rfl ?_
        refine r_iload (pc := 258) 5 dX8_duel_258 rfl ?_
        refine r_icmp_le (pc := 260) 278 dX8_duel_260 (by decide) (fun h27 => ?_) (fun h27 => ?_)
        · refine r_iload (pc := 278) 5 dX8_duel_278 rfl ?_
          refine r_istore (pc := 280) [(6, .int v6), (8, .int (rI σ 22 26 0 (((rI σ 21 0 0 10) * a5) + v7).toNatClampNeg)), (0, .ref (ad en 21 0 0)), (3, .int a3), (4, .int a4), (5, .int a5), (7, .int v7)] dX8_duel_280 (by decide) rfl ?_
          refine r_iinc (pc := 282) 6 [(7, .int (v7 + (1 : Int32))), (6, .int v6), (8, .int (rI σ 22 26 0 (((rI σ 21 0 0 10) * a5) + v7).toNatClampNeg)), (0, .ref (ad en 21 0 0)), (3, .int a3), (4, .int a4), (5, .int a5)] dX8_duel_282 rfl rfl (by decide) rfl ?_
          refine r_goto (pc := 285) 223 dX8_duel_285 (by decide) ?_
          exact r_sub [3, 4, 5, 6, 1, 0] rfl (ih v6 (v7 + (1 : Int32)))
        · refine r_goto (pc := 263) 273 dX8_duel_263 (by decide) ?_
          refine r_iload (pc := 273) 0 dX8_duel_273 rfl ?_
          refine r_goto (pc := 275) 280 dX8_duel_275 (by decide) ?_
          refine r_istore (pc := 280) [(6, .int (rI σ 22 26 0 (((rI σ 21 0 0 10) * a5) + v7).toNatClampNeg)), (8, .int (rI σ 22 26 0 (((rI σ 21 0 0 10) * a5) + v7).toNatClampNeg)), (0, .ref (ad en 21 0 0)), (3, .int a3), (4, .int a4), (5, .int a5), (7, .int v7)] dX8_duel_280 (by decide) rfl ?_
          refine r_iinc (pc := 282) 6 [(7, .int (v7 + (1 : Int32))), (6, .int (rI σ 22 26 0 (((rI σ 21 0 0 10) * a5) + v7).toNatClampNeg)), (8, .int (rI σ 22 26 0 (((rI σ 21 0 0 10) * a5) + v7).toNatClampNeg)), (0, .ref (ad en 21 0 0)), (3, .int a3), (4, .int a4), (5, .int a5)] dX8_duel_282 rfl rfl (by decide) rfl ?_
          refine r_goto (pc := 285) 223 dX8_duel_285 (by decide) ?_
          exact r_sub [3, 4, 5, 6, 1, 0] rfl (ih (rI σ 22 26 0 (((rI σ 21 0 0 10) * a5) + v7).toNatClampNeg) (v7 + (1 : Int32)))
      · refine r_iload (pc := 266) 0 dX8_duel_266 rfl ?_
        refine r_iload (pc := 268) 5 dX8_duel_268 rfl ?_
        refine r_icmp_ge (pc := 270) 278 dX8_duel_270 (by decide) (fun h28 => ?_) (fun h28 => ?_)
        · refine r_iload (pc := 278) 5 dX8_duel_278 rfl ?_
          refine r_istore (pc := 280) [(6, .int v6), (8, .int (rI σ 22 26 0 (((rI σ 21 0 0 10) * a5) + v7).toNatClampNeg)), (0, .ref (ad en 21 0 0)), (3, .int a3), (4, .int a4), (5, .int a5), (7, .int v7)] dX8_duel_280 (by decide) rfl ?_
          refine r_iinc (pc := 282) 6 [(7, .int (v7 + (1 : Int32))), (6, .int v6), (8, .int (rI σ 22 26 0 (((rI σ 21 0 0 10) * a5) + v7).toNatClampNeg)), (0, .ref (ad en 21 0 0)), (3, .int a3), (4, .int a4), (5, .int a5)] dX8_duel_282 rfl rfl (by decide) rfl ?_
          refine r_goto (pc := 285) 223 dX8_duel_285 (by decide) ?_
          exact r_sub [3, 4, 5, 6, 1, 0] rfl (ih v6 (v7 + (1 : Int32)))
        · refine r_iload (pc := 273) 0 dX8_duel_273 rfl ?_
          refine r_goto (pc := 275) 280 dX8_duel_275 (by decide) ?_
          refine r_istore (pc := 280) [(6, .int (rI σ 22 26 0 (((rI σ 21 0 0 10) * a5) + v7).toNatClampNeg)), (8, .int (rI σ 22 26 0 (((rI σ 21 0 0 10) * a5) + v7).toNatClampNeg)), (0, .ref (ad en 21 0 0)), (3, .int a3), (4, .int a4), (5, .int a5), (7, .int v7)] dX8_duel_280 (by decide) rfl ?_
          refine r_iinc (pc := 282) 6 [(7, .int (v7 + (1 : Int32))), (6, .int (rI σ 22 26 0 (((rI σ 21 0 0 10) * a5) + v7).toNatClampNeg)), (8, .int (rI σ 22 26 0 (((rI σ 21 0 0 10) * a5) + v7).toNatClampNeg)), (0, .ref (ad en 21 0 0)), (3, .int a3), (4, .int a4), (5, .int a5)] dX8_duel_282 rfl rfl (by decide) rfl ?_
          refine r_goto (pc := 285) 223 dX8_duel_285 (by decide) ?_
          exact r_sub [3, 4, 5, 6, 1, 0] rfl (ih (rI σ 22 26 0 (((rI σ 21 0 0 10) * a5) + v7).toNatClampNeg) (v7 + (1 : Int32)))
set_option maxHeartbeats 4000000 in
theorem RL_X8_duel_200 (en : En) (N : Nat) {k : Int32 → Sg → Option (Int32 × Sg)} (a3 : Int32) (a4 : Int32)  (hk : ∀ (v5 : Int32) (σ : Sg), RR en ExT mi_X8_duel evI 303 [(0, .ref (ad en 21 0 0)), (3, .int a3), (4, .int a4)] [] σ (k v5 σ)) : ∀ (n : Nat) (v5 : Int32) (σ : Sg), RR en ExT mi_X8_duel evI 200 [(0, .ref (ad en 21 0 0)), (3, .int a3), (4, .int a4), (5, .int v5)] [] σ (L_X8_duel_200 N k a3 a4 n v5 σ) := by
  intro n
  induction n with
  | zero => intro v5 σ; exact r_none
  | succ n ih =>
    intro v5 σ
    rw [L_X8_duel_200_s]
    refine r_iload (pc := 200) 3 dX8_duel_200 rfl ?_
    refine r_iload_n (pc := 202) 1 dX8_duel_202 rfl rfl ?_
    refine r_icmp_ge (pc := 203) 303 dX8_duel_203 (by decide) (fun h22 => ?_) (fun h22 => ?_)
    · exact r_sub [0, 1, 2] rfl (hk v5 σ)
    · refine r_aload_n (pc := 206) 0 dX8_duel_206 rfl rfl ?_
      refine g_X8_value (pc := 207)  lf_RX8_68 dX8_duel_207 ?_
      refine r_aload_n (pc := 210) 0 dX8_duel_210 rfl rfl ?_
      refine g_X8_panes (pc := 211)  lf_RX8_143 dX8_duel_211 ?_
      refine r_iload (pc := 214) 3 dX8_duel_214 rfl ?_
      refine r_imul (pc := 216) dX8_duel_216 ?_
      refine r_iald (pc := 217) (n := 2401) o22_26 rfl dX8_duel_217 (fun h23 => ?_)
      refine r_istore (pc := 218) [(6, .int (rI σ 22 26 0 ((rI σ 21 0 0 10) * v5).toNatClampNeg)), (0, .ref (ad en 21 0 0)), (3, .int a3), (4, .int a4), (5, .int v5)] dX8_duel_218 (by decide) rfl ?_
      refine r_iconst (pc := 220) dX8_duel_220 kc_iconst_1 ?_
      refine r_istore (pc := 221) [(7, .int (1 : Int32)), (6, .int (rI σ 22 26 0 ((rI σ 21 0 0 10) * v5).toNatClampNeg)), (0, .ref (ad en 21 0 0)), (3, .int a3), (4, .int a4), (5, .int v5)] dX8_duel_221 (by decide) rfl ?_
      refine r_sub [2, 3, 4, 5, 1, 0] rfl (RL_X8_duel_223 en N a3 a4 v5 σ  (fun v6_13 v7_13 => ?_) N (rI σ 22 26 0 ((rI σ 21 0 0 10) * v5).toNatClampNeg) (1 : Int32))
      refine r_aload_n (pc := 288) 0 dX8_duel_288 rfl rfl ?_
      refine g_X8_value (pc := 289)  lf_RX8_68 dX8_duel_289 ?_
      refine r_iload (pc := 292) 3 dX8_duel_292 rfl ?_
      refine r_iload (pc := 294) 4 dX8_duel_294 rfl ?_
      refine r_iast (pc := 296) (n := 2401) o22_26 rfl rfl dX8_duel_296 (fun h29 => ?_)
      refine r_iinc (pc := 297) 3 [(5, .int (v5 + (1 : Int32))), (0, .ref (ad en 21 0 0)), (3, .int a3), (4, .int a4), (6, .int v6_13)] dX8_duel_297 rfl rfl (by decide) rfl ?_
      refine r_goto (pc := 300) 200 dX8_duel_300 (by decide) ?_
      exact r_sub [1, 2, 3, 0] rfl (ih (v5 + (1 : Int32)) (uI σ 22 26 0 v5.toNatClampNeg v6_13))
set_option maxHeartbeats 4000000 in
theorem RL_X8_duel_185 (en : En) (N : Nat) {k : Int32 → Int32 → Sg → Option (Int32 × Sg)}   (hk : ∀ (v3 : Int32) (v4 : Int32) (σ : Sg), RR en ExT mi_X8_duel evI 309 [(0, .ref (ad en 21 0 0))] [] σ (k v3 v4 σ)) : ∀ (n : Nat) (v3 : Int32) (v4 : Int32) (σ : Sg), RR en ExT mi_X8_duel evI 185 [(0, .ref (ad en 21 0 0)), (3, .int v3), (4, .int v4)] [] σ (L_X8_duel_185 N k  n v3 v4 σ) := by
  intro n
  induction n with
  | zero => intro v3 v4 σ; exact r_none
  | succ n ih =>
    intro v3 v4 σ
    rw [L_X8_duel_185_s]
    refine r_iload (pc := 185) 2 dX8_duel_185 rfl ?_
    refine r_if_lt (pc := 187) 309 dX8_duel_187 (by decide) (fun h20 => ?_) (fun h20 => ?_)
    · exact r_sub [0] rfl (hk v3 v4 σ)
    · refine r_iload_n (pc := 190) 1 dX8_duel_190 rfl rfl ?_
      refine r_aload_n (pc := 191) 0 dX8_duel_191 rfl rfl ?_
      refine g_X8_panes (pc := 192)  lf_RX8_143 dX8_duel_192 ?_
      refine r_gd (fun h21 => ?_)
      refine r_idiv (pc := 195) dX8_duel_195 (of_decide_eq_true h21) ?_
      refine r_istore_n (pc := 196) [(3, .int (v3 / (rI σ 21 0 0 10))), (0, .ref (ad en 21 0 0)), (4, .int v4)] dX8_duel_196 rfl (by decide) rfl ?_
      refine r_iconst (pc := 197) dX8_duel_197 kc_iconst_0 ?_
      refine r_istore (pc := 198) [(5, .int (0 : Int32)), (3, .int (v3 / (rI σ 21 0 0 10))), (0, .ref (ad en 21 0 0)), (4, .int v4)] dX8_duel_198 (by decide) rfl ?_
      refine r_sub [2, 1, 3, 0] rfl (RL_X8_duel_200 en N (v3 / (rI σ 21 0 0 10)) v4  (fun v5_14 σ_14 => ?_) N (0 : Int32) σ)
      refine r_iinc (pc := 303) 2 [(4, .int (v4 + (-1 : Int32))), (0, .ref (ad en 21 0 0)), (3, .int (v3 / (rI σ 21 0 0 10)))] dX8_duel_303 rfl rfl (by decide) rfl ?_
      refine r_goto (pc := 306) 185 dX8_duel_306 (by decide) ?_
      exact r_sub [1, 2, 0] rfl (ih (v3 / (rI σ 21 0 0 10)) (v4 + (-1 : Int32)) σ_14)
set_option maxHeartbeats 4000000 in
theorem R_X8_duel (en : En) (N : Nat) (p0 : Int32) (p1 : Int32)  (σ : Sg) : RR en ExT mi_X8_duel evI 0 [(0, .ref (ad en 21 0 0)), (1, .int p0), (2, .int p1)] [] σ (f_X8_duel N p0 p1 σ) := by
  unfold f_X8_duel
  refine r_aload_n (pc := 0) 0 dX8_duel_0 rfl rfl ?_
  refine r_iconst (pc := 1) dX8_duel_1 kc_iconst_0 ?_
  refine p_X8_thrown (pc := 2)  lf_RX8_81 dX8_duel_2 ?_
  refine r_aload_n (pc := 5) 0 dX8_duel_5 rfl rfl ?_
  refine r_iload_n (pc := 6) 1 dX8_duel_6 rfl rfl ?_
  refine k_X8_isPane (pc := 7) lm_RX8_188  (by decide) (Nat.le_of_ble_eq_true rfl) dX8_duel_7 (fun w1 h1 => ?_)
  refine r_if_eq (pc := 10) 22 dX8_duel_10 (by decide) (fun h2 => ?_) (fun h2 => ?_)
  · refine r_iconst (pc := 22) dX8_duel_22 kc_iconst_m1 ?_
    exact r_iret (pc := 23) rfl dX8_duel_23
  · refine r_iload_n (pc := 13) 2 dX8_duel_13 rfl rfl ?_
    refine r_iconst (pc := 14) dX8_duel_14 kc_iconst_0 ?_
    refine r_iconst (pc := 15) dX8_duel_15 kc_iconst_4 ?_
    refine k_X8_in (pc := 16) lm_RX8_91  (by decide) (Nat.le_of_ble_eq_true rfl) dX8_duel_16 (fun w2 h3 => ?_)
    refine r_if_ne (pc := 19) 24 dX8_duel_19 (by decide) (fun h4 => ?_) (fun h4 => ?_)
    · refine r_iconst (pc := 22) dX8_duel_22 kc_iconst_m1 ?_
      exact r_iret (pc := 23) rfl dX8_duel_23
    · refine r_aload_n (pc := 24) 0 dX8_duel_24 rfl rfl ?_
      refine k_X8_asNow (pc := 25) lm_RX8_163  (by decide) (Nat.le_of_ble_eq_true rfl) dX8_duel_25 (fun w3 h5 => ?_)
      refine r_aload_n (pc := 28) 0 dX8_duel_28 rfl rfl ?_
      refine k_X8_coveringAll (pc := 29) lm_RX8_166  (by decide) (Nat.le_of_ble_eq_true rfl) dX8_duel_29 (fun w4 h6 => ?_)
      refine r_iconst (pc := 32) dX8_duel_32 kc_iconst_1 ?_
      refine r_istore_n (pc := 33) [(3, .int (1 : Int32)), (0, .ref (ad en 21 0 0)), (1, .int p0), (2, .int p1)] dX8_duel_33 rfl (by decide) rfl ?_
      refine r_iconst (pc := 34) dX8_duel_34 kc_iconst_0 ?_
      refine r_istore (pc := 35) [(4, .int (0 : Int32)), (3, .int (1 : Int32)), (0, .ref (ad en 21 0 0)), (1, .int p0), (2, .int p1)] dX8_duel_35 (by decide) rfl ?_
      refine r_sub [2, 3, 4, 1, 0] rfl (RL_X8_duel_37 en N p0 p1 w4  (fun v3_5 v4_5 => ?_) N (1 : Int32) (0 : Int32))
      refine r_iconst (pc := 56) dX8_duel_56 kc_iconst_0 ?_
      refine r_istore (pc := 57) [(4, .int (0 : Int32)), (0, .ref (ad en 21 0 0)), (1, .int p0), (2, .int p1), (3, .int v3_5)] dX8_duel_57 (by decide) rfl ?_
      refine r_sub [1, 2, 3, 4, 0] rfl (RL_X8_duel_59 en N p0 p1 v3_5  (fun v4_12 σ_12 => ?_) N (0 : Int32) w4)
      refine r_iload_n (pc := 180) 1 dX8_duel_180 rfl rfl ?_
      refine r_iconst (pc := 181) dX8_duel_181 kc_iconst_1 ?_
      refine r_isub (pc := 182) dX8_duel_182 ?_
      refine r_istore (pc := 183) [(4, .int (p1 - (1 : Int32))), (0, .ref (ad en 21 0 0)), (2, .int p1), (3, .int v3_5)] dX8_duel_183 (by decide) rfl ?_
      refine r_sub [1, 3, 0] rfl (RL_X8_duel_185 en N   (fun v3_15 v4_15 σ_15 => ?_) N v3_5 (p1 - (1 : Int32)) σ_12)
      refine r_aload_n (pc := 309) 0 dX8_duel_309 rfl rfl ?_
      refine g_X8_value (pc := 310)  lf_RX8_68 dX8_duel_310 ?_
      refine r_iconst (pc := 313) dX8_duel_313 kc_iconst_0 ?_
      refine r_iald (pc := 314) (n := 2401) o22_26 rfl dX8_duel_314 (fun h30 => ?_)
      exact r_iret (pc := 315) rfl dX8_duel_315
theorem ok_X8_duel : yOk yX8_duel cX8_duel 9 (some .int) := ⟨in_lwG (by decide +kernel) rfl, in_lwG (by decide +kernel) rfl, by decide, by decide, by decide⟩
theorem k_X8_duel {en : En} {Ex : (Nat → Prop) → State → Prop} {mi : Mi} {α : Type} {ev : α → Option Value × Sg} {pc index : Nat} {lv : List (Nat × Value)} {rest : List Value} {σ : Sg} {N : Nat} {k : (Int32 × Sg) → Option α} {p0 : Int32} {p1 : Int32} (hlink : Cond.methodLink mi.1 index yX8_duel ∈ lwG) (hroom : 5 + 1 ≤ mi.2.2.2.2) (hcat : (rest.map fun v => v.category).sum ≤ 8) (hd : decode mi.2.1 pc = .ok (.invokevirtual index, 3))  (h : ∀ w : Int32 × Sg, f_X8_duel N p0 p1 σ = some w → RR en Ex mi ev (pc + 3) lv (.int w.1 :: rest) w.2 (k w)) : RR en Ex mi ev pc lv (.int p1 :: .int p0 :: .ref (ad en 21 0 0) :: rest) σ ((f_X8_duel N p0 p1 σ).bind k) :=
  r_callV (n := 2) [.int p0, .int p1] ok_X8_duel hlink (in_lwG (by decide +kernel) rfl) (in_lwG (by decide +kernel) rfl) (by decide +kernel) rfl hroom (by decide) o21 rfl rfl hcat (R_X8_duel en N p0 p1  σ) (Nat.le_of_ble_eq_true rfl) hd h
set_option maxHeartbeats 4000000 in
theorem R_X8_isText (en : En) (N : Nat) (p0 : Int32)  (σ : Sg) : RR en ExT mi_X8_isText evI 0 [(0, .int p0)] [] σ (f_X8_isText N p0 σ) := by
  unfold f_X8_isText
  refine r_iload_n (pc := 0) 0 dX8_isText_0 rfl rfl ?_
  refine r_iconst (pc := 1) dX8_isText_1 kc_iconst_0 ?_
  refine r_iconst (pc := 2) dX8_isText_2 kc_iconst_3 ?_
  refine k_X8_in (pc := 3) lm_RX8_91  (by decide) (Nat.le_of_ble_eq_true rfl) dX8_isText_3 (fun w1 h1 => ?_)
  exact r_zret (pc := 6) rfl (z_X8_in h1) dX8_isText_6
theorem ok_X8_isText : yOk yX8_isText cX8_isText 1 (some .boolean) := ⟨in_lwG (by decide +kernel) rfl, in_lwG (by decide +kernel) rfl, by decide, by decide, by decide⟩
theorem k_X8_isText {en : En} {Ex : (Nat → Prop) → State → Prop} {mi : Mi} {α : Type} {ev : α → Option Value × Sg} {pc index : Nat} {lv : List (Nat × Value)} {rest : List Value} {σ : Sg} {N : Nat} {k : (Int32 × Sg) → Option α} {p0 : Int32} (hlink : Cond.methodLink mi.1 index yX8_isText ∈ lwG) (hroom : 2 + 1 ≤ mi.2.2.2.2) (hcat : (rest.map fun v => v.category).sum ≤ 8) (hd : decode mi.2.1 pc = .ok (.invokestatic index, 3))  (h : ∀ w : Int32 × Sg, f_X8_isText N p0 σ = some w → RR en Ex mi ev (pc + 3) lv (.int w.1 :: rest) w.2 (k w)) : RR en Ex mi ev pc lv (.int p0 :: rest) σ ((f_X8_isText N p0 σ).bind k) :=
  r_callS (n := 1) [.int p0] ok_X8_isText hlink (in_lwG (by decide +kernel) rfl) (by decide +kernel) rfl hroom (by decide) hcat (R_X8_isText en N p0  σ) (Nat.le_of_ble_eq_true rfl) hd h
set_option maxHeartbeats 4000000 in
theorem R_X8_kindOf (en : En) (N : Nat) (p0 : Int32)  (σ : Sg) : RR en ExT mi_X8_kindOf evI 0 [(0, .int p0)] [] σ (f_X8_kindOf N p0 σ) := by
  unfold f_X8_kindOf
  refine r_iload_n (pc := 0) 0 dX8_kindOf_0 rfl rfl ?_
  refine r_bipush (pc := 1) dX8_kindOf_1 kc_bipush_112 ?_
  refine r_icmp_ne (pc := 3) 10 dX8_kindOf_3 (by decide) (fun h1 => ?_) (fun h1 => ?_)
  · refine r_iconst (pc := 6) dX8_kindOf_6 kc_iconst_0 ?_
    refine r_goto (pc := 7) 62 dX8_kindOf_7 (by decide) ?_
    exact r_iret (pc := 62) rfl dX8_kindOf_62
  · refine r_iload_n (pc := 10) 0 dX8_kindOf_10 rfl rfl ?_
    refine r_bipush (pc := 11) dX8_kindOf_11 kc_bipush_102 ?_
    refine r_icmp_ne (pc := 13) 20 dX8_kindOf_13 (by decide) (fun h2 => ?_) (fun h2 => ?_)
    · refine r_iconst (pc := 16) dX8_kindOf_16 kc_iconst_1 ?_
      refine r_goto (pc := 17) 62 dX8_kindOf_17 (by decide) ?_
      exact r_iret (pc := 62) rfl dX8_kindOf_62
    · refine r_iload_n (pc := 20) 0 dX8_kindOf_20 rfl rfl ?_
      refine r_bipush (pc := 21) dX8_kindOf_21 kc_bipush_103 ?_
      refine r_icmp_ne (pc := 23) 30 dX8_kindOf_23 (by decide) (fun h3 => ?_) (fun h3 => ?_)
      · refine r_iconst (pc := 26) dX8_kindOf_26 kc_iconst_2 ?_
        refine r_goto (pc := 27) 62 dX8_kindOf_27 (by decide) ?_
        exact r_iret (pc := 62) rfl dX8_kindOf_62
      · refine r_iload_n (pc := 30) 0 dX8_kindOf_30 rfl rfl ?_
        refine r_bipush (pc := 31) dX8_kindOf_31 kc_bipush_116 ?_
        refine r_icmp_ne (pc := 33) 40 dX8_kindOf_33 (by decide) (fun h4 => ?_) (fun h4 => ?_)
        · refine r_iconst (pc := 36) dX8_kindOf_36 kc_iconst_3 ?_
          refine r_goto (pc := 37) 62 dX8_kindOf_37 (by decide) ?_
          exact r_iret (pc := 62) rfl dX8_kindOf_62
        · refine r_iload_n (pc := 40) 0 dX8_kindOf_40 rfl rfl ?_
          refine r_bipush (pc := 41) dX8_kindOf_41 kc_bipush_104 ?_
          refine r_icmp_ne (pc := 43) 50 dX8_kindOf_43 (by decide) (fun h5 => ?_) (fun h5 => ?_)
          · refine r_iconst (pc := 46) dX8_kindOf_46 kc_iconst_4 ?_
            refine r_goto (pc := 47) 62 dX8_kindOf_47 (by decide) ?_
            exact r_iret (pc := 62) rfl dX8_kindOf_62
          · refine r_iload_n (pc := 50) 0 dX8_kindOf_50 rfl rfl ?_
            refine r_bipush (pc := 51) dX8_kindOf_51 kc_bipush_109 ?_
            refine r_icmp_ne (pc := 53) 60 dX8_kindOf_53 (by decide) (fun h6 => ?_) (fun h6 => ?_)
            · refine r_iconst (pc := 56) dX8_kindOf_56 kc_iconst_5 ?_
              refine r_goto (pc := 57) 62 dX8_kindOf_57 (by decide) ?_
              exact r_iret (pc := 62) rfl dX8_kindOf_62
            · refine r_bipush (pc := 60) dX8_kindOf_60 kc_bipush_m9 ?_
              exact r_iret (pc := 62) rfl dX8_kindOf_62
theorem ok_X8_kindOf : yOk yX8_kindOf cX8_kindOf 1 (some .int) := ⟨in_lwG (by decide +kernel) rfl, in_lwG (by decide +kernel) rfl, by decide, by decide, by decide⟩
theorem k_X8_kindOf {en : En} {Ex : (Nat → Prop) → State → Prop} {mi : Mi} {α : Type} {ev : α → Option Value × Sg} {pc index : Nat} {lv : List (Nat × Value)} {rest : List Value} {σ : Sg} {N : Nat} {k : (Int32 × Sg) → Option α} {p0 : Int32} (hlink : Cond.methodLink mi.1 index yX8_kindOf ∈ lwG) (hroom : 1 + 1 ≤ mi.2.2.2.2) (hcat : (rest.map fun v => v.category).sum ≤ 8) (hd : decode mi.2.1 pc = .ok (.invokestatic index, 3))  (h : ∀ w : Int32 × Sg, f_X8_kindOf N p0 σ = some w → RR en Ex mi ev (pc + 3) lv (.int w.1 :: rest) w.2 (k w)) : RR en Ex mi ev pc lv (.int p0 :: rest) σ ((f_X8_kindOf N p0 σ).bind k) :=
  r_callS (n := 1) [.int p0] ok_X8_kindOf hlink (in_lwG (by decide +kernel) rfl) (by decide +kernel) rfl hroom (by decide) hcat (R_X8_kindOf en N p0  σ) (Nat.le_of_ble_eq_true rfl) hd h
set_option maxHeartbeats 4000000 in
theorem R_X8_figure (en : En) (N : Nat) (p0 : Int32) (p1 : Int32)  (σ : Sg) : RR en ExT mi_X8_figure evI 0 [(0, .ref (ad en 21 0 0)), (1, .int p0), (2, .int p1)] [] σ (f_X8_figure N p0 p1 σ) := by
  unfold f_X8_figure
  refine r_aload_n (pc := 0) 0 dX8_figure_0 rfl rfl ?_
  refine r_aload_n (pc := 1) 0 dX8_figure_1 rfl rfl ?_
  refine g_X8_place (pc := 2)  lf_RX8_119 dX8_figure_2 ?_
  refine k_X8_byteAt (pc := 5) lm_RX8_122  (by decide) (Nat.le_of_ble_eq_true rfl) dX8_figure_5 (fun w1 h1 => ?_)
  refine r_bipush (pc := 8) dX8_figure_8 kc_bipush_48 ?_
  refine r_isub (pc := 10) dX8_figure_10 ?_
  refine r_istore_n (pc := 11) [(3, .int (w1.1 - (48 : Int32))), (0, .ref (ad en 21 0 0)), (1, .int p0), (2, .int p1)] dX8_figure_11 rfl (by decide) rfl ?_
  refine r_aload_n (pc := 12) 1 dX8_figure_12 rfl rfl ?_
  refine g_X8_faultAt (pc := 13)  lf_RX8_125 dX8_figure_13 ?_
  refine r_if_ge (pc := 16) 36 dX8_figure_16 (by decide) (fun h2 => ?_) (fun h2 => ?_)
  · refine r_aload_n (pc := 36) 1 dX8_figure_36 rfl rfl ?_
    refine r_dup (pc := 37) dX8_figure_37 rfl ?_
    refine g_X8_place (pc := 38)  lf_RX8_119 dX8_figure_38 ?_
    refine r_iconst (pc := 41) dX8_figure_41 kc_iconst_1 ?_
    refine r_iadd (pc := 42) dX8_figure_42 ?_
    refine p_X8_place (pc := 43)  lf_RX8_119 dX8_figure_43 ?_
    refine r_iload_n (pc := 46) 0 dX8_figure_46 rfl rfl ?_
    exact r_iret (pc := 47) rfl dX8_figure_47
  · refine r_iload_n (pc := 19) 0 dX8_figure_19 rfl rfl ?_
    refine r_iload_n (pc := 20) 2 dX8_figure_20 rfl rfl ?_
    refine r_iload_n (pc := 21) 3 dX8_figure_21 rfl rfl ?_
    refine k_X8_in (pc := 22) lm_RX8_91  (by decide) (Nat.le_of_ble_eq_true rfl) dX8_figure_22 (fun w2 h3 => ?_)
    refine r_if_ne (pc := 25) 36 dX8_figure_25 (by decide) (fun h4 => ?_) (fun h4 => ?_)
    · refine r_aload_n (pc := 28) 1 dX8_figure_28 rfl rfl ?_
      refine r_aload_n (pc := 29) 1 dX8_figure_29 rfl rfl ?_
      refine g_X8_place (pc := 30)  lf_RX8_119 dX8_figure_30 ?_
      refine p_X8_faultAt (pc := 33)  lf_RX8_125 dX8_figure_33 ?_
      refine r_aload_n (pc := 36) 1 dX8_figure_36 rfl rfl ?_
      refine r_dup (pc := 37) dX8_figure_37 rfl ?_
      refine g_X8_place (pc := 38)  lf_RX8_119 dX8_figure_38 ?_
      refine r_iconst (pc := 41) dX8_figure_41 kc_iconst_1 ?_
      refine r_iadd (pc := 42) dX8_figure_42 ?_
      refine p_X8_place (pc := 43)  lf_RX8_119 dX8_figure_43 ?_
      refine r_iload_n (pc := 46) 0 dX8_figure_46 rfl rfl ?_
      exact r_iret (pc := 47) rfl dX8_figure_47
    · refine r_aload_n (pc := 36) 1 dX8_figure_36 rfl rfl ?_
      refine r_dup (pc := 37) dX8_figure_37 rfl ?_
      refine g_X8_place (pc := 38)  lf_RX8_119 dX8_figure_38 ?_
      refine r_iconst (pc := 41) dX8_figure_41 kc_iconst_1 ?_
      refine r_iadd (pc := 42) dX8_figure_42 ?_
      refine p_X8_place (pc := 43)  lf_RX8_119 dX8_figure_43 ?_
      refine r_iload_n (pc := 46) 0 dX8_figure_46 rfl rfl ?_
      exact r_iret (pc := 47) rfl dX8_figure_47
theorem ok_X8_figure : yOk yX8_figure cX8_figure 4 (some .int) := ⟨in_lwG (by decide +kernel) rfl, in_lwG (by decide +kernel) rfl, by decide, by decide, by decide⟩
theorem k_X8_figure {en : En} {Ex : (Nat → Prop) → State → Prop} {mi : Mi} {α : Type} {ev : α → Option Value × Sg} {pc index : Nat} {lv : List (Nat × Value)} {rest : List Value} {σ : Sg} {N : Nat} {k : (Int32 × Sg) → Option α} {p0 : Int32} {p1 : Int32} (hlink : Cond.methodLink mi.1 index yX8_figure ∈ lwG) (hroom : 2 + 1 ≤ mi.2.2.2.2) (hcat : (rest.map fun v => v.category).sum ≤ 8) (hd : decode mi.2.1 pc = .ok (.invokevirtual index, 3))  (h : ∀ w : Int32 × Sg, f_X8_figure N p0 p1 σ = some w → RR en Ex mi ev (pc + 3) lv (.int w.1 :: rest) w.2 (k w)) : RR en Ex mi ev pc lv (.int p1 :: .int p0 :: .ref (ad en 21 0 0) :: rest) σ ((f_X8_figure N p0 p1 σ).bind k) :=
  r_callV (n := 2) [.int p0, .int p1] ok_X8_figure hlink (in_lwG (by decide +kernel) rfl) (in_lwG (by decide +kernel) rfl) (by decide +kernel) rfl hroom (by decide) o21 rfl rfl hcat (R_X8_figure en N p0 p1  σ) (Nat.le_of_ble_eq_true rfl) hd h
set_option maxHeartbeats 4000000 in
theorem RL_X8_reads_24 (en : En) (N : Nat) {k : Sg → Option (Int32 × Sg)}   (hk : ∀ (σ : Sg), RR en ExT mi_X8_reads evI 231 [(0, .ref (ad en 21 0 0))] [] σ (k σ)) : ∀ (n : Nat) (σ : Sg), RR en ExT mi_X8_reads evI 24 [(0, .ref (ad en 21 0 0))] [] σ (L_X8_reads_24 N k  n σ) := by
  intro n
  induction n with
  | zero => intro σ; exact r_none
  | succ n ih =>
    intro σ
    rw [L_X8_reads_24_s]
    refine r_aload_n (pc := 24) 0 dX8_reads_24 rfl rfl ?_
    refine g_X8_faultAt (pc := 25)  lf_RX8_125 dX8_reads_25 ?_
    refine r_if_ge (pc := 28) 231 dX8_reads_28 (by decide) (fun h2 => ?_) (fun h2 => ?_)
    · exact r_sub [0] rfl (hk σ)
    · refine r_aload_n (pc := 31) 0 dX8_reads_31 rfl rfl ?_
      refine g_X8_place (pc := 32)  lf_RX8_119 dX8_reads_32 ?_
      refine r_aload_n (pc := 35) 0 dX8_reads_35 rfl rfl ?_
      refine g_X8_byteSize (pc := 36)  lf_RX8_22 dX8_reads_36 ?_
      refine r_aload_n (pc := 39) 0 dX8_reads_39 rfl rfl ?_
      refine g_X8_of (pc := 40)  lf_RX8_116 dX8_reads_40 ?_
      refine r_iald (pc := 43) (n := 4) o22_9 rfl dX8_reads_43 (fun h3 => ?_)
      refine r_icmp_ge (pc := 44) 231 dX8_reads_44 (by decide) (fun h4 => ?_) (fun h4 => ?_)
      · exact r_sub [0] rfl (hk σ)
      · refine r_aload_n (pc := 47) 0 dX8_reads_47 rfl rfl ?_
        refine r_aload_n (pc := 48) 0 dX8_reads_48 rfl rfl ?_
        refine g_X8_place (pc := 49)  lf_RX8_119 dX8_reads_49 ?_
        refine k_X8_byteAt (pc := 52) lm_RX8_122  (by decide) (Nat.le_of_ble_eq_true rfl) dX8_reads_52 (fun w2 h5 => ?_)
        refine k_X8_kindOf (pc := 55) lm_RX8_134  (by decide) (Nat.le_of_ble_eq_true rfl) dX8_reads_55 (fun w3 h6 => ?_)
        refine r_istore_n (pc := 58) [(2, .int w3.1), (0, .ref (ad en 21 0 0))] dX8_reads_58 rfl (by decide) rfl ?_
        refine r_iload_n (pc := 59) 0 dX8_reads_59 rfl rfl ?_
        refine r_bipush (pc := 60) dX8_reads_60 kc_bipush_m9 ?_
        refine r_icmp_eq (pc := 62) 74 dX8_reads_62 (by decide) (fun h7 => ?_) (fun h7 => ?_)
        · refine r_aload_n (pc := 74) 1 dX8_reads_74 rfl rfl ?_
          refine r_aload_n (pc := 75) 1 dX8_reads_75 rfl rfl ?_
          refine g_X8_place (pc := 76)  lf_RX8_119 dX8_reads_76 ?_
          refine p_X8_faultAt (pc := 79)  lf_RX8_125 dX8_reads_79 ?_
          refine r_goto (pc := 82) 228 dX8_reads_82 (by decide) ?_
          refine r_goto (pc := 228) 24 dX8_reads_228 (by decide) ?_
          exact r_sub [1] rfl (ih (uI w3.2 21 0 0 29 (rI w3.2 21 0 0 27)))
        · refine r_aload_n (pc := 65) 1 dX8_reads_65 rfl rfl ?_
          refine g_X8_manyTold (pc := 66)  lf_RX8_128 dX8_reads_66 ?_
          refine r_bipush (pc := 69) dX8_reads_69 kc_bipush_7 ?_
          refine r_icmp_ne (pc := 71) 85 dX8_reads_71 (by decide) (fun h8 => ?_) (fun h8 => ?_)
          · refine r_aload_n (pc := 74) 1 dX8_reads_74 rfl rfl ?_
            refine r_aload_n (pc := 75) 1 dX8_reads_75 rfl rfl ?_
            refine g_X8_place (pc := 76)  lf_RX8_119 dX8_reads_76 ?_
            refine p_X8_faultAt (pc := 79)  lf_RX8_125 dX8_reads_79 ?_
            refine r_goto (pc := 82) 228 dX8_reads_82 (by decide) ?_
            refine r_goto (pc := 228) 24 dX8_reads_228 (by decide) ?_
            exact r_sub [1] rfl (ih (uI w3.2 21 0 0 29 (rI w3.2 21 0 0 27)))
          · refine r_aload_n (pc := 85) 1 dX8_reads_85 rfl rfl ?_
            refine r_dup (pc := 86) dX8_reads_86 rfl ?_
            refine g_X8_place (pc := 87)  lf_RX8_119 dX8_reads_87 ?_
            refine r_iconst (pc := 90) dX8_reads_90 kc_iconst_1 ?_
            refine r_iadd (pc := 91) dX8_reads_91 ?_
            refine p_X8_place (pc := 92)  lf_RX8_119 dX8_reads_92 ?_
            refine r_aload_n (pc := 95) 1 dX8_reads_95 rfl rfl ?_
            refine g_X8_told (pc := 96)  lf_RX8_71 dX8_reads_96 ?_
            refine r_aload_n (pc := 99) 1 dX8_reads_99 rfl rfl ?_
            refine g_X8_manyTold (pc := 100)  lf_RX8_128 dX8_reads_100 ?_
            refine r_iload_n (pc := 103) 0 dX8_reads_103 rfl rfl ?_
            refine r_iast (pc := 104) (n := 35) o22_31 rfl rfl dX8_reads_104 (fun h9 => ?_)
            refine r_aload_n (pc := 105) 1 dX8_reads_105 rfl rfl ?_
            refine r_iconst (pc := 106) dX8_reads_106 kc_iconst_0 ?_
            refine r_bipush (pc := 107) dX8_reads_107 kc_bipush_9 ?_
            refine k_X8_figure (pc := 109) lm_RX8_137  (by decide) (Nat.le_of_ble_eq_true rfl) dX8_reads_109 (fun w4 h10 => ?_)
            refine r_istore_n (pc := 112) [(3, .int w4.1), (2, .int w3.1), (0, .ref (ad en 21 0 0))] dX8_reads_112 rfl (by decide) rfl ?_
            refine r_aload_n (pc := 113) 2 dX8_reads_113 rfl rfl ?_
            refine r_iconst (pc := 114) dX8_reads_114 kc_iconst_0 ?_
            refine r_bipush (pc := 115) dX8_reads_115 kc_bipush_7 ?_
            refine k_X8_figure (pc := 117) lm_RX8_137  (by decide) (Nat.le_of_ble_eq_true rfl) dX8_reads_117 (fun w5 h11 => ?_)
            refine r_istore (pc := 120) [(4, .int w5.1), (3, .int w4.1), (2, .int w3.1), (0, .ref (ad en 21 0 0))] dX8_reads_120 (by decide) rfl ?_
            refine r_aload_n (pc := 122) 3 dX8_reads_122 rfl rfl ?_
            refine r_iconst (pc := 123) dX8_reads_123 kc_iconst_1 ?_
            refine r_bipush (pc := 124) dX8_reads_124 kc_bipush_12 ?_
            refine r_iload_n (pc := 126) 1 dX8_reads_126 rfl rfl ?_
            refine r_isub (pc := 127) dX8_reads_127 ?_
            refine r_bipush (pc := 128) dX8_reads_128 kc_bipush_9 ?_
            refine r_icmp_le (pc := 130) 138 dX8_reads_130 (by decide) (fun h12 => ?_) (fun h12 => ?_)
            · refine r_bipush (pc := 138) dX8_reads_138 kc_bipush_12 ?_
              refine r_iload_n (pc := 140) 1 dX8_reads_140 rfl rfl ?_
              refine r_isub (pc := 141) dX8_reads_141 ?_
              refine k_X8_figure (pc := 142) lm_RX8_137  (by decide) (Nat.le_of_ble_eq_true rfl) dX8_reads_142 (fun w6 h13 => ?_)
              refine r_istore (pc := 145) [(5, .int w6.1), (4, .int w5.1), (3, .int w4.1), (2, .int w3.1), (0, .ref (ad en 21 0 0))] dX8_reads_145 (by decide) rfl ?_
              refine r_aload_n (pc := 147) 4 dX8_reads_147 rfl rfl ?_
              refine r_iconst (pc := 148) dX8_reads_148 kc_iconst_1 ?_
              refine r_bipush (pc := 149) dX8_reads_149 kc_bipush_8 ?_
              refine r_iload (pc := 151) 1 dX8_reads_151 rfl ?_
              refine r_isub (pc := 153) dX8_reads_153 ?_
              refine k_X8_figure (pc := 154) lm_RX8_137  (by decide) (Nat.le_of_ble_eq_true rfl) dX8_reads_154 (fun w7 h14 => ?_)
              refine r_istore (pc := 157) [(6, .int w7.1), (5, .int w6.1), (4, .int w5.1), (3, .int w4.1), (2, .int w3.1), (0, .ref (ad en 21 0 0))] dX8_reads_157 (by decide) rfl ?_
              refine r_aload_n (pc := 159) 5 dX8_reads_159 rfl rfl ?_
              refine g_X8_told (pc := 160)  lf_RX8_71 dX8_reads_160 ?_
              refine r_bipush (pc := 163) dX8_reads_163 kc_bipush_7 ?_
              refine r_aload_n (pc := 165) 5 dX8_reads_165 rfl rfl ?_
              refine g_X8_manyTold (pc := 166)  lf_RX8_128 dX8_reads_166 ?_
              refine r_iadd (pc := 169) dX8_reads_169 ?_
              refine r_iload_n (pc := 170) 3 dX8_reads_170 rfl rfl ?_
              refine r_iast (pc := 171) (n := 35) o22_31 rfl rfl dX8_reads_171 (fun h15 => ?_)
              refine r_aload_n (pc := 172) 5 dX8_reads_172 rfl rfl ?_
              refine g_X8_told (pc := 173)  lf_RX8_71 dX8_reads_173 ?_
              refine r_bipush (pc := 176) dX8_reads_176 kc_bipush_14 ?_
              refine r_aload_n (pc := 178) 5 dX8_reads_178 rfl rfl ?_
              refine g_X8_manyTold (pc := 179)  lf_RX8_128 dX8_reads_179 ?_
              refine r_iadd (pc := 182) dX8_reads_182 ?_
              refine r_iload (pc := 183) 2 dX8_reads_183 rfl ?_
              refine r_iast (pc := 185) (n := 35) o22_31 rfl rfl dX8_reads_185 (fun h16 => ?_)
              refine r_aload_n (pc := 186) 5 dX8_reads_186 rfl rfl ?_
              refine g_X8_told (pc := 187)  lf_RX8_71 dX8_reads_187 ?_
              refine r_bipush (pc := 190) dX8_reads_190 kc_bipush_21 ?_
              refine r_aload_n (pc := 192) 5 dX8_reads_192 rfl rfl ?_
              refine g_X8_manyTold (pc := 193)  lf_RX8_128 dX8_reads_193 ?_
              refine r_iadd (pc := 196) dX8_reads_196 ?_
              refine r_iload (pc := 197) 1 dX8_reads_197 rfl ?_
              refine r_iast (pc := 199) (n := 35) o22_31 rfl rfl dX8_reads_199 (fun h17 => ?_)
              refine r_aload_n (pc := 200) 5 dX8_reads_200 rfl rfl ?_
              refine g_X8_told (pc := 201)  lf_RX8_71 dX8_reads_201 ?_
              refine r_bipush (pc := 204) dX8_reads_204 kc_bipush_28 ?_
              refine r_aload_n (pc := 206) 5 dX8_reads_206 rfl rfl ?_
              refine g_X8_manyTold (pc := 207)  lf_RX8_128 dX8_reads_207 ?_
              refine r_iadd (pc := 210) dX8_reads_210 ?_
              refine r_iload (pc := 211) 0 dX8_reads_211 rfl ?_
              refine r_iast (pc := 213) (n := 35) o22_31 rfl rfl dX8_reads_213 (fun h18 => ?_)
              refine r_aload_n (pc := 214) 5 dX8_reads_214 rfl rfl ?_
              refine r_dup (pc := 215) dX8_reads_215 rfl ?_
              refine g_X8_manyTold (pc := 216)  lf_RX8_128 dX8_reads_216 ?_
              refine r_iconst (pc := 219) dX8_reads_219 kc_iconst_1 ?_
              refine r_iadd (pc := 220) dX8_reads_220 ?_
              refine p_X8_manyTold (pc := 221)  lf_RX8_128 dX8_reads_221 ?_
              refine r_aload_n (pc := 224) 5 dX8_reads_224 rfl rfl ?_
              refine k_X8_blanks (pc := 225) lm_RX8_131  (by decide) (Nat.le_of_ble_eq_true rfl) dX8_reads_225 (fun w8 h19 => ?_)
              refine r_goto (pc := 228) 24 dX8_reads_228 (by decide) ?_
              exact r_sub [5] rfl (ih w8)
            · refine r_bipush (pc := 133) dX8_reads_133 kc_bipush_9 ?_
              refine r_goto (pc := 135) 142 dX8_reads_135 (by decide) ?_
              refine k_X8_figure (pc := 142) lm_RX8_137  (by decide) (Nat.le_of_ble_eq_true rfl) dX8_reads_142 (fun w9 h20 => ?_)
              refine r_istore (pc := 145) [(5, .int w9.1), (4, .int w5.1), (3, .int w4.1), (2, .int w3.1), (0, .ref (ad en 21 0 0))] dX8_reads_145 (by decide) rfl ?_
              refine r_aload_n (pc := 147) 4 dX8_reads_147 rfl rfl ?_
              refine r_iconst (pc := 148) dX8_reads_148 kc_iconst_1 ?_
              refine r_bipush (pc := 149) dX8_reads_149 kc_bipush_8 ?_
              refine r_iload (pc := 151) 1 dX8_reads_151 rfl ?_
              refine r_isub (pc := 153) dX8_reads_153 ?_
              refine k_X8_figure (pc := 154) lm_RX8_137  (by decide) (Nat.le_of_ble_eq_true rfl) dX8_reads_154 (fun w10 h21 => ?_)
              refine r_istore (pc := 157) [(6, .int w10.1), (5, .int w9.1), (4, .int w5.1), (3, .int w4.1), (2, .int w3.1), (0, .ref (ad en 21 0 0))] dX8_reads_157 (by decide) rfl ?_
              refine r_aload_n (pc := 159) 5 dX8_reads_159 rfl rfl ?_
              refine g_X8_told (pc := 160)  lf_RX8_71 dX8_reads_160 ?_
              refine r_bipush (pc := 163) dX8_reads_163 kc_bipush_7 ?_
              refine r_aload_n (pc := 165) 5 dX8_reads_165 rfl rfl ?_
              refine g_X8_manyTold (pc := 166)  lf_RX8_128 dX8_reads_166 ?_
              refine r_iadd (pc := 169) dX8_reads_169 ?_
              refine r_iload_n (pc := 170) 3 dX8_reads_170 rfl rfl ?_
              refine r_iast (pc := 171) (n := 35) o22_31 rfl rfl dX8_reads_171 (fun h22 => ?_)
              refine r_aload_n (pc := 172) 5 dX8_reads_172 rfl rfl ?_
              refine g_X8_told (pc := 173)  lf_RX8_71 dX8_reads_173 ?_
              refine r_bipush (pc := 176) dX8_reads_176 kc_bipush_14 ?_
              refine r_aload_n (pc := 178) 5 dX8_reads_178 rfl rfl ?_
              refine g_X8_manyTold (pc := 179)  lf_RX8_128 dX8_reads_179 ?_
              refine r_iadd (pc := 182) dX8_reads_182 ?_
              refine r_iload (pc := 183) 2 dX8_reads_183 rfl ?_
              refine r_iast (pc := 185) (n := 35) o22_31 rfl rfl dX8_reads_185 (fun h23 => ?_)
              refine r_aload_n (pc := 186) 5 dX8_reads_186 rfl rfl ?_
              refine g_X8_told (pc := 187)  lf_RX8_71 dX8_reads_187 ?_
              refine r_bipush (pc := 190) dX8_reads_190 kc_bipush_21 ?_
              refine r_aload_n (pc := 192) 5 dX8_reads_192 rfl rfl ?_
              refine g_X8_manyTold (pc := 193)  lf_RX8_128 dX8_reads_193 ?_
              refine r_iadd (pc := 196) dX8_reads_196 ?_
              refine r_iload (pc := 197) 1 dX8_reads_197 rfl ?_
              refine r_iast (pc := 199) (n := 35) o22_31 rfl rfl dX8_reads_199 (fun h24 => ?_)
              refine r_aload_n (pc := 200) 5 dX8_reads_200 rfl rfl ?_
              refine g_X8_told (pc := 201)  lf_RX8_71 dX8_reads_201 ?_
              refine r_bipush (pc := 204) dX8_reads_204 kc_bipush_28 ?_
              refine r_aload_n (pc := 206) 5 dX8_reads_206 rfl rfl ?_
              refine g_X8_manyTold (pc := 207)  lf_RX8_128 dX8_reads_207 ?_
              refine r_iadd (pc := 210) dX8_reads_210 ?_
              refine r_iload (pc := 211) 0 dX8_reads_211 rfl ?_
              refine r_iast (pc := 213) (n := 35) o22_31 rfl rfl dX8_reads_213 (fun h25 => ?_)
              refine r_aload_n (pc := 214) 5 dX8_reads_214 rfl rfl ?_
              refine r_dup (pc := 215) dX8_reads_215 rfl ?_
              refine g_X8_manyTold (pc := 216)  lf_RX8_128 dX8_reads_216 ?_
              refine r_iconst (pc := 219) dX8_reads_219 kc_iconst_1 ?_
              refine r_iadd (pc := 220) dX8_reads_220 ?_
              refine p_X8_manyTold (pc := 221)  lf_RX8_128 dX8_reads_221 ?_
              refine r_aload_n (pc := 224) 5 dX8_reads_224 rfl rfl ?_
              refine k_X8_blanks (pc := 225) lm_RX8_131  (by decide) (Nat.le_of_ble_eq_true rfl) dX8_reads_225 (fun w11 h26 => ?_)
              refine r_goto (pc := 228) 24 dX8_reads_228 (by decide) ?_
              exact r_sub [5] rfl (ih w11)
set_option maxHeartbeats 4000000 in
theorem R_X8_reads (en : En) (N : Nat) (p0 : Int32)  (σ : Sg) : RR en ExT mi_X8_reads evI 0 [(0, .ref (ad en 21 0 0)), (1, .int p0)] [] σ (f_X8_reads N p0 σ) := by
  unfold f_X8_reads
  refine r_aload_n (pc := 0) 0 dX8_reads_0 rfl rfl ?_
  refine r_iload_n (pc := 1) 1 dX8_reads_1 rfl rfl ?_
  refine p_X8_of (pc := 2)  lf_RX8_116 dX8_reads_2 ?_
  refine r_aload_n (pc := 5) 0 dX8_reads_5 rfl rfl ?_
  refine r_iconst (pc := 6) dX8_reads_6 kc_iconst_0 ?_
  refine p_X8_place (pc := 7)  lf_RX8_119 dX8_reads_7 ?_
  refine r_aload_n (pc := 10) 0 dX8_reads_10 rfl rfl ?_
  refine r_iconst (pc := 11) dX8_reads_11 kc_iconst_m1 ?_
  refine p_X8_faultAt (pc := 12)  lf_RX8_125 dX8_reads_12 ?_
  refine r_aload_n (pc := 15) 0 dX8_reads_15 rfl rfl ?_
  refine r_iconst (pc := 16) dX8_reads_16 kc_iconst_0 ?_
  refine p_X8_manyTold (pc := 17)  lf_RX8_128 dX8_reads_17 ?_
  refine r_aload_n (pc := 20) 0 dX8_reads_20 rfl rfl ?_
  refine k_X8_blanks (pc := 21) lm_RX8_131  (by decide) (Nat.le_of_ble_eq_true rfl) dX8_reads_21 (fun w1 h1 => ?_)
  refine r_sub [0] rfl (RL_X8_reads_24 en N   (fun σ_12 => ?_) N w1)
  refine r_aload_n (pc := 231) 0 dX8_reads_231 rfl rfl ?_
  refine g_X8_faultAt (pc := 232)  lf_RX8_125 dX8_reads_232 ?_
  refine r_if_lt (pc := 235) 245 dX8_reads_235 (by decide) (fun h27 => ?_) (fun h27 => ?_)
  · refine r_aload_n (pc := 245) 0 dX8_reads_245 rfl rfl ?_
    refine g_X8_manyTold (pc := 246)  lf_RX8_128 dX8_reads_246 ?_
    refine r_iconst (pc := 249) dX8_reads_249 kc_iconst_2 ?_
    refine r_icmp_ge (pc := 250) 265 dX8_reads_250 (by decide) (fun h28 => ?_) (fun h28 => ?_)
    · refine r_bipush (pc := 265) dX8_reads_265 kc_bipush_m9 ?_
      exact r_iret (pc := 267) rfl dX8_reads_267
    · refine r_aload_n (pc := 253) 0 dX8_reads_253 rfl rfl ?_
      refine g_X8_byteSize (pc := 254)  lf_RX8_22 dX8_reads_254 ?_
      refine r_aload_n (pc := 257) 0 dX8_reads_257 rfl rfl ?_
      refine g_X8_of (pc := 258)  lf_RX8_116 dX8_reads_258 ?_
      refine r_iald (pc := 261) (n := 4) o22_9 rfl dX8_reads_261 (fun h29 => ?_)
      refine r_goto (pc := 262) 267 dX8_reads_262 (by decide) ?_
      exact r_iret (pc := 267) rfl dX8_reads_267
  · refine r_aload_n (pc := 238) 0 dX8_reads_238 rfl rfl ?_
    refine g_X8_faultAt (pc := 239)  lf_RX8_125 dX8_reads_239 ?_
    refine r_goto (pc := 242) 267 dX8_reads_242 (by decide) ?_
    exact r_iret (pc := 267) rfl dX8_reads_267
theorem ok_X8_reads : yOk yX8_reads cX8_reads 7 (some .int) := ⟨in_lwG (by decide +kernel) rfl, in_lwG (by decide +kernel) rfl, by decide, by decide, by decide⟩
theorem k_X8_reads {en : En} {Ex : (Nat → Prop) → State → Prop} {mi : Mi} {α : Type} {ev : α → Option Value × Sg} {pc index : Nat} {lv : List (Nat × Value)} {rest : List Value} {σ : Sg} {N : Nat} {k : (Int32 × Sg) → Option α} {p0 : Int32} (hlink : Cond.methodLink mi.1 index yX8_reads ∈ lwG) (hroom : 3 + 1 ≤ mi.2.2.2.2) (hcat : (rest.map fun v => v.category).sum ≤ 8) (hd : decode mi.2.1 pc = .ok (.invokevirtual index, 3))  (h : ∀ w : Int32 × Sg, f_X8_reads N p0 σ = some w → RR en Ex mi ev (pc + 3) lv (.int w.1 :: rest) w.2 (k w)) : RR en Ex mi ev pc lv (.int p0 :: .ref (ad en 21 0 0) :: rest) σ ((f_X8_reads N p0 σ).bind k) :=
  r_callV (n := 1) [.int p0] ok_X8_reads hlink (in_lwG (by decide +kernel) rfl) (in_lwG (by decide +kernel) rfl) (by decide +kernel) rfl hroom (by decide) o21 rfl rfl hcat (R_X8_reads en N p0  σ) (Nat.le_of_ble_eq_true rfl) hd h
set_option maxHeartbeats 4000000 in
theorem R_X8_fault (en : En) (N : Nat) (p0 : Int32)  (σ : Sg) : RR en ExT mi_X8_fault evI 0 [(0, .ref (ad en 21 0 0)), (1, .int p0)] [] σ (f_X8_fault N p0 σ) := by
  unfold f_X8_fault
  refine r_aload_n (pc := 0) 0 dX8_fault_0 rfl rfl ?_
  refine r_iconst (pc := 1) dX8_fault_1 kc_iconst_0 ?_
  refine p_X8_thrown (pc := 2)  lf_RX8_81 dX8_fault_2 ?_
  refine r_iload_n (pc := 5) 1 dX8_fault_5 rfl rfl ?_
  refine k_X8_isText (pc := 6) lm_RX8_113  (by decide) (Nat.le_of_ble_eq_true rfl) dX8_fault_6 (fun w1 h1 => ?_)
  refine r_if_ne (pc := 9) 16 dX8_fault_9 (by decide) (fun h2 => ?_) (fun h2 => ?_)
  · refine r_iconst (pc := 12) dX8_fault_12 kc_iconst_m1 ?_
    refine r_goto (pc := 13) 38 dX8_fault_13 (by decide) ?_
    exact r_iret (pc := 38) rfl dX8_fault_38
  · refine r_aload_n (pc := 16) 0 dX8_fault_16 rfl rfl ?_
    refine g_X8_byteSize (pc := 17)  lf_RX8_22 dX8_fault_17 ?_
    refine r_iload_n (pc := 20) 1 dX8_fault_20 rfl rfl ?_
    refine r_iald (pc := 21) (n := 4) o22_9 rfl dX8_fault_21 (fun h3 => ?_)
    refine r_if_ge (pc := 22) 33 dX8_fault_22 (by decide) (fun h4 => ?_) (fun h4 => ?_)
    · refine r_aload_n (pc := 33) 0 dX8_fault_33 rfl rfl ?_
      refine r_iload_n (pc := 34) 1 dX8_fault_34 rfl rfl ?_
      refine k_X8_reads (pc := 35) lm_RX8_140  (by decide) (Nat.le_of_ble_eq_true rfl) dX8_fault_35 (fun w2 h5 => ?_)
      exact r_iret (pc := 38) rfl dX8_fault_38
    · refine r_aload_n (pc := 25) 0 dX8_fault_25 rfl rfl ?_
      refine r_iconst (pc := 26) dX8_fault_26 kc_iconst_1 ?_
      refine k_X8_found (pc := 27) lm_RX8_99  (by decide) (Nat.le_of_ble_eq_true rfl) dX8_fault_27 (fun w3 h6 => ?_)
      refine r_goto (pc := 30) 38 dX8_fault_30 (by decide) ?_
      exact r_iret (pc := 38) rfl dX8_fault_38
theorem ok_X8_fault : yOk yX8_fault cX8_fault 2 (some .int) := ⟨in_lwG (by decide +kernel) rfl, in_lwG (by decide +kernel) rfl, by decide, by decide, by decide⟩
theorem k_X8_fault {en : En} {Ex : (Nat → Prop) → State → Prop} {mi : Mi} {α : Type} {ev : α → Option Value × Sg} {pc index : Nat} {lv : List (Nat × Value)} {rest : List Value} {σ : Sg} {N : Nat} {k : (Int32 × Sg) → Option α} {p0 : Int32} (hlink : Cond.methodLink mi.1 index yX8_fault ∈ lwG) (hroom : 4 + 1 ≤ mi.2.2.2.2) (hcat : (rest.map fun v => v.category).sum ≤ 8) (hd : decode mi.2.1 pc = .ok (.invokevirtual index, 3))  (h : ∀ w : Int32 × Sg, f_X8_fault N p0 σ = some w → RR en Ex mi ev (pc + 3) lv (.int w.1 :: rest) w.2 (k w)) : RR en Ex mi ev pc lv (.int p0 :: .ref (ad en 21 0 0) :: rest) σ ((f_X8_fault N p0 σ).bind k) :=
  r_callV (n := 1) [.int p0] ok_X8_fault hlink (in_lwG (by decide +kernel) rfl) (in_lwG (by decide +kernel) rfl) (by decide +kernel) rfl hroom (by decide) o21 rfl rfl hcat (R_X8_fault en N p0  σ) (Nat.le_of_ble_eq_true rfl) hd h
set_option maxHeartbeats 4000000 in
theorem R_X8_finding (en : En) (N : Nat)  (σ : Sg) : RR en ExT mi_X8_finding evI 0 [(0, .ref (ad en 21 0 0))] [] σ (f_X8_finding N σ) := by
  unfold f_X8_finding
  refine r_aload_n (pc := 0) 0 dX8_finding_0 rfl rfl ?_
  refine r_iconst (pc := 1) dX8_finding_1 kc_iconst_0 ?_
  refine p_X8_thrown (pc := 2)  lf_RX8_81 dX8_finding_2 ?_
  refine r_aload_n (pc := 5) 0 dX8_finding_5 rfl rfl ?_
  refine g_X8_findingLast (pc := 6)  lf_RX8_85 dX8_finding_6 ?_
  exact r_iret (pc := 9) rfl dX8_finding_9
theorem ok_X8_finding : yOk yX8_finding cX8_finding 1 (some .int) := ⟨in_lwG (by decide +kernel) rfl, in_lwG (by decide +kernel) rfl, by decide, by decide, by decide⟩
theorem k_X8_finding {en : En} {Ex : (Nat → Prop) → State → Prop} {mi : Mi} {α : Type} {ev : α → Option Value × Sg} {pc index : Nat} {lv : List (Nat × Value)} {rest : List Value} {σ : Sg} {N : Nat} {k : (Int32 × Sg) → Option α}  (hlink : Cond.methodLink mi.1 index yX8_finding ∈ lwG) (hroom : 1 + 1 ≤ mi.2.2.2.2) (hcat : (rest.map fun v => v.category).sum ≤ 8) (hd : decode mi.2.1 pc = .ok (.invokevirtual index, 3))  (h : ∀ w : Int32 × Sg, f_X8_finding N  σ = some w → RR en Ex mi ev (pc + 3) lv (.int w.1 :: rest) w.2 (k w)) : RR en Ex mi ev pc lv (.ref (ad en 21 0 0) :: rest) σ ((f_X8_finding N  σ).bind k) :=
  r_callV (n := 0) [] ok_X8_finding hlink (in_lwG (by decide +kernel) rfl) (in_lwG (by decide +kernel) rfl) (by decide +kernel) rfl hroom (by decide) o21 rfl rfl hcat (R_X8_finding en N   σ) (Nat.le_of_ble_eq_true rfl) hd h
set_option maxHeartbeats 4000000 in
theorem R_X8_findings (en : En) (N : Nat) (p0 : Int32)  (σ : Sg) : RR en ExT mi_X8_findings evI 0 [(0, .ref (ad en 21 0 0)), (1, .int p0)] [] σ (f_X8_findings N p0 σ) := by
  unfold f_X8_findings
  refine r_aload_n (pc := 0) 0 dX8_findings_0 rfl rfl ?_
  refine r_iconst (pc := 1) dX8_findings_1 kc_iconst_0 ?_
  refine p_X8_thrown (pc := 2)  lf_RX8_81 dX8_findings_2 ?_
  refine r_iload_n (pc := 5) 1 dX8_findings_5 rfl rfl ?_
  refine r_iconst (pc := 6) dX8_findings_6 kc_iconst_1 ?_
  refine r_iconst (pc := 7) dX8_findings_7 kc_iconst_5 ?_
  refine k_X8_in (pc := 8) lm_RX8_91  (by decide) (Nat.le_of_ble_eq_true rfl) dX8_findings_8 (fun w1 h1 => ?_)
  refine r_if_eq (pc := 11) 23 dX8_findings_11 (by decide) (fun h2 => ?_) (fun h2 => ?_)
  · refine r_iconst (pc := 23) dX8_findings_23 kc_iconst_m1 ?_
    exact r_iret (pc := 24) rfl dX8_findings_24
  · refine r_aload_n (pc := 14) 0 dX8_findings_14 rfl rfl ?_
    refine g_X8_findingMany (pc := 15)  lf_RX8_7 dX8_findings_15 ?_
    refine r_iload_n (pc := 18) 1 dX8_findings_18 rfl rfl ?_
    refine r_iald (pc := 19) (n := 6) o22_5 rfl dX8_findings_19 (fun h3 => ?_)
    refine r_goto (pc := 20) 24 dX8_findings_20 (by decide) ?_
    exact r_iret (pc := 24) rfl dX8_findings_24
theorem ok_X8_findings : yOk yX8_findings cX8_findings 2 (some .int) := ⟨in_lwG (by decide +kernel) rfl, in_lwG (by decide +kernel) rfl, by decide, by decide, by decide⟩
theorem k_X8_findings {en : En} {Ex : (Nat → Prop) → State → Prop} {mi : Mi} {α : Type} {ev : α → Option Value × Sg} {pc index : Nat} {lv : List (Nat × Value)} {rest : List Value} {σ : Sg} {N : Nat} {k : (Int32 × Sg) → Option α} {p0 : Int32} (hlink : Cond.methodLink mi.1 index yX8_findings ∈ lwG) (hroom : 2 + 1 ≤ mi.2.2.2.2) (hcat : (rest.map fun v => v.category).sum ≤ 8) (hd : decode mi.2.1 pc = .ok (.invokevirtual index, 3))  (h : ∀ w : Int32 × Sg, f_X8_findings N p0 σ = some w → RR en Ex mi ev (pc + 3) lv (.int w.1 :: rest) w.2 (k w)) : RR en Ex mi ev pc lv (.int p0 :: .ref (ad en 21 0 0) :: rest) σ ((f_X8_findings N p0 σ).bind k) :=
  r_callV (n := 1) [.int p0] ok_X8_findings hlink (in_lwG (by decide +kernel) rfl) (in_lwG (by decide +kernel) rfl) (by decide +kernel) rfl hroom (by decide) o21 rfl rfl hcat (R_X8_findings en N p0  σ) (Nat.le_of_ble_eq_true rfl) hd h
set_option maxHeartbeats 4000000 in
theorem RL_X8_gcd_6 (en : En) (N : Nat) {k : Int64 → Int64 → Option (Int64 × Sg)} (σ : Sg)  (hk : ∀ (v4 : Int64) (v6 : Int64), RR en ExT mi_X8_gcd evL 31 [(4, .long v4)] [] σ (k v4 v6)) : ∀ (n : Nat) (v4 : Int64) (v6 : Int64), RR en ExT mi_X8_gcd evL 6 [(4, .long v4), (6, .long v6)] [] σ (L_X8_gcd_6 N k σ n v4 v6) := by
  intro n
  induction n with
  | zero => intro v4 v6; exact r_none
  | succ n ih =>
    intro v4 v6
    rw [L_X8_gcd_6_s]
    refine r_lload (pc := 6) 1 dX8_gcd_6 rfl ?_
    refine r_lconst (pc := 8) (v := 0) dX8_gcd_8 rfl ?_
    refine r_lcmp (pc := 9) dX8_gcd_9 ?_
    refine r_if_eq (pc := 10) 31 dX8_gcd_10 (by decide) (fun h1 => ?_) (fun h1 => ?_)
    · exact r_sub [0] rfl (hk v4 v6)
    · refine r_lload (pc := 13) 0 dX8_gcd_13 rfl ?_
      refine r_lload (pc := 15) 1 dX8_gcd_15 rfl ?_
      refine r_gd (fun h2 => ?_)
      refine r_lrem (pc := 17) dX8_gcd_17 (of_decide_eq_true h2) ?_
      refine r_lstore (pc := 18) [(8, .long (v4 - v4 / v6 * v6)), (4, .long v4), (6, .long v6)] dX8_gcd_18 (by decide) rfl ?_
      refine r_lload (pc := 20) 2 dX8_gcd_20 rfl ?_
      refine r_lstore (pc := 22) [(4, .long v6), (8, .long (v4 - v4 / v6 * v6)), (6, .long v6)] dX8_gcd_22 (by decide) rfl ?_
      refine r_lload (pc := 24) 1 dX8_gcd_24 rfl ?_
      refine r_lstore (pc := 26) [(6, .long (v4 - v4 / v6 * v6)), (4, .long v6), (8, .long (v4 - v4 / v6 * v6))] dX8_gcd_26 (by decide) rfl ?_
      refine r_goto (pc := 28) 6 dX8_gcd_28 (by decide) ?_
      exact r_sub [1, 0] rfl (ih v6 (v4 - v4 / v6 * v6))
set_option maxHeartbeats 4000000 in
theorem R_X8_gcd (en : En) (N : Nat) (p0 : Int64) (p1 : Int64)  (σ : Sg) : RR en ExT mi_X8_gcd evL 0 [(0, .long p0), (2, .long p1)] [] σ (f_X8_gcd N p0 p1 σ) := by
  unfold f_X8_gcd
  refine r_lload_n (pc := 0) 0 dX8_gcd_0 rfl rfl ?_
  refine r_lstore (pc := 1) [(4, .long p0), (0, .long p0), (2, .long p1)] dX8_gcd_1 (by decide) rfl ?_
  refine r_lload_n (pc := 3) 2 dX8_gcd_3 rfl rfl ?_
  refine r_lstore (pc := 4) [(6, .long p1), (4, .long p0), (0, .long p0), (2, .long p1)] dX8_gcd_4 (by decide) rfl ?_
  refine r_sub [1, 0] rfl (RL_X8_gcd_6 en N σ  (fun v4_1 v6_1 => ?_) N p0 p1)
  refine r_lload (pc := 31) 0 dX8_gcd_31 rfl ?_
  exact r_lret (pc := 33) rfl dX8_gcd_33
theorem ok_X8_gcd : yOk yX8_gcd cX8_gcd 10 (some .long) := ⟨in_lwG (by decide +kernel) rfl, in_lwG (by decide +kernel) rfl, by decide, by decide, by decide⟩
theorem k_X8_gcd {en : En} {Ex : (Nat → Prop) → State → Prop} {mi : Mi} {α : Type} {ev : α → Option Value × Sg} {pc index : Nat} {lv : List (Nat × Value)} {rest : List Value} {σ : Sg} {N : Nat} {k : (Int64 × Sg) → Option α} {p0 : Int64} {p1 : Int64} (hlink : Cond.methodLink mi.1 index yX8_gcd ∈ lwG) (hroom : 1 + 1 ≤ mi.2.2.2.2) (hcat : (rest.map fun v => v.category).sum ≤ 8) (hd : decode mi.2.1 pc = .ok (.invokestatic index, 3))  (h : ∀ w : Int64 × Sg, f_X8_gcd N p0 p1 σ = some w → RR en Ex mi ev (pc + 3) lv (.long w.1 :: rest) w.2 (k w)) : RR en Ex mi ev pc lv (.long p1 :: .long p0 :: rest) σ ((f_X8_gcd N p0 p1 σ).bind k) :=
  r_callS (n := 2) [.long p0, .long p1] ok_X8_gcd hlink (in_lwG (by decide +kernel) rfl) (by decide +kernel) rfl hroom (by decide) hcat (R_X8_gcd en N p0 p1  σ) (Nat.le_of_ble_eq_true rfl) hd h
set_option maxHeartbeats 4000000 in
theorem R_X8_fraction (en : En) (N : Nat) (p0 : Int64) (p1 : Int64)  (σ : Sg) : RR en ExT mi_X8_fraction evV 0 [(0, .ref (ad en 21 0 0)), (1, .long p0), (3, .long p1)] [] σ (f_X8_fraction N p0 p1 σ) := by
  unfold f_X8_fraction
  refine r_lload_n (pc := 0) 1 dX8_fraction_0 rfl rfl ?_
  refine r_lload_n (pc := 1) 2 dX8_fraction_1 rfl rfl ?_
  refine k_X8_gcd (pc := 2) lm_RX8_255  (by decide) (Nat.le_of_ble_eq_true rfl) dX8_fraction_2 (fun w1 h1 => ?_)
  refine r_lstore (pc := 5) [(5, .long w1.1), (0, .ref (ad en 21 0 0)), (1, .long p0), (3, .long p1)] dX8_fraction_5 (by decide) rfl ?_
  refine r_aload_n (pc := 7) 1 dX8_fraction_7 rfl rfl ?_
  refine r_lload_n (pc := 8) 2 dX8_fraction_8 rfl rfl ?_
  refine r_lload (pc := 9) 0 dX8_fraction_9 rfl ?_
  refine r_gd (fun h2 => ?_)
  refine r_ldiv (pc := 11) dX8_fraction_11 (of_decide_eq_true h2) ?_
  refine p_X8_above (pc := 12)  lf_RX8_259 dX8_fraction_12 ?_
  refine r_aload_n (pc := 15) 1 dX8_fraction_15 rfl rfl ?_
  refine r_lload_n (pc := 16) 3 dX8_fraction_16 rfl rfl ?_
  refine r_lload (pc := 17) 0 dX8_fraction_17 rfl ?_
  refine r_ldiv (pc := 19) dX8_fraction_19 (of_decide_eq_true h2) ?_
  refine p_X8_below (pc := 20)  lf_RX8_77 dX8_fraction_20 ?_
  exact r_vret (pc := 23) rfl dX8_fraction_23
theorem ok_X8_fraction : yOk yX8_fraction cX8_fraction 7 none := ⟨in_lwG (by decide +kernel) rfl, in_lwG (by decide +kernel) rfl, by decide, by decide, by decide⟩
theorem k_X8_fraction {en : En} {Ex : (Nat → Prop) → State → Prop} {mi : Mi} {α : Type} {ev : α → Option Value × Sg} {pc index : Nat} {lv : List (Nat × Value)} {rest : List Value} {σ : Sg} {N : Nat} {k : (Sg) → Option α} {p0 : Int64} {p1 : Int64} (hlink : Cond.methodLink mi.1 index yX8_fraction ∈ lwG) (hroom : 2 + 1 ≤ mi.2.2.2.2) (hcat : (rest.map fun v => v.category).sum ≤ 8) (hd : decode mi.2.1 pc = .ok (.invokevirtual index, 3))  (h : ∀ w : Sg, f_X8_fraction N p0 p1 σ = some w → RR en Ex mi ev (pc + 3) lv (rest) w (k w)) : RR en Ex mi ev pc lv (.long p1 :: .long p0 :: .ref (ad en 21 0 0) :: rest) σ ((f_X8_fraction N p0 p1 σ).bind k) :=
  r_callV (n := 2) [.long p0, .long p1] ok_X8_fraction hlink (in_lwG (by decide +kernel) rfl) (in_lwG (by decide +kernel) rfl) (by decide +kernel) rfl hroom (by decide) o21 rfl rfl hcat (R_X8_fraction en N p0 p1  σ) (Nat.le_of_ble_eq_true rfl) hd h
set_option maxHeartbeats 4000000 in
theorem RL_X8_overIt_4 (en : En) (N : Nat) {k : Int32 → Int32 → Sg → Option (Int32 × Sg)} (a1 : Int32)  (hk : ∀ (v2 : Int32) (v3 : Int32) (σ : Sg), RR en ExT mi_X8_overIt evI 104 [(2, .int v2)] [] σ (k v2 v3 σ)) : ∀ (n : Nat) (v2 : Int32) (v3 : Int32) (σ : Sg), RR en ExT mi_X8_overIt evI 4 [(0, .ref (ad en 21 0 0)), (1, .int a1), (2, .int v2), (3, .int v3)] [] σ (L_X8_overIt_4 N k a1 n v2 v3 σ) := by
  intro n
  induction n with
  | zero => intro v2 v3 σ; exact r_none
  | succ n ih =>
    intro v2 v3 σ
    rw [L_X8_overIt_4_s]
    refine r_iload_n (pc := 4) 3 dX8_overIt_4 rfl rfl ?_
    refine r_aload_n (pc := 5) 0 dX8_overIt_5 rfl rfl ?_
    refine g_X8_panes (pc := 6)  lf_RX8_143 dX8_overIt_6 ?_
    refine r_icmp_ge (pc := 9) 104 dX8_overIt_9 (by decide) (fun h1 => ?_) (fun h1 => ?_)
    · exact r_sub [2] rfl (hk v2 v3 σ)
    · refine r_iload_n (pc := 12) 3 dX8_overIt_12 rfl rfl ?_
      refine r_iload_n (pc := 13) 1 dX8_overIt_13 rfl rfl ?_
      refine r_icmp_eq (pc := 14) 44 dX8_overIt_14 (by decide) (fun h2 => ?_) (fun h2 => ?_)
      · refine r_iconst (pc := 44) dX8_overIt_44 kc_iconst_0 ?_
        refine r_istore (pc := 45) [(4, .int (0 : Int32)), (0, .ref (ad en 21 0 0)), (1, .int a1), (2, .int v2), (3, .int v3)] dX8_overIt_45 (by decide) rfl ?_
        refine r_iload_n (pc := 47) 3 dX8_overIt_47 rfl rfl ?_
        refine r_iload (pc := 48) 0 dX8_overIt_48 rfl ?_
        refine r_if_eq_t (pc := 50) 95 dX8_overIt_50 (by decide) (by decide) ?_
        refine r_iconst (pc := 95) dX8_overIt_95 kc_iconst_0 ?_
        refine r_ior (pc := 96) dX8_overIt_96 ?_
        refine r_istore_n (pc := 97) [(2, .int (v2 ||| (0 : Int32))), (4, .int (0 : Int32)), (0, .ref (ad en 21 0 0)), (1, .int a1), (3, .int v3)] dX8_overIt_97 rfl (by decide) rfl ?_
        refine r_iinc (pc := 98) 4 [(3, .int (v3 + (1 : Int32))), (2, .int (v2 ||| (0 : Int32))), (4, .int (0 : Int32)), (0, .ref (ad en 21 0 0)), (1, .int a1)] dX8_overIt_98 rfl rfl (by decide) rfl ?_
        refine r_goto (pc := 101) 4 dX8_overIt_101 (by decide) ?_
        exact r_sub [3, 4, 1, 0] rfl (ih (v2 ||| (0 : Int32)) (v3 + (1 : Int32)) σ)
      · refine r_aload_n (pc := 17) 0 dX8_overIt_17 rfl rfl ?_
        refine g_X8_s (pc := 18)  lf_RX8_34 dX8_overIt_18 ?_
        refine r_bipush (pc := 21) dX8_overIt_21 kc_bipush_21 ?_
        refine r_iald (pc := 23) (n := 22) o22_14 rfl dX8_overIt_23 (fun h3 => ?_)
        refine r_iload_n (pc := 24) 3 dX8_overIt_24 rfl rfl ?_
        refine k_X8_has (pc := 25) lm_RX8_157  (by decide) (Nat.le_of_ble_eq_true rfl) dX8_overIt_25 (fun w1 h4 => ?_)
        refine r_if_eq (pc := 28) 44 dX8_overIt_28 (by decide) (fun h5 => ?_) (fun h5 => ?_)
        · refine r_iconst (pc := 44) dX8_overIt_44 kc_iconst_0 ?_
          refine r_istore (pc := 45) [(4, .int (0 : Int32)), (0, .ref (ad en 21 0 0)), (1, .int a1), (2, .int v2), (3, .int v3)] dX8_overIt_45 (by decide) rfl ?_
          refine r_iload_n (pc := 47) 3 dX8_overIt_47 rfl rfl ?_
          refine r_iload (pc := 48) 0 dX8_overIt_48 rfl ?_
          refine r_if_eq_t (pc := 50) 95 dX8_overIt_50 (by decide) (by decide) ?_
          refine r_iconst (pc := 95) dX8_overIt_95 kc_iconst_0 ?_
          refine r_ior (pc := 96) dX8_overIt_96 ?_
          refine r_istore_n (pc := 97) [(2, .int (v2 ||| (0 : Int32))), (4, .int (0 : Int32)), (0, .ref (ad en 21 0 0)), (1, .int a1), (3, .int v3)] dX8_overIt_97 rfl (by decide) rfl ?_
          refine r_iinc (pc := 98) 4 [(3, .int (v3 + (1 : Int32))), (2, .int (v2 ||| (0 : Int32))), (4, .int (0 : Int32)), (0, .ref (ad en 21 0 0)), (1, .int a1)] dX8_overIt_98 rfl rfl (by decide) rfl ?_
          refine r_goto (pc := 101) 4 dX8_overIt_101 (by decide) ?_
          exact r_sub [3, 4, 1, 0] rfl (ih (v2 ||| (0 : Int32)) (v3 + (1 : Int32)) w1.2)
        · refine r_aload_n (pc := 31) 0 dX8_overIt_31 rfl rfl ?_
          refine r_iload_n (pc := 32) 3 dX8_overIt_32 rfl rfl ?_
          refine r_iload_n (pc := 33) 1 dX8_overIt_33 rfl rfl ?_
          refine k_X8_isOver (pc := 34) lm_RX8_223  (by decide) (Nat.le_of_ble_eq_true rfl) dX8_overIt_34 (fun w2 h6 => ?_)
          refine r_if_eq (pc := 37) 44 dX8_overIt_37 (by decide) (fun h7 => ?_) (fun h7 => ?_)
          · refine r_iconst (pc := 44) dX8_overIt_44 kc_iconst_0 ?_
            refine r_istore (pc := 45) [(4, .int (0 : Int32)), (0, .ref (ad en 21 0 0)), (1, .int a1), (2, .int v2), (3, .int v3)] dX8_overIt_45 (by decide) rfl ?_
            refine r_iload_n (pc := 47) 3 dX8_overIt_47 rfl rfl ?_
            refine r_iload (pc := 48) 0 dX8_overIt_48 rfl ?_
            refine r_if_eq_t (pc := 50) 95 dX8_overIt_50 (by decide) (by decide) ?_
            refine r_iconst (pc := 95) dX8_overIt_95 kc_iconst_0 ?_
            refine r_ior (pc := 96) dX8_overIt_96 ?_
            refine r_istore_n (pc := 97) [(2, .int (v2 ||| (0 : Int32))), (4, .int (0 : Int32)), (0, .ref (ad en 21 0 0)), (1, .int a1), (3, .int v3)] dX8_overIt_97 rfl (by decide) rfl ?_
            refine r_iinc (pc := 98) 4 [(3, .int (v3 + (1 : Int32))), (2, .int (v2 ||| (0 : Int32))), (4, .int (0 : Int32)), (0, .ref (ad en 21 0 0)), (1, .int a1)] dX8_overIt_98 rfl rfl (by decide) rfl ?_
            refine r_goto (pc := 101) 4 dX8_overIt_101 (by decide) ?_
            exact r_sub [3, 4, 1, 0] rfl (ih (v2 ||| (0 : Int32)) (v3 + (1 : Int32)) w2.2)
          · refine r_iconst (pc := 40) dX8_overIt_40 kc_iconst_1 ?_
            refine r_goto (pc := 41) 45 dX8_overIt_41 (by decide) ?_
            refine r_istore (pc := 45) [(4, .int (1 : Int32)), (0, .ref (ad en 21 0 0)), (1, .int a1), (2, .int v2), (3, .int v3)] dX8_overIt_45 (by decide) rfl ?_
            refine r_iload_n (pc := 47) 3 dX8_overIt_47 rfl rfl ?_
            refine r_iload (pc := 48) 0 dX8_overIt_48 rfl ?_
            refine r_if_eq_f (pc := 50) 95 dX8_overIt_50 (by decide) (by decide) ?_
            refine r_aload_n (pc := 53) 1 dX8_overIt_53 rfl rfl ?_
            refine g_X8_coverLow (pc := 54)  lf_RX8_55 dX8_overIt_54 ?_
            refine r_iload_n (pc := 57) 2 dX8_overIt_57 rfl rfl ?_
            refine r_lald (pc := 58) (n := 7) o23_22 rfl dX8_overIt_58 (fun h8 => ?_)
            refine r_aload_n (pc := 59) 1 dX8_overIt_59 rfl rfl ?_
            refine g_X8_coverLow (pc := 60)  lf_RX8_55 dX8_overIt_60 ?_
            refine r_iload_n (pc := 63) 4 dX8_overIt_63 rfl rfl ?_
            refine r_lald (pc := 64) (n := 7) o23_22 rfl dX8_overIt_64 (fun h9 => ?_)
            refine r_land (pc := 65) dX8_overIt_65 ?_
            refine r_lconst (pc := 66) (v := 0) dX8_overIt_66 rfl ?_
            refine r_lcmp (pc := 67) dX8_overIt_67 ?_
            refine r_if_ne (pc := 68) 89 dX8_overIt_68 (by decide) (fun h10 => ?_) (fun h10 => ?_)
            · refine r_aload_n (pc := 71) 1 dX8_overIt_71 rfl rfl ?_
              refine g_X8_coverHigh (pc := 72)  lf_RX8_59 dX8_overIt_72 ?_
              refine r_iload_n (pc := 75) 2 dX8_overIt_75 rfl rfl ?_
              refine r_lald (pc := 76) (n := 7) o23_23 rfl dX8_overIt_76 (fun h11 => ?_)
              refine r_aload_n (pc := 77) 1 dX8_overIt_77 rfl rfl ?_
              refine g_X8_coverHigh (pc := 78)  lf_RX8_59 dX8_overIt_78 ?_
              refine r_iload_n (pc := 81) 4 dX8_overIt_81 rfl rfl ?_
              refine r_lald (pc := 82) (n := 7) o23_23 rfl dX8_overIt_82 (fun h12 => ?_)
              refine r_land (pc := 83) dX8_overIt_83 ?_
              refine r_lconst (pc := 84) (v := 0) dX8_overIt_84 rfl ?_
              refine r_lcmp (pc := 85) dX8_overIt_85 ?_
              refine r_if_eq (pc := 86) 95 dX8_overIt_86 (by decide) (fun h13 => ?_) (fun h13 => ?_)
              · refine r_iconst (pc := 95) dX8_overIt_95 kc_iconst_0 ?_
                refine r_ior (pc := 96) dX8_overIt_96 ?_
                refine r_istore_n (pc := 97) [(2, .int (v2 ||| (0 : Int32))), (4, .int (1 : Int32)), (0, .ref (ad en 21 0 0)), (1, .int a1), (3, .int v3)] dX8_overIt_97 rfl (by decide) rfl ?_
                refine r_iinc (pc := 98) 4 [(3, .int (v3 + (1 : Int32))), (2, .int (v2 ||| (0 : Int32))), (4, .int (1 : Int32)), (0, .ref (ad en 21 0 0)), (1, .int a1)] dX8_overIt_98 rfl rfl (by decide) rfl ?_
                refine r_goto (pc := 101) 4 dX8_overIt_101 (by decide) ?_
                exact r_sub [3, 4, 1, 0] rfl (ih (v2 ||| (0 : Int32)) (v3 + (1 : Int32)) w2.2)
              · refine r_iconst (pc := 89) dX8_overIt_89 kc_iconst_1 ?_
                refine r_iload_n (pc := 90) 4 dX8_overIt_90 rfl rfl ?_
                refine r_ishl (pc := 91) dX8_overIt_91 ?_
                refine r_goto (pc := 92) 96 dX8_overIt_92 (by decide) ?_
                refine r_ior (pc := 96) dX8_overIt_96 ?_
                refine r_istore_n (pc := 97) [(2, .int (v2 ||| ((1 : Int32) <<< (v3 &&& 31)))), (4, .int (1 : Int32)), (0, .ref (ad en 21 0 0)), (1, .int a1), (3, .int v3)] dX8_overIt_97 rfl (by decide) rfl ?_
                refine r_iinc (pc := 98) 4 [(3, .int (v3 + (1 : Int32))), (2, .int (v2 ||| ((1 : Int32) <<< (v3 &&& 31)))), (4, .int (1 : Int32)), (0, .ref (ad en 21 0 0)), (1, .int a1)] dX8_overIt_98 rfl rfl (by decide) rfl ?_
                refine r_goto (pc := 101) 4 dX8_overIt_101 (by decide) ?_
                exact r_sub [3, 4, 1, 0] rfl (ih (v2 ||| ((1 : Int32) <<< (v3 &&& 31))) (v3 + (1 : Int32)) w2.2)
            · refine r_iconst (pc := 89) dX8_overIt_89 kc_iconst_1 ?_
              refine r_iload_n (pc := 90) 4 dX8_overIt_90 rfl rfl ?_
              refine r_ishl (pc := 91) dX8_overIt_91 ?_
              refine r_goto (pc := 92) 96 dX8_overIt_92 (by decide) ?_
              refine r_ior (pc := 96) dX8_overIt_96 ?_
              refine r_istore_n (pc := 97) [(2, .int (v2 ||| ((1 : Int32) <<< (v3 &&& 31)))), (4, .int (1 : Int32)), (0, .ref (ad en 21 0 0)), (1, .int a1), (3, .int v3)] dX8_overIt_97 rfl (by decide) rfl ?_
              refine r_iinc (pc := 98) 4 [(3, .int (v3 + (1 : Int32))), (2, .int (v2 ||| ((1 : Int32) <<< (v3 &&& 31)))), (4, .int (1 : Int32)), (0, .ref (ad en 21 0 0)), (1, .int a1)] dX8_overIt_98 rfl rfl (by decide) rfl ?_
              refine r_goto (pc := 101) 4 dX8_overIt_101 (by decide) ?_
              exact r_sub [3, 4, 1, 0] rfl (ih (v2 ||| ((1 : Int32) <<< (v3 &&& 31))) (v3 + (1 : Int32)) w2.2)
set_option maxHeartbeats 4000000 in
theorem R_X8_overIt (en : En) (N : Nat) (p0 : Int32)  (σ : Sg) : RR en ExT mi_X8_overIt evI 0 [(0, .ref (ad en 21 0 0)), (1, .int p0)] [] σ (f_X8_overIt N p0 σ) := by
  unfold f_X8_overIt
  refine r_iconst (pc := 0) dX8_overIt_0 kc_iconst_0 ?_
  refine r_istore_n (pc := 1) [(2, .int (0 : Int32)), (0, .ref (ad en 21 0 0)), (1, .int p0)] dX8_overIt_1 rfl (by decide) rfl ?_
  refine r_iconst (pc := 2) dX8_overIt_2 kc_iconst_0 ?_
  refine r_istore_n (pc := 3) [(3, .int (0 : Int32)), (2, .int (0 : Int32)), (0, .ref (ad en 21 0 0)), (1, .int p0)] dX8_overIt_3 rfl (by decide) rfl ?_
  refine r_sub [2, 3, 1, 0] rfl (RL_X8_overIt_4 en N p0  (fun v2_3 v3_3 σ_3 => ?_) N (0 : Int32) (0 : Int32) σ)
  refine r_iload_n (pc := 104) 0 dX8_overIt_104 rfl rfl ?_
  exact r_iret (pc := 105) rfl dX8_overIt_105
theorem ok_X8_overIt : yOk yX8_overIt cX8_overIt 5 (some .int) := ⟨in_lwG (by decide +kernel) rfl, in_lwG (by decide +kernel) rfl, by decide, by decide, by decide⟩
theorem k_X8_overIt {en : En} {Ex : (Nat → Prop) → State → Prop} {mi : Mi} {α : Type} {ev : α → Option Value × Sg} {pc index : Nat} {lv : List (Nat × Value)} {rest : List Value} {σ : Sg} {N : Nat} {k : (Int32 × Sg) → Option α} {p0 : Int32} (hlink : Cond.methodLink mi.1 index yX8_overIt ∈ lwG) (hroom : 3 + 1 ≤ mi.2.2.2.2) (hcat : (rest.map fun v => v.category).sum ≤ 8) (hd : decode mi.2.1 pc = .ok (.invokevirtual index, 3))  (h : ∀ w : Int32 × Sg, f_X8_overIt N p0 σ = some w → RR en Ex mi ev (pc + 3) lv (.int w.1 :: rest) w.2 (k w)) : RR en Ex mi ev pc lv (.int p0 :: .ref (ad en 21 0 0) :: rest) σ ((f_X8_overIt N p0 σ).bind k) :=
  r_callV (n := 1) [.int p0] ok_X8_overIt hlink (in_lwG (by decide +kernel) rfl) (in_lwG (by decide +kernel) rfl) (by decide +kernel) rfl hroom (by decide) o21 rfl rfl hcat (R_X8_overIt en N p0  σ) (Nat.le_of_ble_eq_true rfl) hd h
set_option maxHeartbeats 4000000 in
theorem R_X8_free (en : En) (N : Nat) (p0 : Int32)  (σ : Sg) : RR en ExT mi_X8_free evI 0 [(0, .ref (ad en 21 0 0)), (1, .int p0)] [] σ (f_X8_free N p0 σ) := by
  unfold f_X8_free
  refine r_aload_n (pc := 0) 0 dX8_free_0 rfl rfl ?_
  refine r_iconst (pc := 1) dX8_free_1 kc_iconst_0 ?_
  refine p_X8_thrown (pc := 2)  lf_RX8_81 dX8_free_2 ?_
  refine r_aload_n (pc := 5) 0 dX8_free_5 rfl rfl ?_
  refine r_iload_n (pc := 6) 1 dX8_free_6 rfl rfl ?_
  refine k_X8_againstOpen (pc := 7) lm_RX8_226  (by decide) (Nat.le_of_ble_eq_true rfl) dX8_free_7 (fun w1 h1 => ?_)
  refine r_istore_n (pc := 10) [(2, .int w1.1), (0, .ref (ad en 21 0 0)), (1, .int p0)] dX8_free_10 rfl (by decide) rfl ?_
  refine r_iload_n (pc := 11) 0 dX8_free_11 rfl rfl ?_
  refine r_if_eq (pc := 12) 17 dX8_free_12 (by decide) (fun h2 => ?_) (fun h2 => ?_)
  · refine r_aload_n (pc := 17) 1 dX8_free_17 rfl rfl ?_
    refine k_X8_sees (pc := 18) lm_RX8_182  (by decide) (Nat.le_of_ble_eq_true rfl) dX8_free_18 (fun w2 h3 => ?_)
    refine r_aload_n (pc := 21) 1 dX8_free_21 rfl rfl ?_
    refine r_iload_n (pc := 22) 2 dX8_free_22 rfl rfl ?_
    refine k_X8_overIt (pc := 23) lm_RX8_229  (by decide) (Nat.le_of_ble_eq_true rfl) dX8_free_23 (fun w3 h4 => ?_)
    refine r_istore_n (pc := 26) [(3, .int w3.1), (2, .int w1.1), (0, .ref (ad en 21 0 0)), (1, .int p0)] dX8_free_26 rfl (by decide) rfl ?_
    refine r_aload_n (pc := 27) 2 dX8_free_27 rfl rfl ?_
    refine r_iload_n (pc := 28) 0 dX8_free_28 rfl rfl ?_
    refine r_iload_n (pc := 29) 0 dX8_free_29 rfl rfl ?_
    refine r_i2l (pc := 30) dX8_free_30 ?_
    refine k_X8_ones (pc := 31) lm_RX8_172  (by decide) (Nat.le_of_ble_eq_true rfl) dX8_free_31 (fun w4 h5 => ?_)
    refine k_X8_tells (pc := 34) lm_RX8_107  (by decide) (Nat.le_of_ble_eq_true rfl) dX8_free_34 (fun w5 h6 => ?_)
    exact r_iret (pc := 37) rfl dX8_free_37
  · refine r_iload_n (pc := 15) 0 dX8_free_15 rfl rfl ?_
    exact r_iret (pc := 16) rfl dX8_free_16
theorem ok_X8_free : yOk yX8_free cX8_free 4 (some .int) := ⟨in_lwG (by decide +kernel) rfl, in_lwG (by decide +kernel) rfl, by decide, by decide, by decide⟩
theorem k_X8_free {en : En} {Ex : (Nat → Prop) → State → Prop} {mi : Mi} {α : Type} {ev : α → Option Value × Sg} {pc index : Nat} {lv : List (Nat × Value)} {rest : List Value} {σ : Sg} {N : Nat} {k : (Int32 × Sg) → Option α} {p0 : Int32} (hlink : Cond.methodLink mi.1 index yX8_free ∈ lwG) (hroom : 6 + 1 ≤ mi.2.2.2.2) (hcat : (rest.map fun v => v.category).sum ≤ 8) (hd : decode mi.2.1 pc = .ok (.invokevirtual index, 3))  (h : ∀ w : Int32 × Sg, f_X8_free N p0 σ = some w → RR en Ex mi ev (pc + 3) lv (.int w.1 :: rest) w.2 (k w)) : RR en Ex mi ev pc lv (.int p0 :: .ref (ad en 21 0 0) :: rest) σ ((f_X8_free N p0 σ).bind k) :=
  r_callV (n := 1) [.int p0] ok_X8_free hlink (in_lwG (by decide +kernel) rfl) (in_lwG (by decide +kernel) rfl) (by decide +kernel) rfl hroom (by decide) o21 rfl rfl hcat (R_X8_free en N p0  σ) (Nat.le_of_ble_eq_true rfl) hd h
set_option maxHeartbeats 4000000 in
theorem R_X8_isCoverAt (en : En) (N : Nat) (p0 : Int32) (p1 : Int32)  (σ : Sg) : RR en ExT mi_X8_isCoverAt evI 0 [(0, .ref (ad en 21 0 0)), (1, .int p0), (2, .int p1)] [] σ (f_X8_isCoverAt N p0 p1 σ) := by
  unfold f_X8_isCoverAt
  refine r_iload_n (pc := 0) 2 dX8_isCoverAt_0 rfl rfl ?_
  refine r_bipush (pc := 1) dX8_isCoverAt_1 kc_bipush_48 ?_
  refine r_icmp_ge (pc := 3) 29 dX8_isCoverAt_3 (by decide) (fun h1 => ?_) (fun h1 => ?_)
  · refine r_aload_n (pc := 29) 0 dX8_isCoverAt_29 rfl rfl ?_
    refine g_X8_coverHigh (pc := 30)  lf_RX8_59 dX8_isCoverAt_30 ?_
    refine r_iload_n (pc := 33) 1 dX8_isCoverAt_33 rfl rfl ?_
    refine r_lald (pc := 34) (n := 7) o23_23 rfl dX8_isCoverAt_34 (fun h2 => ?_)
    refine r_iload_n (pc := 35) 2 dX8_isCoverAt_35 rfl rfl ?_
    refine r_bipush (pc := 36) dX8_isCoverAt_36 kc_bipush_48 ?_
    refine r_isub (pc := 38) dX8_isCoverAt_38 ?_
    refine r_lshr (pc := 39) dX8_isCoverAt_39 ?_
    refine r_lconst (pc := 40) (v := 1) dX8_isCoverAt_40 rfl ?_
    refine r_land (pc := 41) dX8_isCoverAt_41 ?_
    refine r_lconst (pc := 42) (v := 1) dX8_isCoverAt_42 rfl ?_
    refine r_lcmp (pc := 43) dX8_isCoverAt_43 ?_
    refine r_if_ne (pc := 44) 51 dX8_isCoverAt_44 (by decide) (fun h3 => ?_) (fun h3 => ?_)
    · refine r_iconst (pc := 47) dX8_isCoverAt_47 kc_iconst_1 ?_
      refine r_goto (pc := 48) 52 dX8_isCoverAt_48 (by decide) ?_
      exact r_zret (pc := 52) rfl rfl dX8_isCoverAt_52
    · refine r_iconst (pc := 51) dX8_isCoverAt_51 kc_iconst_0 ?_
      exact r_zret (pc := 52) rfl rfl dX8_isCoverAt_52
  · refine r_aload_n (pc := 6) 0 dX8_isCoverAt_6 rfl rfl ?_
    refine g_X8_coverLow (pc := 7)  lf_RX8_55 dX8_isCoverAt_7 ?_
    refine r_iload_n (pc := 10) 1 dX8_isCoverAt_10 rfl rfl ?_
    refine r_lald (pc := 11) (n := 7) o23_22 rfl dX8_isCoverAt_11 (fun h4 => ?_)
    refine r_iload_n (pc := 12) 2 dX8_isCoverAt_12 rfl rfl ?_
    refine r_lshr (pc := 13) dX8_isCoverAt_13 ?_
    refine r_lconst (pc := 14) (v := 1) dX8_isCoverAt_14 rfl ?_
    refine r_land (pc := 15) dX8_isCoverAt_15 ?_
    refine r_lconst (pc := 16) (v := 1) dX8_isCoverAt_16 rfl ?_
    refine r_lcmp (pc := 17) dX8_isCoverAt_17 ?_
    refine r_if_ne (pc := 18) 25 dX8_isCoverAt_18 (by decide) (fun h5 => ?_) (fun h5 => ?_)
    · refine r_iconst (pc := 21) dX8_isCoverAt_21 kc_iconst_1 ?_
      refine r_goto (pc := 22) 52 dX8_isCoverAt_22 (by decide) ?_
      exact r_zret (pc := 52) rfl rfl dX8_isCoverAt_52
    · refine r_iconst (pc := 25) dX8_isCoverAt_25 kc_iconst_0 ?_
      refine r_goto (pc := 26) 52 dX8_isCoverAt_26 (by decide) ?_
      exact r_zret (pc := 52) rfl rfl dX8_isCoverAt_52
theorem ok_X8_isCoverAt : yOk yX8_isCoverAt cX8_isCoverAt 3 (some .boolean) := ⟨in_lwG (by decide +kernel) rfl, in_lwG (by decide +kernel) rfl, by decide, by decide, by decide⟩
theorem k_X8_isCoverAt {en : En} {Ex : (Nat → Prop) → State → Prop} {mi : Mi} {α : Type} {ev : α → Option Value × Sg} {pc index : Nat} {lv : List (Nat × Value)} {rest : List Value} {σ : Sg} {N : Nat} {k : (Int32 × Sg) → Option α} {p0 : Int32} {p1 : Int32} (hlink : Cond.methodLink mi.1 index yX8_isCoverAt ∈ lwG) (hroom : 1 + 1 ≤ mi.2.2.2.2) (hcat : (rest.map fun v => v.category).sum ≤ 8) (hd : decode mi.2.1 pc = .ok (.invokevirtual index, 3))  (h : ∀ w : Int32 × Sg, f_X8_isCoverAt N p0 p1 σ = some w → RR en Ex mi ev (pc + 3) lv (.int w.1 :: rest) w.2 (k w)) : RR en Ex mi ev pc lv (.int p1 :: .int p0 :: .ref (ad en 21 0 0) :: rest) σ ((f_X8_isCoverAt N p0 p1 σ).bind k) :=
  r_callV (n := 2) [.int p0, .int p1] ok_X8_isCoverAt hlink (in_lwG (by decide +kernel) rfl) (in_lwG (by decide +kernel) rfl) (by decide +kernel) rfl hroom (by decide) o21 rfl rfl hcat (R_X8_isCoverAt en N p0 p1  σ) (Nat.le_of_ble_eq_true rfl) hd h
set_option maxHeartbeats 4000000 in
theorem R_X8_isOn (en : En) (N : Nat) (p0 : Int32) (p1 : Int32) (p2 : Int32)  (σ : Sg) : RR en ExT mi_X8_isOn evI 0 [(0, .ref (ad en 21 0 0)), (1, .int p0), (2, .int p1), (3, .int p2)] [] σ (f_X8_isOn N p0 p1 p2 σ) := by
  unfold f_X8_isOn
  refine r_aload_n (pc := 0) 0 dX8_isOn_0 rfl rfl ?_
  refine g_X8_s (pc := 1)  lf_RX8_34 dX8_isOn_1 ?_
  refine r_iconst (pc := 4) dX8_isOn_4 kc_iconst_0 ?_
  refine r_iload_n (pc := 5) 1 dX8_isOn_5 rfl rfl ?_
  refine r_iadd (pc := 6) dX8_isOn_6 ?_
  refine r_iald (pc := 7) (n := 22) o22_14 rfl dX8_isOn_7 (fun h1 => ?_)
  refine r_iload_n (pc := 8) 2 dX8_isOn_8 rfl rfl ?_
  refine r_iadd (pc := 9) dX8_isOn_9 ?_
  refine r_iconst (pc := 10) dX8_isOn_10 kc_iconst_0 ?_
  refine r_bipush (pc := 11) dX8_isOn_11 kc_bipush_12 ?_
  refine r_aload_n (pc := 13) 0 dX8_isOn_13 rfl rfl ?_
  refine g_X8_wide (pc := 14)  lf_RX8_28 dX8_isOn_14 ?_
  refine r_iload_n (pc := 17) 1 dX8_isOn_17 rfl rfl ?_
  refine r_iald (pc := 18) (n := 7) o22_12 rfl dX8_isOn_18 (fun h2 => ?_)
  refine r_isub (pc := 19) dX8_isOn_19 ?_
  refine k_X8_in (pc := 20) lm_RX8_91  (by decide) (Nat.le_of_ble_eq_true rfl) dX8_isOn_20 (fun w1 h3 => ?_)
  refine r_if_eq (pc := 23) 57 dX8_isOn_23 (by decide) (fun h4 => ?_) (fun h4 => ?_)
  · refine r_iconst (pc := 57) dX8_isOn_57 kc_iconst_0 ?_
    exact r_zret (pc := 58) rfl rfl dX8_isOn_58
  · refine r_aload_n (pc := 26) 0 dX8_isOn_26 rfl rfl ?_
    refine g_X8_s (pc := 27)  lf_RX8_34 dX8_isOn_27 ?_
    refine r_bipush (pc := 30) dX8_isOn_30 kc_bipush_7 ?_
    refine r_iload_n (pc := 32) 1 dX8_isOn_32 rfl rfl ?_
    refine r_iadd (pc := 33) dX8_isOn_33 ?_
    refine r_iald (pc := 34) (n := 22) o22_14 rfl dX8_isOn_34 (fun h5 => ?_)
    refine r_iload_n (pc := 35) 3 dX8_isOn_35 rfl rfl ?_
    refine r_iadd (pc := 36) dX8_isOn_36 ?_
    refine r_iconst (pc := 37) dX8_isOn_37 kc_iconst_0 ?_
    refine r_bipush (pc := 38) dX8_isOn_38 kc_bipush_8 ?_
    refine r_aload_n (pc := 40) 0 dX8_isOn_40 rfl rfl ?_
    refine g_X8_high (pc := 41)  lf_RX8_31 dX8_isOn_41 ?_
    refine r_iload_n (pc := 44) 1 dX8_isOn_44 rfl rfl ?_
    refine r_iald (pc := 45) (n := 7) o22_13 rfl dX8_isOn_45 (fun h6 => ?_)
    refine r_isub (pc := 46) dX8_isOn_46 ?_
    refine k_X8_in (pc := 47) lm_RX8_91  (by decide) (Nat.le_of_ble_eq_true rfl) dX8_isOn_47 (fun w2 h7 => ?_)
    refine r_if_eq (pc := 50) 57 dX8_isOn_50 (by decide) (fun h8 => ?_) (fun h8 => ?_)
    · refine r_iconst (pc := 57) dX8_isOn_57 kc_iconst_0 ?_
      exact r_zret (pc := 58) rfl rfl dX8_isOn_58
    · refine r_iconst (pc := 53) dX8_isOn_53 kc_iconst_1 ?_
      refine r_goto (pc := 54) 58 dX8_isOn_54 (by decide) ?_
      exact r_zret (pc := 58) rfl rfl dX8_isOn_58
theorem ok_X8_isOn : yOk yX8_isOn cX8_isOn 4 (some .boolean) := ⟨in_lwG (by decide +kernel) rfl, in_lwG (by decide +kernel) rfl, by decide, by decide, by decide⟩
theorem k_X8_isOn {en : En} {Ex : (Nat → Prop) → State → Prop} {mi : Mi} {α : Type} {ev : α → Option Value × Sg} {pc index : Nat} {lv : List (Nat × Value)} {rest : List Value} {σ : Sg} {N : Nat} {k : (Int32 × Sg) → Option α} {p0 : Int32} {p1 : Int32} {p2 : Int32} (hlink : Cond.methodLink mi.1 index yX8_isOn ∈ lwG) (hroom : 2 + 1 ≤ mi.2.2.2.2) (hcat : (rest.map fun v => v.category).sum ≤ 8) (hd : decode mi.2.1 pc = .ok (.invokevirtual index, 3))  (h : ∀ w : Int32 × Sg, f_X8_isOn N p0 p1 p2 σ = some w → RR en Ex mi ev (pc + 3) lv (.int w.1 :: rest) w.2 (k w)) : RR en Ex mi ev pc lv (.int p2 :: .int p1 :: .int p0 :: .ref (ad en 21 0 0) :: rest) σ ((f_X8_isOn N p0 p1 p2 σ).bind k) :=
  r_callV (n := 3) [.int p0, .int p1, .int p2] ok_X8_isOn hlink (in_lwG (by decide +kernel) rfl) (in_lwG (by decide +kernel) rfl) (by decide +kernel) rfl hroom (by decide) o21 rfl rfl hcat (R_X8_isOn en N p0 p1 p2  σ) (Nat.le_of_ble_eq_true rfl) hd h
set_option maxHeartbeats 4000000 in
theorem R_X8_isSeenAt (en : En) (N : Nat) (p0 : Int32) (p1 : Int32)  (σ : Sg) : RR en ExT mi_X8_isSeenAt evI 0 [(0, .ref (ad en 21 0 0)), (1, .int p0), (2, .int p1)] [] σ (f_X8_isSeenAt N p0 p1 σ) := by
  unfold f_X8_isSeenAt
  refine r_iload_n (pc := 0) 2 dX8_isSeenAt_0 rfl rfl ?_
  refine r_bipush (pc := 1) dX8_isSeenAt_1 kc_bipush_48 ?_
  refine r_icmp_ge (pc := 3) 29 dX8_isSeenAt_3 (by decide) (fun h1 => ?_) (fun h1 => ?_)
  · refine r_aload_n (pc := 29) 0 dX8_isSeenAt_29 rfl rfl ?_
    refine g_X8_seenHigh (pc := 30)  lf_RX8_65 dX8_isSeenAt_30 ?_
    refine r_iload_n (pc := 33) 1 dX8_isSeenAt_33 rfl rfl ?_
    refine r_lald (pc := 34) (n := 7) o23_25 rfl dX8_isSeenAt_34 (fun h2 => ?_)
    refine r_iload_n (pc := 35) 2 dX8_isSeenAt_35 rfl rfl ?_
    refine r_bipush (pc := 36) dX8_isSeenAt_36 kc_bipush_48 ?_
    refine r_isub (pc := 38) dX8_isSeenAt_38 ?_
    refine r_lshr (pc := 39) dX8_isSeenAt_39 ?_
    refine r_lconst (pc := 40) (v := 1) dX8_isSeenAt_40 rfl ?_
    refine r_land (pc := 41) dX8_isSeenAt_41 ?_
    refine r_lconst (pc := 42) (v := 1) dX8_isSeenAt_42 rfl ?_
    refine r_lcmp (pc := 43) dX8_isSeenAt_43 ?_
    refine r_if_ne (pc := 44) 51 dX8_isSeenAt_44 (by decide) (fun h3 => ?_) (fun h3 => ?_)
    · refine r_iconst (pc := 47) dX8_isSeenAt_47 kc_iconst_1 ?_
      refine r_goto (pc := 48) 52 dX8_isSeenAt_48 (by decide) ?_
      exact r_zret (pc := 52) rfl rfl dX8_isSeenAt_52
    · refine r_iconst (pc := 51) dX8_isSeenAt_51 kc_iconst_0 ?_
      exact r_zret (pc := 52) rfl rfl dX8_isSeenAt_52
  · refine r_aload_n (pc := 6) 0 dX8_isSeenAt_6 rfl rfl ?_
    refine g_X8_seenLow (pc := 7)  lf_RX8_62 dX8_isSeenAt_7 ?_
    refine r_iload_n (pc := 10) 1 dX8_isSeenAt_10 rfl rfl ?_
    refine r_lald (pc := 11) (n := 7) o23_24 rfl dX8_isSeenAt_11 (fun h4 => ?_)
    refine r_iload_n (pc := 12) 2 dX8_isSeenAt_12 rfl rfl ?_
    refine r_lshr (pc := 13) dX8_isSeenAt_13 ?_
    refine r_lconst (pc := 14) (v := 1) dX8_isSeenAt_14 rfl ?_
    refine r_land (pc := 15) dX8_isSeenAt_15 ?_
    refine r_lconst (pc := 16) (v := 1) dX8_isSeenAt_16 rfl ?_
    refine r_lcmp (pc := 17) dX8_isSeenAt_17 ?_
    refine r_if_ne (pc := 18) 25 dX8_isSeenAt_18 (by decide) (fun h5 => ?_) (fun h5 => ?_)
    · refine r_iconst (pc := 21) dX8_isSeenAt_21 kc_iconst_1 ?_
      refine r_goto (pc := 22) 52 dX8_isSeenAt_22 (by decide) ?_
      exact r_zret (pc := 52) rfl rfl dX8_isSeenAt_52
    · refine r_iconst (pc := 25) dX8_isSeenAt_25 kc_iconst_0 ?_
      refine r_goto (pc := 26) 52 dX8_isSeenAt_26 (by decide) ?_
      exact r_zret (pc := 52) rfl rfl dX8_isSeenAt_52
theorem ok_X8_isSeenAt : yOk yX8_isSeenAt cX8_isSeenAt 3 (some .boolean) := ⟨in_lwG (by decide +kernel) rfl, in_lwG (by decide +kernel) rfl, by decide, by decide, by decide⟩
theorem k_X8_isSeenAt {en : En} {Ex : (Nat → Prop) → State → Prop} {mi : Mi} {α : Type} {ev : α → Option Value × Sg} {pc index : Nat} {lv : List (Nat × Value)} {rest : List Value} {σ : Sg} {N : Nat} {k : (Int32 × Sg) → Option α} {p0 : Int32} {p1 : Int32} (hlink : Cond.methodLink mi.1 index yX8_isSeenAt ∈ lwG) (hroom : 1 + 1 ≤ mi.2.2.2.2) (hcat : (rest.map fun v => v.category).sum ≤ 8) (hd : decode mi.2.1 pc = .ok (.invokevirtual index, 3))  (h : ∀ w : Int32 × Sg, f_X8_isSeenAt N p0 p1 σ = some w → RR en Ex mi ev (pc + 3) lv (.int w.1 :: rest) w.2 (k w)) : RR en Ex mi ev pc lv (.int p1 :: .int p0 :: .ref (ad en 21 0 0) :: rest) σ ((f_X8_isSeenAt N p0 p1 σ).bind k) :=
  r_callV (n := 2) [.int p0, .int p1] ok_X8_isSeenAt hlink (in_lwG (by decide +kernel) rfl) (in_lwG (by decide +kernel) rfl) (by decide +kernel) rfl hroom (by decide) o21 rfl rfl hcat (R_X8_isSeenAt en N p0 p1  σ) (Nat.le_of_ble_eq_true rfl) hd h
set_option maxHeartbeats 4000000 in
theorem RL_X8_whoAt_4 (en : En) (N : Nat) {k : Int32 → Int32 → Sg → Option (Int32 × Sg)} (a1 : Int32)  (hk : ∀ (v2 : Int32) (v3 : Int32) (σ : Sg), RR en ExT mi_X8_whoAt evI 33 [(2, .int v2)] [] σ (k v2 v3 σ)) : ∀ (n : Nat) (v2 : Int32) (v3 : Int32) (σ : Sg), RR en ExT mi_X8_whoAt evI 4 [(0, .ref (ad en 21 0 0)), (1, .int a1), (2, .int v2), (3, .int v3)] [] σ (L_X8_whoAt_4 N k a1 n v2 v3 σ) := by
  intro n
  induction n with
  | zero => intro v2 v3 σ; exact r_none
  | succ n ih =>
    intro v2 v3 σ
    rw [L_X8_whoAt_4_s]
    refine r_iload_n (pc := 4) 3 dX8_whoAt_4 rfl rfl ?_
    refine r_aload_n (pc := 5) 0 dX8_whoAt_5 rfl rfl ?_
    refine g_X8_panes (pc := 6)  lf_RX8_143 dX8_whoAt_6 ?_
    refine r_icmp_ge (pc := 9) 33 dX8_whoAt_9 (by decide) (fun h1 => ?_) (fun h1 => ?_)
    · exact r_sub [2] rfl (hk v2 v3 σ)
    · refine r_aload_n (pc := 12) 0 dX8_whoAt_12 rfl rfl ?_
      refine r_iload_n (pc := 13) 3 dX8_whoAt_13 rfl rfl ?_
      refine r_iload_n (pc := 14) 1 dX8_whoAt_14 rfl rfl ?_
      refine k_X8_isSeenAt (pc := 15) lm_RX8_176  (by decide) (Nat.le_of_ble_eq_true rfl) dX8_whoAt_15 (fun w1 h2 => ?_)
      refine r_if_eq (pc := 18) 25 dX8_whoAt_18 (by decide) (fun h3 => ?_) (fun h3 => ?_)
      · refine r_iload_n (pc := 25) 2 dX8_whoAt_25 rfl rfl ?_
        refine r_istore_n (pc := 26) [(2, .int v2), (0, .ref (ad en 21 0 0)), (1, .int a1), (3, .int v3)] dX8_whoAt_26 rfl (by decide) rfl ?_
        refine r_iinc (pc := 27) 3 [(3, .int (v3 + (1 : Int32))), (2, .int v2), (0, .ref (ad en 21 0 0)), (1, .int a1)] dX8_whoAt_27 rfl rfl (by decide) rfl ?_
        refine r_goto (pc := 30) 4 dX8_whoAt_30 (by decide) ?_
        exact r_sub [2, 3, 1, 0] rfl (ih v2 (v3 + (1 : Int32)) w1.2)
      · refine r_iload_n (pc := 21) 3 dX8_whoAt_21 rfl rfl ?_
        refine r_goto (pc := 22) 26 dX8_whoAt_22 (by decide) ?_
        refine r_istore_n (pc := 26) [(2, .int v3), (0, .ref (ad en 21 0 0)), (1, .int a1), (3, .int v3)] dX8_whoAt_26 rfl (by decide) rfl ?_
        refine r_iinc (pc := 27) 3 [(3, .int (v3 + (1 : Int32))), (2, .int v3), (0, .ref (ad en 21 0 0)), (1, .int a1)] dX8_whoAt_27 rfl rfl (by decide) rfl ?_
        refine r_goto (pc := 30) 4 dX8_whoAt_30 (by decide) ?_
        exact r_sub [2, 3, 1, 0] rfl (ih v3 (v3 + (1 : Int32)) w1.2)
set_option maxHeartbeats 4000000 in
theorem R_X8_whoAt (en : En) (N : Nat) (p0 : Int32)  (σ : Sg) : RR en ExT mi_X8_whoAt evI 0 [(0, .ref (ad en 21 0 0)), (1, .int p0)] [] σ (f_X8_whoAt N p0 σ) := by
  unfold f_X8_whoAt
  refine r_iconst (pc := 0) dX8_whoAt_0 kc_iconst_m1 ?_
  refine r_istore_n (pc := 1) [(2, .int (-1 : Int32)), (0, .ref (ad en 21 0 0)), (1, .int p0)] dX8_whoAt_1 rfl (by decide) rfl ?_
  refine r_iconst (pc := 2) dX8_whoAt_2 kc_iconst_0 ?_
  refine r_istore_n (pc := 3) [(3, .int (0 : Int32)), (2, .int (-1 : Int32)), (0, .ref (ad en 21 0 0)), (1, .int p0)] dX8_whoAt_3 rfl (by decide) rfl ?_
  refine r_sub [2, 3, 1, 0] rfl (RL_X8_whoAt_4 en N p0  (fun v2_2 v3_2 σ_2 => ?_) N (-1 : Int32) (0 : Int32) σ)
  refine r_iload_n (pc := 33) 0 dX8_whoAt_33 rfl rfl ?_
  exact r_iret (pc := 34) rfl dX8_whoAt_34
theorem ok_X8_whoAt : yOk yX8_whoAt cX8_whoAt 4 (some .int) := ⟨in_lwG (by decide +kernel) rfl, in_lwG (by decide +kernel) rfl, by decide, by decide, by decide⟩
theorem k_X8_whoAt {en : En} {Ex : (Nat → Prop) → State → Prop} {mi : Mi} {α : Type} {ev : α → Option Value × Sg} {pc index : Nat} {lv : List (Nat × Value)} {rest : List Value} {σ : Sg} {N : Nat} {k : (Int32 × Sg) → Option α} {p0 : Int32} (hlink : Cond.methodLink mi.1 index yX8_whoAt ∈ lwG) (hroom : 2 + 1 ≤ mi.2.2.2.2) (hcat : (rest.map fun v => v.category).sum ≤ 8) (hd : decode mi.2.1 pc = .ok (.invokevirtual index, 3))  (h : ∀ w : Int32 × Sg, f_X8_whoAt N p0 σ = some w → RR en Ex mi ev (pc + 3) lv (.int w.1 :: rest) w.2 (k w)) : RR en Ex mi ev pc lv (.int p0 :: .ref (ad en 21 0 0) :: rest) σ ((f_X8_whoAt N p0 σ).bind k) :=
  r_callV (n := 1) [.int p0] ok_X8_whoAt hlink (in_lwG (by decide +kernel) rfl) (in_lwG (by decide +kernel) rfl) (by decide +kernel) rfl hroom (by decide) o21 rfl rfl hcat (R_X8_whoAt en N p0  σ) (Nat.le_of_ble_eq_true rfl) hd h
set_option maxHeartbeats 4000000 in
theorem RL_X8_isSo_6 (en : En) (N : Nat) {k : Int32 → Sg → Option (Int32 × Sg)} (a1 : Int32)  (hk : ∀ (v2 : Int32) (σ : Sg), RR en ExT mi_X8_isSo evI 55 [] [] σ (k v2 σ)) : ∀ (n : Nat) (v2 : Int32) (σ : Sg), RR en ExT mi_X8_isSo evI 6 [(0, .ref (ad en 21 0 0)), (1, .int a1), (2, .int v2)] [] σ (L_X8_isSo_6 N k a1 n v2 σ) := by
  intro n
  induction n with
  | zero => intro v2 σ; exact r_none
  | succ n ih =>
    intro v2 σ
    rw [L_X8_isSo_6_s]
    refine r_iload_n (pc := 6) 2 dX8_isSo_6 rfl rfl ?_
    refine r_aload_n (pc := 7) 0 dX8_isSo_7 rfl rfl ?_
    refine g_X8_rowSize (pc := 8)  lf_RX8_16 dX8_isSo_8 ?_
    refine r_iload_n (pc := 11) 1 dX8_isSo_11 rfl rfl ?_
    refine r_iald (pc := 12) (n := 6) o22_7 rfl dX8_isSo_12 (fun h2 => ?_)
    refine r_icmp_ge (pc := 13) 55 dX8_isSo_13 (by decide) (fun h3 => ?_) (fun h3 => ?_)
    · exact r_sub [] rfl (hk v2 σ)
    · refine r_aload_n (pc := 16) 0 dX8_isSo_16 rfl rfl ?_
      refine r_aload_n (pc := 17) 0 dX8_isSo_17 rfl rfl ?_
      refine g_X8_rows (pc := 18)  lf_RX8_13 dX8_isSo_18 ?_
      refine r_bipush (pc := 21) dX8_isSo_21 kc_bipush_40 ?_
      refine r_iload_n (pc := 23) 1 dX8_isSo_23 rfl rfl ?_
      refine r_imul (pc := 24) dX8_isSo_24 ?_
      refine r_iload_n (pc := 25) 2 dX8_isSo_25 rfl rfl ?_
      refine r_iadd (pc := 26) dX8_isSo_26 ?_
      refine r_iald (pc := 27) (n := 240) o22_6 rfl dX8_isSo_27 (fun h4 => ?_)
      refine k_X8_whoAt (pc := 28) lm_RX8_213  (by decide) (Nat.le_of_ble_eq_true rfl) dX8_isSo_28 (fun w2 h5 => ?_)
      refine r_aload_n (pc := 31) 0 dX8_isSo_31 rfl rfl ?_
      refine g_X8_rows (pc := 32)  lf_RX8_13 dX8_isSo_32 ?_
      refine r_bipush (pc := 35) dX8_isSo_35 kc_bipush_40 ?_
      refine r_iload_n (pc := 37) 1 dX8_isSo_37 rfl rfl ?_
      refine r_imul (pc := 38) dX8_isSo_38 ?_
      refine r_iload_n (pc := 39) 2 dX8_isSo_39 rfl rfl ?_
      refine r_iadd (pc := 40) dX8_isSo_40 ?_
      refine r_iconst (pc := 41) dX8_isSo_41 kc_iconst_1 ?_
      refine r_iadd (pc := 42) dX8_isSo_42 ?_
      refine r_iald (pc := 43) (n := 240) o22_6 rfl dX8_isSo_43 (fun h6 => ?_)
      refine r_icmp_eq (pc := 44) 49 dX8_isSo_44 (by decide) (fun h7 => ?_) (fun h7 => ?_)
      · refine r_iinc (pc := 49) 2 [(2, .int (v2 + (2 : Int32))), (0, .ref (ad en 21 0 0)), (1, .int a1)] dX8_isSo_49 rfl rfl (by decide) rfl ?_
        refine r_goto (pc := 52) 6 dX8_isSo_52 (by decide) ?_
        exact r_sub [1, 2, 0] rfl (ih (v2 + (2 : Int32)) w2.2)
      · refine r_iconst (pc := 47) dX8_isSo_47 kc_iconst_0 ?_
        exact r_zret (pc := 48) rfl rfl dX8_isSo_48
set_option maxHeartbeats 4000000 in
theorem R_X8_isSo (en : En) (N : Nat) (p0 : Int32)  (σ : Sg) : RR en ExT mi_X8_isSo evI 0 [(0, .ref (ad en 21 0 0)), (1, .int p0)] [] σ (f_X8_isSo N p0 σ) := by
  unfold f_X8_isSo
  refine r_aload_n (pc := 0) 0 dX8_isSo_0 rfl rfl ?_
  refine k_X8_seeing (pc := 1) lm_RX8_169  (by decide) (Nat.le_of_ble_eq_true rfl) dX8_isSo_1 (fun w1 h1 => ?_)
  refine r_iconst (pc := 4) dX8_isSo_4 kc_iconst_0 ?_
  refine r_istore_n (pc := 5) [(2, .int (0 : Int32)), (0, .ref (ad en 21 0 0)), (1, .int p0)] dX8_isSo_5 rfl (by decide) rfl ?_
  refine r_sub [1, 2, 0] rfl (RL_X8_isSo_6 en N p0  (fun v2_3 σ_3 => ?_) N (0 : Int32) w1)
  refine r_iconst (pc := 55) dX8_isSo_55 kc_iconst_1 ?_
  exact r_zret (pc := 56) rfl rfl dX8_isSo_56
theorem ok_X8_isSo : yOk yX8_isSo cX8_isSo 3 (some .boolean) := ⟨in_lwG (by decide +kernel) rfl, in_lwG (by decide +kernel) rfl, by decide, by decide, by decide⟩
theorem k_X8_isSo {en : En} {Ex : (Nat → Prop) → State → Prop} {mi : Mi} {α : Type} {ev : α → Option Value × Sg} {pc index : Nat} {lv : List (Nat × Value)} {rest : List Value} {σ : Sg} {N : Nat} {k : (Int32 × Sg) → Option α} {p0 : Int32} (hlink : Cond.methodLink mi.1 index yX8_isSo ∈ lwG) (hroom : 3 + 1 ≤ mi.2.2.2.2) (hcat : (rest.map fun v => v.category).sum ≤ 8) (hd : decode mi.2.1 pc = .ok (.invokevirtual index, 3))  (h : ∀ w : Int32 × Sg, f_X8_isSo N p0 σ = some w → RR en Ex mi ev (pc + 3) lv (.int w.1 :: rest) w.2 (k w)) : RR en Ex mi ev pc lv (.int p0 :: .ref (ad en 21 0 0) :: rest) σ ((f_X8_isSo N p0 σ).bind k) :=
  r_callV (n := 1) [.int p0] ok_X8_isSo hlink (in_lwG (by decide +kernel) rfl) (in_lwG (by decide +kernel) rfl) (by decide +kernel) rfl hroom (by decide) o21 rfl rfl hcat (R_X8_isSo en N p0  σ) (Nat.le_of_ble_eq_true rfl) hd h
set_option maxHeartbeats 4000000 in
theorem RL_X8_keep_28 (en : En) (N : Nat) {k : Int32 → Sg → Option (Int32 × Sg)} (a1 : Int32)  (hk : ∀ (v2 : Int32) (σ : Sg), RR en ExT mi_X8_keep evI 57 [(0, .ref (ad en 21 0 0)), (1, .int a1)] [] σ (k v2 σ)) : ∀ (n : Nat) (v2 : Int32) (σ : Sg), RR en ExT mi_X8_keep evI 28 [(0, .ref (ad en 21 0 0)), (1, .int a1), (2, .int v2)] [] σ (L_X8_keep_28 N k a1 n v2 σ) := by
  intro n
  induction n with
  | zero => intro v2 σ; exact r_none
  | succ n ih =>
    intro v2 σ
    rw [L_X8_keep_28_s]
    refine r_iload_n (pc := 28) 2 dX8_keep_28 rfl rfl ?_
    refine r_bipush (pc := 29) dX8_keep_29 kc_bipush_22 ?_
    refine r_icmp_ge (pc := 31) 57 dX8_keep_31 (by decide) (fun h4 => ?_) (fun h4 => ?_)
    · exact r_sub [0, 1] rfl (hk v2 σ)
    · refine r_aload_n (pc := 34) 0 dX8_keep_34 rfl rfl ?_
      refine g_X8_kept (pc := 35)  lf_RX8_40 dX8_keep_35 ?_
      refine r_bipush (pc := 38) dX8_keep_38 kc_bipush_22 ?_
      refine r_iload_n (pc := 40) 1 dX8_keep_40 rfl rfl ?_
      refine r_imul (pc := 41) dX8_keep_41 ?_
      refine r_iload_n (pc := 42) 2 dX8_keep_42 rfl rfl ?_
      refine r_iadd (pc := 43) dX8_keep_43 ?_
      refine r_aload_n (pc := 44) 0 dX8_keep_44 rfl rfl ?_
      refine g_X8_s (pc := 45)  lf_RX8_34 dX8_keep_45 ?_
      refine r_iload_n (pc := 48) 2 dX8_keep_48 rfl rfl ?_
      refine r_iald (pc := 49) (n := 22) o22_14 rfl dX8_keep_49 (fun h5 => ?_)
      refine r_iast (pc := 50) (n := 66) o22_17 rfl rfl dX8_keep_50 (fun h6 => ?_)
      refine r_iinc (pc := 51) 2 [(2, .int (v2 + (1 : Int32))), (0, .ref (ad en 21 0 0)), (1, .int a1)] dX8_keep_51 rfl rfl (by decide) rfl ?_
      refine r_goto (pc := 54) 28 dX8_keep_54 (by decide) ?_
      exact r_sub [1, 2, 0] rfl (ih (v2 + (1 : Int32)) (uI σ 22 17 0 (((22 : Int32) * a1) + v2).toNatClampNeg (rI σ 22 14 0 v2.toNatClampNeg)))
set_option maxHeartbeats 4000000 in
theorem RL_X8_keep_59 (en : En) (N : Nat) {k : Int32 → Sg → Option (Int32 × Sg)} (a1 : Int32)  (hk : ∀ (v2 : Int32) (σ : Sg), RR en ExT mi_X8_keep evI 90 [(0, .ref (ad en 21 0 0)), (1, .int a1)] [] σ (k v2 σ)) : ∀ (n : Nat) (v2 : Int32) (σ : Sg), RR en ExT mi_X8_keep evI 59 [(0, .ref (ad en 21 0 0)), (1, .int a1), (2, .int v2)] [] σ (L_X8_keep_59 N k a1 n v2 σ) := by
  intro n
  induction n with
  | zero => intro v2 σ; exact r_none
  | succ n ih =>
    intro v2 σ
    rw [L_X8_keep_59_s]
    refine r_iload_n (pc := 59) 2 dX8_keep_59 rfl rfl ?_
    refine r_sipush (pc := 60) dX8_keep_60 kc_sipush_880 ?_
    refine r_icmp_ge (pc := 63) 90 dX8_keep_63 (by decide) (fun h7 => ?_) (fun h7 => ?_)
    · exact r_sub [0, 1] rfl (hk v2 σ)
    · refine r_aload_n (pc := 66) 0 dX8_keep_66 rfl rfl ?_
      refine g_X8_keptAhead (pc := 67)  lf_RX8_43 dX8_keep_67 ?_
      refine r_sipush (pc := 70) dX8_keep_70 kc_sipush_880 ?_
      refine r_iload_n (pc := 73) 1 dX8_keep_73 rfl rfl ?_
      refine r_imul (pc := 74) dX8_keep_74 ?_
      refine r_iload_n (pc := 75) 2 dX8_keep_75 rfl rfl ?_
      refine r_iadd (pc := 76) dX8_keep_76 ?_
      refine r_aload_n (pc := 77) 0 dX8_keep_77 rfl rfl ?_
      refine g_X8_ahead (pc := 78)  lf_RX8_37 dX8_keep_78 ?_
      refine r_iload_n (pc := 81) 2 dX8_keep_81 rfl rfl ?_
      refine r_iald (pc := 82) (n := 880) o22_15 rfl dX8_keep_82 (fun h8 => ?_)
      refine r_iast (pc := 83) (n := 2640) o22_18 rfl rfl dX8_keep_83 (fun h9 => ?_)
      refine r_iinc (pc := 84) 2 [(2, .int (v2 + (1 : Int32))), (0, .ref (ad en 21 0 0)), (1, .int a1)] dX8_keep_84 rfl rfl (by decide) rfl ?_
      refine r_goto (pc := 87) 59 dX8_keep_87 (by decide) ?_
      exact r_sub [1, 2, 0] rfl (ih (v2 + (1 : Int32)) (uI σ 22 18 0 (((880 : Int32) * a1) + v2).toNatClampNeg (rI σ 22 15 0 v2.toNatClampNeg)))
set_option maxHeartbeats 4000000 in
theorem R_X8_keep (en : En) (N : Nat) (p0 : Int32)  (σ : Sg) : RR en ExT mi_X8_keep evI 0 [(0, .ref (ad en 21 0 0)), (1, .int p0)] [] σ (f_X8_keep N p0 σ) := by
  unfold f_X8_keep
  refine r_aload_n (pc := 0) 0 dX8_keep_0 rfl rfl ?_
  refine r_iconst (pc := 1) dX8_keep_1 kc_iconst_0 ?_
  refine p_X8_thrown (pc := 2)  lf_RX8_81 dX8_keep_2 ?_
  refine r_iload_n (pc := 5) 1 dX8_keep_5 rfl rfl ?_
  refine r_iconst (pc := 6) dX8_keep_6 kc_iconst_0 ?_
  refine r_iconst (pc := 7) dX8_keep_7 kc_iconst_2 ?_
  refine k_X8_in (pc := 8) lm_RX8_91  (by decide) (Nat.le_of_ble_eq_true rfl) dX8_keep_8 (fun w1 h1 => ?_)
  refine r_if_ne (pc := 11) 16 dX8_keep_11 (by decide) (fun h2 => ?_) (fun h2 => ?_)
  · refine r_iconst (pc := 14) dX8_keep_14 kc_iconst_m1 ?_
    exact r_iret (pc := 15) rfl dX8_keep_15
  · refine r_aload_n (pc := 16) 0 dX8_keep_16 rfl rfl ?_
    refine g_X8_panes (pc := 17)  lf_RX8_143 dX8_keep_17 ?_
    refine r_if_ne (pc := 20) 26 dX8_keep_20 (by decide) (fun h3 => ?_) (fun h3 => ?_)
    · refine r_bipush (pc := 23) dX8_keep_23 kc_bipush_m4 ?_
      exact r_iret (pc := 25) rfl dX8_keep_25
    · refine r_iconst (pc := 26) dX8_keep_26 kc_iconst_0 ?_
      refine r_istore_n (pc := 27) [(2, .int (0 : Int32)), (0, .ref (ad en 21 0 0)), (1, .int p0)] dX8_keep_27 rfl (by decide) rfl ?_
      refine r_sub [1, 2, 0] rfl (RL_X8_keep_28 en N p0  (fun v2_2 σ_2 => ?_) N (0 : Int32) w1.2)
      refine r_iconst (pc := 57) dX8_keep_57 kc_iconst_0 ?_
      refine r_istore_n (pc := 58) [(2, .int (0 : Int32)), (0, .ref (ad en 21 0 0)), (1, .int p0)] dX8_keep_58 rfl (by decide) rfl ?_
      refine r_sub [1, 2, 0] rfl (RL_X8_keep_59 en N p0  (fun v2_3 σ_3 => ?_) N (0 : Int32) σ_2)
      refine r_aload_n (pc := 90) 0 dX8_keep_90 rfl rfl ?_
      refine g_X8_keptDeeds (pc := 91)  lf_RX8_46 dX8_keep_91 ?_
      refine r_iload_n (pc := 94) 1 dX8_keep_94 rfl rfl ?_
      refine r_aload_n (pc := 95) 0 dX8_keep_95 rfl rfl ?_
      refine g_X8_deeds (pc := 96)  lf_RX8_146 dX8_keep_96 ?_
      refine r_iast (pc := 99) (n := 3) o22_19 rfl rfl dX8_keep_99 (fun h10 => ?_)
      refine r_aload_n (pc := 100) 0 dX8_keep_100 rfl rfl ?_
      refine g_X8_deeds (pc := 101)  lf_RX8_146 dX8_keep_101 ?_
      exact r_iret (pc := 104) rfl dX8_keep_104
theorem ok_X8_keep : yOk yX8_keep cX8_keep 3 (some .int) := ⟨in_lwG (by decide +kernel) rfl, in_lwG (by decide +kernel) rfl, by decide, by decide, by decide⟩
theorem k_X8_keep {en : En} {Ex : (Nat → Prop) → State → Prop} {mi : Mi} {α : Type} {ev : α → Option Value × Sg} {pc index : Nat} {lv : List (Nat × Value)} {rest : List Value} {σ : Sg} {N : Nat} {k : (Int32 × Sg) → Option α} {p0 : Int32} (hlink : Cond.methodLink mi.1 index yX8_keep ∈ lwG) (hroom : 2 + 1 ≤ mi.2.2.2.2) (hcat : (rest.map fun v => v.category).sum ≤ 8) (hd : decode mi.2.1 pc = .ok (.invokevirtual index, 3))  (h : ∀ w : Int32 × Sg, f_X8_keep N p0 σ = some w → RR en Ex mi ev (pc + 3) lv (.int w.1 :: rest) w.2 (k w)) : RR en Ex mi ev pc lv (.int p0 :: .ref (ad en 21 0 0) :: rest) σ ((f_X8_keep N p0 σ).bind k) :=
  r_callV (n := 1) [.int p0] ok_X8_keep hlink (in_lwG (by decide +kernel) rfl) (in_lwG (by decide +kernel) rfl) (by decide +kernel) rfl hroom (by decide) o21 rfl rfl hcat (R_X8_keep en N p0  σ) (Nat.le_of_ble_eq_true rfl) hd h
set_option maxHeartbeats 4000000 in
theorem RL_X8_kindsOf_13 (en : En) (N : Nat) {k : Int32 → Int32 → Sg → Option (Int32 × Sg)} (a1 : Int32) (a2 : Int32)  (hk : ∀ (v3 : Int32) (v4 : Int32) (σ : Sg), RR en ExT mi_X8_kindsOf evI 58 [(3, .int v3)] [] σ (k v3 v4 σ)) : ∀ (n : Nat) (v3 : Int32) (v4 : Int32) (σ : Sg), RR en ExT mi_X8_kindsOf evI 13 [(0, .ref (ad en 21 0 0)), (1, .int a1), (2, .int a2), (3, .int v3), (4, .int v4)] [] σ (L_X8_kindsOf_13 N k a1 a2 n v3 v4 σ) := by
  intro n
  induction n with
  | zero => intro v3 v4 σ; exact r_none
  | succ n ih =>
    intro v3 v4 σ
    rw [L_X8_kindsOf_13_s]
    refine r_iload (pc := 13) 4 dX8_kindsOf_13 rfl ?_
    refine r_bipush (pc := 15) dX8_kindsOf_15 kc_bipush_6 ?_
    refine r_icmp_ge (pc := 17) 58 dX8_kindsOf_17 (by decide) (fun h3 => ?_) (fun h3 => ?_)
    · exact r_sub [3] rfl (hk v3 v4 σ)
    · refine r_aload_n (pc := 20) 0 dX8_kindsOf_20 rfl rfl ?_
      refine g_X8_kindIf (pc := 21)  lf_RX8_49 dX8_kindsOf_21 ?_
      refine r_iload_n (pc := 24) 1 dX8_kindsOf_24 rfl rfl ?_
      refine r_iload (pc := 25) 4 dX8_kindsOf_25 rfl ?_
      refine r_iast (pc := 27) (n := 7) o22_20 rfl rfl dX8_kindsOf_27 (fun h4 => ?_)
      refine r_aload_n (pc := 28) 0 dX8_kindsOf_28 rfl rfl ?_
      refine r_iload_n (pc := 29) 1 dX8_kindsOf_29 rfl rfl ?_
      refine k_X8_covering (pc := 30) lm_RX8_153  (by decide) (Nat.le_of_ble_eq_true rfl) dX8_kindsOf_30 (fun w3 h5 => ?_)
      refine r_iload_n (pc := 33) 3 dX8_kindsOf_33 rfl rfl ?_
      refine r_aload_n (pc := 34) 0 dX8_kindsOf_34 rfl rfl ?_
      refine r_iload_n (pc := 35) 2 dX8_kindsOf_35 rfl rfl ?_
      refine k_X8_isSo (pc := 36) lm_RX8_243  (by decide) (Nat.le_of_ble_eq_true rfl) dX8_kindsOf_36 (fun w4 h6 => ?_)
      refine r_if_eq (pc := 39) 49 dX8_kindsOf_39 (by decide) (fun h7 => ?_) (fun h7 => ?_)
      · refine r_iconst (pc := 49) dX8_kindsOf_49 kc_iconst_0 ?_
        refine r_ior (pc := 50) dX8_kindsOf_50 ?_
        refine r_istore_n (pc := 51) [(3, .int (v3 ||| (0 : Int32))), (0, .ref (ad en 21 0 0)), (1, .int a1), (2, .int a2), (4, .int v4)] dX8_kindsOf_51 rfl (by decide) rfl ?_
        refine r_iinc (pc := 52) 4 [(4, .int (v4 + (1 : Int32))), (3, .int (v3 ||| (0 : Int32))), (0, .ref (ad en 21 0 0)), (1, .int a1), (2, .int a2)] dX8_kindsOf_52 rfl rfl (by decide) rfl ?_
        refine r_goto (pc := 55) 13 dX8_kindsOf_55 (by decide) ?_
        exact r_sub [2, 3, 4, 1, 0] rfl (ih (v3 ||| (0 : Int32)) (v4 + (1 : Int32)) w4.2)
      · refine r_iconst (pc := 42) dX8_kindsOf_42 kc_iconst_1 ?_
        refine r_iload (pc := 43) 4 dX8_kindsOf_43 rfl ?_
        refine r_ishl (pc := 45) dX8_kindsOf_45 ?_
        refine r_goto (pc := 46) 50 dX8_kindsOf_46 (by decide) ?_
        refine r_ior (pc := 50) dX8_kindsOf_50 ?_
        refine r_istore_n (pc := 51) [(3, .int (v3 ||| ((1 : Int32) <<< (v4 &&& 31)))), (0, .ref (ad en 21 0 0)), (1, .int a1), (2, .int a2), (4, .int v4)] dX8_kindsOf_51 rfl (by decide) rfl ?_
        refine r_iinc (pc := 52) 4 [(4, .int (v4 + (1 : Int32))), (3, .int (v3 ||| ((1 : Int32) <<< (v4 &&& 31)))), (0, .ref (ad en 21 0 0)), (1, .int a1), (2, .int a2)] dX8_kindsOf_52 rfl rfl (by decide) rfl ?_
        refine r_goto (pc := 55) 13 dX8_kindsOf_55 (by decide) ?_
        exact r_sub [2, 3, 4, 1, 0] rfl (ih (v3 ||| ((1 : Int32) <<< (v4 &&& 31))) (v4 + (1 : Int32)) w4.2)
set_option maxHeartbeats 4000000 in
theorem R_X8_kindsOf (en : En) (N : Nat) (p0 : Int32) (p1 : Int32)  (σ : Sg) : RR en ExT mi_X8_kindsOf evI 0 [(0, .ref (ad en 21 0 0)), (1, .int p0), (2, .int p1)] [] σ (f_X8_kindsOf N p0 p1 σ) := by
  unfold f_X8_kindsOf
  refine r_aload_n (pc := 0) 0 dX8_kindsOf_0 rfl rfl ?_
  refine k_X8_asNow (pc := 1) lm_RX8_163  (by decide) (Nat.le_of_ble_eq_true rfl) dX8_kindsOf_1 (fun w1 h1 => ?_)
  refine r_aload_n (pc := 4) 0 dX8_kindsOf_4 rfl rfl ?_
  refine k_X8_coveringAll (pc := 5) lm_RX8_166  (by decide) (Nat.le_of_ble_eq_true rfl) dX8_kindsOf_5 (fun w2 h2 => ?_)
  refine r_iconst (pc := 8) dX8_kindsOf_8 kc_iconst_0 ?_
  refine r_istore_n (pc := 9) [(3, .int (0 : Int32)), (0, .ref (ad en 21 0 0)), (1, .int p0), (2, .int p1)] dX8_kindsOf_9 rfl (by decide) rfl ?_
  refine r_iconst (pc := 10) dX8_kindsOf_10 kc_iconst_0 ?_
  refine r_istore (pc := 11) [(4, .int (0 : Int32)), (3, .int (0 : Int32)), (0, .ref (ad en 21 0 0)), (1, .int p0), (2, .int p1)] dX8_kindsOf_11 (by decide) rfl ?_
  refine r_sub [2, 3, 4, 1, 0] rfl (RL_X8_kindsOf_13 en N p0 p1  (fun v3_5 v4_5 σ_5 => ?_) N (0 : Int32) (0 : Int32) w2)
  refine r_iload_n (pc := 58) 0 dX8_kindsOf_58 rfl rfl ?_
  exact r_iret (pc := 59) rfl dX8_kindsOf_59
theorem ok_X8_kindsOf : yOk yX8_kindsOf cX8_kindsOf 5 (some .int) := ⟨in_lwG (by decide +kernel) rfl, in_lwG (by decide +kernel) rfl, by decide, by decide, by decide⟩
theorem k_X8_kindsOf {en : En} {Ex : (Nat → Prop) → State → Prop} {mi : Mi} {α : Type} {ev : α → Option Value × Sg} {pc index : Nat} {lv : List (Nat × Value)} {rest : List Value} {σ : Sg} {N : Nat} {k : (Int32 × Sg) → Option α} {p0 : Int32} {p1 : Int32} (hlink : Cond.methodLink mi.1 index yX8_kindsOf ∈ lwG) (hroom : 5 + 1 ≤ mi.2.2.2.2) (hcat : (rest.map fun v => v.category).sum ≤ 8) (hd : decode mi.2.1 pc = .ok (.invokevirtual index, 3))  (h : ∀ w : Int32 × Sg, f_X8_kindsOf N p0 p1 σ = some w → RR en Ex mi ev (pc + 3) lv (.int w.1 :: rest) w.2 (k w)) : RR en Ex mi ev pc lv (.int p1 :: .int p0 :: .ref (ad en 21 0 0) :: rest) σ ((f_X8_kindsOf N p0 p1 σ).bind k) :=
  r_callV (n := 2) [.int p0, .int p1] ok_X8_kindsOf hlink (in_lwG (by decide +kernel) rfl) (in_lwG (by decide +kernel) rfl) (by decide +kernel) rfl hroom (by decide) o21 rfl rfl hcat (R_X8_kindsOf en N p0 p1  σ) (Nat.le_of_ble_eq_true rfl) hd h
set_option maxHeartbeats 4000000 in
theorem R_X8_kinds (en : En) (N : Nat) (p0 : Int32) (p1 : Int32)  (σ : Sg) : RR en ExT mi_X8_kinds evI 0 [(0, .ref (ad en 21 0 0)), (1, .int p0), (2, .int p1)] [] σ (f_X8_kinds N p0 p1 σ) := by
  unfold f_X8_kinds
  refine r_aload_n (pc := 0) 0 dX8_kinds_0 rfl rfl ?_
  refine r_iconst (pc := 1) dX8_kinds_1 kc_iconst_0 ?_
  refine p_X8_thrown (pc := 2)  lf_RX8_81 dX8_kinds_2 ?_
  refine r_aload_n (pc := 5) 0 dX8_kinds_5 rfl rfl ?_
  refine r_iload_n (pc := 6) 1 dX8_kinds_6 rfl rfl ?_
  refine r_iload_n (pc := 7) 2 dX8_kinds_7 rfl rfl ?_
  refine k_X8_againstPairs (pc := 8) lm_RX8_246  (by decide) (Nat.le_of_ble_eq_true rfl) dX8_kinds_8 (fun w1 h1 => ?_)
  refine r_istore_n (pc := 11) [(3, .int w1.1), (0, .ref (ad en 21 0 0)), (1, .int p0), (2, .int p1)] dX8_kinds_11 rfl (by decide) rfl ?_
  refine r_iload_n (pc := 12) 0 dX8_kinds_12 rfl rfl ?_
  refine r_if_eq (pc := 13) 20 dX8_kinds_13 (by decide) (fun h2 => ?_) (fun h2 => ?_)
  · refine r_aload_n (pc := 20) 1 dX8_kinds_20 rfl rfl ?_
    refine r_iload_n (pc := 21) 2 dX8_kinds_21 rfl rfl ?_
    refine r_iload_n (pc := 22) 3 dX8_kinds_22 rfl rfl ?_
    refine k_X8_kindsOf (pc := 23) lm_RX8_249  (by decide) (Nat.le_of_ble_eq_true rfl) dX8_kinds_23 (fun w2 h3 => ?_)
    exact r_iret (pc := 26) rfl dX8_kinds_26
  · refine r_iload_n (pc := 16) 0 dX8_kinds_16 rfl rfl ?_
    refine r_goto (pc := 17) 26 dX8_kinds_17 (by decide) ?_
    exact r_iret (pc := 26) rfl dX8_kinds_26
theorem ok_X8_kinds : yOk yX8_kinds cX8_kinds 4 (some .int) := ⟨in_lwG (by decide +kernel) rfl, in_lwG (by decide +kernel) rfl, by decide, by decide, by decide⟩
theorem k_X8_kinds {en : En} {Ex : (Nat → Prop) → State → Prop} {mi : Mi} {α : Type} {ev : α → Option Value × Sg} {pc index : Nat} {lv : List (Nat × Value)} {rest : List Value} {σ : Sg} {N : Nat} {k : (Int32 × Sg) → Option α} {p0 : Int32} {p1 : Int32} (hlink : Cond.methodLink mi.1 index yX8_kinds ∈ lwG) (hroom : 6 + 1 ≤ mi.2.2.2.2) (hcat : (rest.map fun v => v.category).sum ≤ 8) (hd : decode mi.2.1 pc = .ok (.invokevirtual index, 3))  (h : ∀ w : Int32 × Sg, f_X8_kinds N p0 p1 σ = some w → RR en Ex mi ev (pc + 3) lv (.int w.1 :: rest) w.2 (k w)) : RR en Ex mi ev pc lv (.int p1 :: .int p0 :: .ref (ad en 21 0 0) :: rest) σ ((f_X8_kinds N p0 p1 σ).bind k) :=
  r_callV (n := 2) [.int p0, .int p1] ok_X8_kinds hlink (in_lwG (by decide +kernel) rfl) (in_lwG (by decide +kernel) rfl) (by decide +kernel) rfl hroom (by decide) o21 rfl rfl hcat (R_X8_kinds en N p0 p1  σ) (Nat.le_of_ble_eq_true rfl) hd h
set_option maxHeartbeats 4000000 in
theorem R_X8_lay (en : En) (N : Nat) (p0 : Int32) (p1 : Int32) (p2 : Int32)  (σ : Sg) : RR en ExT mi_X8_lay evI 0 [(0, .ref (ad en 21 0 0)), (1, .int p0), (2, .int p1), (3, .int p2)] [] σ (f_X8_lay N p0 p1 p2 σ) := by
  unfold f_X8_lay
  refine r_aload_n (pc := 0) 0 dX8_lay_0 rfl rfl ?_
  refine r_iconst (pc := 1) dX8_lay_1 kc_iconst_0 ?_
  refine p_X8_thrown (pc := 2)  lf_RX8_81 dX8_lay_2 ?_
  refine r_aload_n (pc := 5) 0 dX8_lay_5 rfl rfl ?_
  refine r_iload_n (pc := 6) 1 dX8_lay_6 rfl rfl ?_
  refine r_iload_n (pc := 7) 2 dX8_lay_7 rfl rfl ?_
  refine k_X8_against (pc := 8) lm_RX8_103  (by decide) (Nat.le_of_ble_eq_true rfl) dX8_lay_8 (fun w1 h1 => ?_)
  refine r_istore (pc := 11) [(4, .int w1.1), (0, .ref (ad en 21 0 0)), (1, .int p0), (2, .int p1), (3, .int p2)] dX8_lay_11 (by decide) rfl ?_
  refine r_iload (pc := 13) 0 dX8_lay_13 rfl ?_
  refine r_if_eq (pc := 15) 21 dX8_lay_15 (by decide) (fun h2 => ?_) (fun h2 => ?_)
  · refine r_aload_n (pc := 21) 1 dX8_lay_21 rfl rfl ?_
    refine g_X8_rows (pc := 22)  lf_RX8_13 dX8_lay_22 ?_
    refine r_bipush (pc := 25) dX8_lay_25 kc_bipush_40 ?_
    refine r_iload_n (pc := 27) 2 dX8_lay_27 rfl rfl ?_
    refine r_imul (pc := 28) dX8_lay_28 ?_
    refine r_iload_n (pc := 29) 3 dX8_lay_29 rfl rfl ?_
    refine r_iadd (pc := 30) dX8_lay_30 ?_
    refine r_iald (pc := 31) (n := 240) o22_6 rfl dX8_lay_31 (fun h3 => ?_)
    refine r_istore (pc := 32) [(5, .int (rI w1.2 22 6 0 (((40 : Int32) * p0) + p1).toNatClampNeg)), (4, .int w1.1), (0, .ref (ad en 21 0 0)), (1, .int p0), (2, .int p1), (3, .int p2)] dX8_lay_32 (by decide) rfl ?_
    refine r_aload_n (pc := 34) 2 dX8_lay_34 rfl rfl ?_
    refine g_X8_rows (pc := 35)  lf_RX8_13 dX8_lay_35 ?_
    refine r_bipush (pc := 38) dX8_lay_38 kc_bipush_40 ?_
    refine r_iload_n (pc := 40) 3 dX8_lay_40 rfl rfl ?_
    refine r_imul (pc := 41) dX8_lay_41 ?_
    refine r_iload_n (pc := 42) 4 dX8_lay_42 rfl rfl ?_
    refine r_iadd (pc := 43) dX8_lay_43 ?_
    refine r_iload_n (pc := 44) 5 dX8_lay_44 rfl rfl ?_
    refine r_iast (pc := 45) (n := 240) o22_6 rfl rfl dX8_lay_45 (fun h4 => ?_)
    refine r_aload_n (pc := 46) 2 dX8_lay_46 rfl rfl ?_
    refine r_iconst (pc := 47) dX8_lay_47 kc_iconst_1 ?_
    refine r_iload (pc := 48) 0 dX8_lay_48 rfl ?_
    refine k_X8_tells (pc := 50) lm_RX8_107  (by decide) (Nat.le_of_ble_eq_true rfl) dX8_lay_50 (fun w2 h5 => ?_)
    exact r_iret (pc := 53) rfl dX8_lay_53
  · refine r_iload (pc := 18) 0 dX8_lay_18 rfl ?_
    exact r_iret (pc := 20) rfl dX8_lay_20
theorem ok_X8_lay : yOk yX8_lay cX8_lay 6 (some .int) := ⟨in_lwG (by decide +kernel) rfl, in_lwG (by decide +kernel) rfl, by decide, by decide, by decide⟩
theorem k_X8_lay {en : En} {Ex : (Nat → Prop) → State → Prop} {mi : Mi} {α : Type} {ev : α → Option Value × Sg} {pc index : Nat} {lv : List (Nat × Value)} {rest : List Value} {σ : Sg} {N : Nat} {k : (Int32 × Sg) → Option α} {p0 : Int32} {p1 : Int32} {p2 : Int32} (hlink : Cond.methodLink mi.1 index yX8_lay ∈ lwG) (hroom : 4 + 1 ≤ mi.2.2.2.2) (hcat : (rest.map fun v => v.category).sum ≤ 8) (hd : decode mi.2.1 pc = .ok (.invokevirtual index, 3))  (h : ∀ w : Int32 × Sg, f_X8_lay N p0 p1 p2 σ = some w → RR en Ex mi ev (pc + 3) lv (.int w.1 :: rest) w.2 (k w)) : RR en Ex mi ev pc lv (.int p2 :: .int p1 :: .int p0 :: .ref (ad en 21 0 0) :: rest) σ ((f_X8_lay N p0 p1 p2 σ).bind k) :=
  r_callV (n := 3) [.int p0, .int p1, .int p2] ok_X8_lay hlink (in_lwG (by decide +kernel) rfl) (in_lwG (by decide +kernel) rfl) (by decide +kernel) rfl hroom (by decide) o21 rfl rfl hcat (R_X8_lay en N p0 p1 p2  σ) (Nat.le_of_ble_eq_true rfl) hd h
set_option maxHeartbeats 4000000 in
theorem RL_X8_notes_2 (en : En) (N : Nat) {k : Int32 → Sg → Option (Sg)}   (hk : ∀ (v1 : Int32) (σ : Sg), RR en ExT mi_X8_notes evV 34 [(0, .ref (ad en 21 0 0))] [] σ (k v1 σ)) : ∀ (n : Nat) (v1 : Int32) (σ : Sg), RR en ExT mi_X8_notes evV 2 [(0, .ref (ad en 21 0 0)), (1, .int v1)] [] σ (L_X8_notes_2 N k  n v1 σ) := by
  intro n
  induction n with
  | zero => intro v1 σ; exact r_none
  | succ n ih =>
    intro v1 σ
    rw [L_X8_notes_2_s]
    refine r_iload_n (pc := 2) 1 dX8_notes_2 rfl rfl ?_
    refine r_bipush (pc := 3) dX8_notes_3 kc_bipush_22 ?_
    refine r_icmp_ge (pc := 5) 34 dX8_notes_5 (by decide) (fun h1 => ?_) (fun h1 => ?_)
    · exact r_sub [0] rfl (hk v1 σ)
    · refine r_aload_n (pc := 8) 0 dX8_notes_8 rfl rfl ?_
      refine g_X8_ahead (pc := 9)  lf_RX8_37 dX8_notes_9 ?_
      refine r_bipush (pc := 12) dX8_notes_12 kc_bipush_22 ?_
      refine r_aload_n (pc := 14) 0 dX8_notes_14 rfl rfl ?_
      refine g_X8_deeds (pc := 15)  lf_RX8_146 dX8_notes_15 ?_
      refine r_imul (pc := 18) dX8_notes_18 ?_
      refine r_iload_n (pc := 19) 1 dX8_notes_19 rfl rfl ?_
      refine r_iadd (pc := 20) dX8_notes_20 ?_
      refine r_aload_n (pc := 21) 0 dX8_notes_21 rfl rfl ?_
      refine g_X8_s (pc := 22)  lf_RX8_34 dX8_notes_22 ?_
      refine r_iload_n (pc := 25) 1 dX8_notes_25 rfl rfl ?_
      refine r_iald (pc := 26) (n := 22) o22_14 rfl dX8_notes_26 (fun h2 => ?_)
      refine r_iast (pc := 27) (n := 880) o22_15 rfl rfl dX8_notes_27 (fun h3 => ?_)
      refine r_iinc (pc := 28) 1 [(1, .int (v1 + (1 : Int32))), (0, .ref (ad en 21 0 0))] dX8_notes_28 rfl rfl (by decide) rfl ?_
      refine r_goto (pc := 31) 2 dX8_notes_31 (by decide) ?_
      exact r_sub [1, 0] rfl (ih (v1 + (1 : Int32)) (uI σ 22 15 0 (((22 : Int32) * (rI σ 21 0 0 16)) + v1).toNatClampNeg (rI σ 22 14 0 v1.toNatClampNeg)))
set_option maxHeartbeats 4000000 in
theorem R_X8_notes (en : En) (N : Nat)  (σ : Sg) : RR en ExT mi_X8_notes evV 0 [(0, .ref (ad en 21 0 0))] [] σ (f_X8_notes N σ) := by
  unfold f_X8_notes
  refine r_iconst (pc := 0) dX8_notes_0 kc_iconst_0 ?_
  refine r_istore_n (pc := 1) [(1, .int (0 : Int32)), (0, .ref (ad en 21 0 0))] dX8_notes_1 rfl (by decide) rfl ?_
  refine r_sub [1, 0] rfl (RL_X8_notes_2 en N   (fun v1_1 σ_1 => ?_) N (0 : Int32) σ)
  refine r_aload_n (pc := 34) 0 dX8_notes_34 rfl rfl ?_
  refine r_dup (pc := 35) dX8_notes_35 rfl ?_
  refine g_X8_deeds (pc := 36)  lf_RX8_146 dX8_notes_36 ?_
  refine r_iconst (pc := 39) dX8_notes_39 kc_iconst_1 ?_
  refine r_iadd (pc := 40) dX8_notes_40 ?_
  refine p_X8_deeds (pc := 41)  lf_RX8_146 dX8_notes_41 ?_
  exact r_vret (pc := 44) rfl dX8_notes_44
theorem ok_X8_notes : yOk yX8_notes cX8_notes 2 none := ⟨in_lwG (by decide +kernel) rfl, in_lwG (by decide +kernel) rfl, by decide, by decide, by decide⟩
theorem k_X8_notes {en : En} {Ex : (Nat → Prop) → State → Prop} {mi : Mi} {α : Type} {ev : α → Option Value × Sg} {pc index : Nat} {lv : List (Nat × Value)} {rest : List Value} {σ : Sg} {N : Nat} {k : (Sg) → Option α}  (hlink : Cond.methodLink mi.1 index yX8_notes ∈ lwG) (hroom : 1 + 1 ≤ mi.2.2.2.2) (hcat : (rest.map fun v => v.category).sum ≤ 8) (hd : decode mi.2.1 pc = .ok (.invokevirtual index, 3))  (h : ∀ w : Sg, f_X8_notes N  σ = some w → RR en Ex mi ev (pc + 3) lv (rest) w (k w)) : RR en Ex mi ev pc lv (.ref (ad en 21 0 0) :: rest) σ ((f_X8_notes N  σ).bind k) :=
  r_callV (n := 0) [] ok_X8_notes hlink (in_lwG (by decide +kernel) rfl) (in_lwG (by decide +kernel) rfl) (by decide +kernel) rfl hroom (by decide) o21 rfl rfl hcat (R_X8_notes en N   σ) (Nat.le_of_ble_eq_true rfl) hd h
set_option maxHeartbeats 4000000 in
theorem RL_X8_lots_58 (en : En) (N : Nat) {k : Int64 → Int32 → Sg → Option (Int32 × Sg)} (a1 : Int32)  (hk : ∀ (v3 : Int64) (v5 : Int32) (σ : Sg), RR en ExT mi_X8_lots evI 259 [(0, .ref (ad en 21 0 0))] [] σ (k v3 v5 σ)) : ∀ (n : Nat) (v3 : Int64) (v5 : Int32) (σ : Sg), RR en ExT mi_X8_lots evI 58 [(0, .ref (ad en 21 0 0)), (1, .int a1), (3, .long v3), (5, .int v5)] [] σ (L_X8_lots_58 N k a1 n v3 v5 σ) := by
  intro n
  induction n with
  | zero => intro v3 v5 σ; exact r_none
  | succ n ih =>
    intro v3 v5 σ
    rw [L_X8_lots_58_s]
    refine r_iload (pc := 58) 3 dX8_lots_58 rfl ?_
    refine r_iload_n (pc := 60) 1 dX8_lots_60 rfl rfl ?_
    refine r_icmp_ge (pc := 61) 259 dX8_lots_61 (by decide) (fun h7 => ?_) (fun h7 => ?_)
    · exact r_sub [0] rfl (hk v3 v5 σ)
    · refine r_lload_n (pc := 64) 2 dX8_lots_64 rfl rfl ?_
      refine r_ldc2 (pc := 65) lj_RX8_273 dX8_lots_65 ?_
      refine r_lmul (pc := 68) dX8_lots_68 ?_
      refine r_ldc2 (pc := 69) lj_RX8_275 dX8_lots_69 ?_
      refine r_lrem (pc := 72) dX8_lots_72 (by decide) ?_
      refine r_lstore_n (pc := 73) [(3, .long ((v3 * (48271 : Int64)) - (v3 * (48271 : Int64)) / (2147483647 : Int64) * (2147483647 : Int64))), (0, .ref (ad en 21 0 0)), (1, .int a1), (5, .int v5)] dX8_lots_73 rfl (by decide) rfl ?_
      refine r_lload_n (pc := 74) 0 dX8_lots_74 rfl rfl ?_
      refine r_l2i (pc := 75) dX8_lots_75 ?_
      refine r_istore (pc := 76) [(6, .int (((v3 * (48271 : Int64)) - (v3 * (48271 : Int64)) / (2147483647 : Int64) * (2147483647 : Int64)).toInt32)), (3, .long ((v3 * (48271 : Int64)) - (v3 * (48271 : Int64)) / (2147483647 : Int64) * (2147483647 : Int64))), (0, .ref (ad en 21 0 0)), (1, .int a1), (5, .int v5)] dX8_lots_76 (by decide) rfl ?_
      refine r_iload (pc := 78) 0 dX8_lots_78 rfl ?_
      refine r_bipush (pc := 80) dX8_lots_80 kc_bipush_8 ?_
      refine r_idiv (pc := 82) dX8_lots_82 (by decide) ?_
      refine r_aload_n (pc := 83) 2 dX8_lots_83 rfl rfl ?_
      refine g_X8_panes (pc := 84)  lf_RX8_143 dX8_lots_84 ?_
      refine r_gd (fun h8 => ?_)
      refine r_irem (pc := 87) dX8_lots_87 (of_decide_eq_true h8) ?_
      refine r_istore (pc := 88) [(7, .int (((((v3 * (48271 : Int64)) - (v3 * (48271 : Int64)) / (2147483647 : Int64) * (2147483647 : Int64)).toInt32) / (8 : Int32)) - ((((v3 * (48271 : Int64)) - (v3 * (48271 : Int64)) / (2147483647 : Int64) * (2147483647 : Int64)).toInt32) / (8 : Int32)) / (rI σ 21 0 0 10) * (rI σ 21 0 0 10))), (6, .int (((v3 * (48271 : Int64)) - (v3 * (48271 : Int64)) / (2147483647 : Int64) * (2147483647 : Int64)).toInt32)), (3, .long ((v3 * (48271 : Int64)) - (v3 * (48271 : Int64)) / (2147483647 : Int64) * (2147483647 : Int64))), (0, .ref (ad en 21 0 0)), (1, .int a1), (5, .int v5)] dX8_lots_88 (by decide) rfl ?_
      refine r_aload_n (pc := 90) 3 dX8_lots_90 rfl rfl ?_
      refine k_X8_notes (pc := 91) lm_RX8_200  (by decide) (Nat.le_of_ble_eq_true rfl) dX8_lots_91 (fun w3 h9 => ?_)
      refine r_iload (pc := 94) 1 dX8_lots_94 rfl ?_
      refine r_iconst (pc := 96) dX8_lots_96 kc_iconst_4 ?_
      refine r_irem (pc := 97) dX8_lots_97 (by decide) ?_
      refine r_if_ne (pc := 98) 124 dX8_lots_98 (by decide) (fun h10 => ?_) (fun h10 => ?_)
      · refine r_aload_n (pc := 101) 3 dX8_lots_101 rfl rfl ?_
        refine r_aload_n (pc := 102) 3 dX8_lots_102 rfl rfl ?_
        refine g_X8_s (pc := 103)  lf_RX8_34 dX8_lots_103 ?_
        refine r_aload_n (pc := 106) 3 dX8_lots_106 rfl rfl ?_
        refine r_iload (pc := 107) 0 dX8_lots_107 rfl ?_
        refine k_X8_placeOf (pc := 109) lm_RX8_179  (by decide) (Nat.le_of_ble_eq_true rfl) dX8_lots_109 (fun w4 h11 => ?_)
        refine r_aload_n (pc := 112) 3 dX8_lots_112 rfl rfl ?_
        refine g_X8_panes (pc := 113)  lf_RX8_143 dX8_lots_113 ?_
        refine r_iconst (pc := 116) dX8_lots_116 kc_iconst_1 ?_
        refine r_isub (pc := 117) dX8_lots_117 ?_
        refine k_X8_comesTo (pc := 118) lm_RX8_203  (by decide) (Nat.le_of_ble_eq_true rfl) dX8_lots_118 o22_14 (fun w5 h12 => ?_)
        refine r_goto (pc := 121) 253 dX8_lots_121 (by decide) ?_
        refine r_iinc (pc := 253) 5 [(5, .int (v5 + (1 : Int32))), (7, .int (((((v3 * (48271 : Int64)) - (v3 * (48271 : Int64)) / (2147483647 : Int64) * (2147483647 : Int64)).toInt32) / (8 : Int32)) - ((((v3 * (48271 : Int64)) - (v3 * (48271 : Int64)) / (2147483647 : Int64) * (2147483647 : Int64)).toInt32) / (8 : Int32)) / (rI σ 21 0 0 10) * (rI σ 21 0 0 10))), (6, .int (((v3 * (48271 : Int64)) - (v3 * (48271 : Int64)) / (2147483647 : Int64) * (2147483647 : Int64)).toInt32)), (3, .long ((v3 * (48271 : Int64)) - (v3 * (48271 : Int64)) / (2147483647 : Int64) * (2147483647 : Int64))), (0, .ref (ad en 21 0 0)), (1, .int a1)] dX8_lots_253 rfl rfl (by decide) rfl ?_
        refine r_goto (pc := 256) 58 dX8_lots_256 (by decide) ?_
        exact r_sub [4, 5, 3, 0] rfl (ih ((v3 * (48271 : Int64)) - (v3 * (48271 : Int64)) / (2147483647 : Int64) * (2147483647 : Int64)) (v5 + (1 : Int32)) w5)
      · refine r_iload (pc := 124) 1 dX8_lots_124 rfl ?_
        refine r_iconst (pc := 126) dX8_lots_126 kc_iconst_4 ?_
        refine r_irem (pc := 127) dX8_lots_127 (by decide) ?_
        refine r_iconst (pc := 128) dX8_lots_128 kc_iconst_1 ?_
        refine r_icmp_ne (pc := 129) 150 dX8_lots_129 (by decide) (fun h13 => ?_) (fun h13 => ?_)
        · refine r_aload_n (pc := 132) 3 dX8_lots_132 rfl rfl ?_
          refine r_aload_n (pc := 133) 3 dX8_lots_133 rfl rfl ?_
          refine g_X8_s (pc := 134)  lf_RX8_34 dX8_lots_134 ?_
          refine r_aload_n (pc := 137) 3 dX8_lots_137 rfl rfl ?_
          refine r_iload (pc := 138) 0 dX8_lots_138 rfl ?_
          refine k_X8_placeOf (pc := 140) lm_RX8_179  (by decide) (Nat.le_of_ble_eq_true rfl) dX8_lots_140 (fun w6 h14 => ?_)
          refine r_iconst (pc := 143) dX8_lots_143 kc_iconst_0 ?_
          refine k_X8_comesTo (pc := 144) lm_RX8_203  (by decide) (Nat.le_of_ble_eq_true rfl) dX8_lots_144 o22_14 (fun w7 h15 => ?_)
          refine r_goto (pc := 147) 253 dX8_lots_147 (by decide) ?_
          refine r_iinc (pc := 253) 5 [(5, .int (v5 + (1 : Int32))), (7, .int (((((v3 * (48271 : Int64)) - (v3 * (48271 : Int64)) / (2147483647 : Int64) * (2147483647 : Int64)).toInt32) / (8 : Int32)) - ((((v3 * (48271 : Int64)) - (v3 * (48271 : Int64)) / (2147483647 : Int64) * (2147483647 : Int64)).toInt32) / (8 : Int32)) / (rI σ 21 0 0 10) * (rI σ 21 0 0 10))), (6, .int (((v3 * (48271 : Int64)) - (v3 * (48271 : Int64)) / (2147483647 : Int64) * (2147483647 : Int64)).toInt32)), (3, .long ((v3 * (48271 : Int64)) - (v3 * (48271 : Int64)) / (2147483647 : Int64) * (2147483647 : Int64))), (0, .ref (ad en 21 0 0)), (1, .int a1)] dX8_lots_253 rfl rfl (by decide) rfl ?_
          refine r_goto (pc := 256) 58 dX8_lots_256 (by decide) ?_
          exact r_sub [4, 5, 3, 0] rfl (ih ((v3 * (48271 : Int64)) - (v3 * (48271 : Int64)) / (2147483647 : Int64) * (2147483647 : Int64)) (v5 + (1 : Int32)) w7)
        · refine r_iload (pc := 150) 1 dX8_lots_150 rfl ?_
          refine r_iconst (pc := 152) dX8_lots_152 kc_iconst_4 ?_
          refine r_irem (pc := 153) dX8_lots_153 (by decide) ?_
          refine r_iconst (pc := 154) dX8_lots_154 kc_iconst_3 ?_
          refine r_icmp_ne (pc := 155) 175 dX8_lots_155 (by decide) (fun h16 => ?_) (fun h16 => ?_)
          · refine r_aload_n (pc := 158) 3 dX8_lots_158 rfl rfl ?_
            refine g_X8_s (pc := 159)  lf_RX8_34 dX8_lots_159 ?_
            refine r_bipush (pc := 162) dX8_lots_162 kc_bipush_21 ?_
            refine r_dup2 (pc := 164) dX8_lots_164 rfl rfl ?_
            refine r_iald (pc := 165) (n := 22) o22_14 rfl dX8_lots_165 (fun h17 => ?_)
            refine r_iconst (pc := 166) dX8_lots_166 kc_iconst_1 ?_
            refine r_iload (pc := 167) 0 dX8_lots_167 rfl ?_
            refine r_ishl (pc := 169) dX8_lots_169 ?_
            refine r_ixor (pc := 170) dX8_lots_170 ?_
            refine r_iast (pc := 171) (n := 22) o22_14 rfl rfl dX8_lots_171 (fun h18 => ?_)
            refine r_goto (pc := 172) 253 dX8_lots_172 (by decide) ?_
            refine r_iinc (pc := 253) 5 [(5, .int (v5 + (1 : Int32))), (7, .int (((((v3 * (48271 : Int64)) - (v3 * (48271 : Int64)) / (2147483647 : Int64) * (2147483647 : Int64)).toInt32) / (8 : Int32)) - ((((v3 * (48271 : Int64)) - (v3 * (48271 : Int64)) / (2147483647 : Int64) * (2147483647 : Int64)).toInt32) / (8 : Int32)) / (rI σ 21 0 0 10) * (rI σ 21 0 0 10))), (6, .int (((v3 * (48271 : Int64)) - (v3 * (48271 : Int64)) / (2147483647 : Int64) * (2147483647 : Int64)).toInt32)), (3, .long ((v3 * (48271 : Int64)) - (v3 * (48271 : Int64)) / (2147483647 : Int64) * (2147483647 : Int64))), (0, .ref (ad en 21 0 0)), (1, .int a1)] dX8_lots_253 rfl rfl (by decide) rfl ?_
            refine r_goto (pc := 256) 58 dX8_lots_256 (by decide) ?_
            exact r_sub [4, 5, 3, 0] rfl (ih ((v3 * (48271 : Int64)) - (v3 * (48271 : Int64)) / (2147483647 : Int64) * (2147483647 : Int64)) (v5 + (1 : Int32)) (uI w3 22 14 0 (21 : Int32).toNatClampNeg ((rI w3 22 14 0 (21 : Int32).toNatClampNeg) ^^^ ((1 : Int32) <<< ((((((v3 * (48271 : Int64)) - (v3 * (48271 : Int64)) / (2147483647 : Int64) * (2147483647 : Int64)).toInt32) / (8 : Int32)) - ((((v3 * (48271 : Int64)) - (v3 * (48271 : Int64)) / (2147483647 : Int64) * (2147483647 : Int64)).toInt32) / (8 : Int32)) / (rI σ 21 0 0 10) * (rI σ 21 0 0 10)) &&& 31)))))
          · refine r_aload_n (pc := 175) 3 dX8_lots_175 rfl rfl ?_
            refine r_iload (pc := 176) 0 dX8_lots_176 rfl ?_
            refine r_iload (pc := 178) 1 dX8_lots_178 rfl ?_
            refine r_sipush (pc := 180) dX8_lots_180 kc_sipush_128 ?_
            refine r_idiv (pc := 183) dX8_lots_183 (by decide) ?_
            refine r_bipush (pc := 184) dX8_lots_184 kc_bipush_7 ?_
            refine r_irem (pc := 186) dX8_lots_186 (by decide) ?_
            refine r_iconst (pc := 187) dX8_lots_187 kc_iconst_3 ?_
            refine r_isub (pc := 188) dX8_lots_188 ?_
            refine r_iload (pc := 189) 1 dX8_lots_189 rfl ?_
            refine r_sipush (pc := 191) dX8_lots_191 kc_sipush_1024 ?_
            refine r_idiv (pc := 194) dX8_lots_194 (by decide) ?_
            refine r_bipush (pc := 195) dX8_lots_195 kc_bipush_7 ?_
            refine r_irem (pc := 197) dX8_lots_197 (by decide) ?_
            refine r_iconst (pc := 198) dX8_lots_198 kc_iconst_3 ?_
            refine r_isub (pc := 199) dX8_lots_199 ?_
            refine k_X8_isOn (pc := 200) lm_RX8_210  (by decide) (Nat.le_of_ble_eq_true rfl) dX8_lots_200 (fun w8 h19 => ?_)
            refine r_if_eq (pc := 203) 253 dX8_lots_203 (by decide) (fun h20 => ?_) (fun h20 => ?_)
            · refine r_iinc (pc := 253) 5 [(5, .int (v5 + (1 : Int32))), (7, .int (((((v3 * (48271 : Int64)) - (v3 * (48271 : Int64)) / (2147483647 : Int64) * (2147483647 : Int64)).toInt32) / (8 : Int32)) - ((((v3 * (48271 : Int64)) - (v3 * (48271 : Int64)) / (2147483647 : Int64) * (2147483647 : Int64)).toInt32) / (8 : Int32)) / (rI σ 21 0 0 10) * (rI σ 21 0 0 10))), (6, .int (((v3 * (48271 : Int64)) - (v3 * (48271 : Int64)) / (2147483647 : Int64) * (2147483647 : Int64)).toInt32)), (3, .long ((v3 * (48271 : Int64)) - (v3 * (48271 : Int64)) / (2147483647 : Int64) * (2147483647 : Int64))), (0, .ref (ad en 21 0 0)), (1, .int a1)] dX8_lots_253 rfl rfl (by decide) rfl ?_
              refine r_goto (pc := 256) 58 dX8_lots_256 (by decide) ?_
              exact r_sub [4, 5, 3, 0] rfl (ih ((v3 * (48271 : Int64)) - (v3 * (48271 : Int64)) / (2147483647 : Int64) * (2147483647 : Int64)) (v5 + (1 : Int32)) w8.2)
            · refine r_aload_n (pc := 206) 3 dX8_lots_206 rfl rfl ?_
              refine g_X8_s (pc := 207)  lf_RX8_34 dX8_lots_207 ?_
              refine r_iconst (pc := 210) dX8_lots_210 kc_iconst_0 ?_
              refine r_iload (pc := 211) 0 dX8_lots_211 rfl ?_
              refine r_iadd (pc := 213) dX8_lots_213 ?_
              refine r_dup2 (pc := 214) dX8_lots_214 rfl rfl ?_
              refine r_iald (pc := 215) (n := 22) o22_14 rfl dX8_lots_215 (fun h21 => ?_)
              refine r_iload (pc := 216) 1 dX8_lots_216 rfl ?_
              refine r_sipush (pc := 218) dX8_lots_218 kc_sipush_128 ?_
              refine r_idiv (pc := 221) dX8_lots_221 (by decide) ?_
              refine r_bipush (pc := 222) dX8_lots_222 kc_bipush_7 ?_
              refine r_irem (pc := 224) dX8_lots_224 (by decide) ?_
              refine r_iconst (pc := 225) dX8_lots_225 kc_iconst_3 ?_
              refine r_isub (pc := 226) dX8_lots_226 ?_
              refine r_iadd (pc := 227) dX8_lots_227 ?_
              refine r_iast (pc := 228) (n := 22) o22_14 rfl rfl dX8_lots_228 (fun h22 => ?_)
              refine r_aload_n (pc := 229) 3 dX8_lots_229 rfl rfl ?_
              refine g_X8_s (pc := 230)  lf_RX8_34 dX8_lots_230 ?_
              refine r_bipush (pc := 233) dX8_lots_233 kc_bipush_7 ?_
              refine r_iload (pc := 235) 0 dX8_lots_235 rfl ?_
              refine r_iadd (pc := 237) dX8_lots_237 ?_
              refine r_dup2 (pc := 238) dX8_lots_238 rfl rfl ?_
              refine r_iald (pc := 239) (n := 22) o22_14 rfl dX8_lots_239 (fun h23 => ?_)
              refine r_iload (pc := 240) 1 dX8_lots_240 rfl ?_
              refine r_sipush (pc := 242) dX8_lots_242 kc_sipush_1024 ?_
              refine r_idiv (pc := 245) dX8_lots_245 (by decide) ?_
              refine r_bipush (pc := 246) dX8_lots_246 kc_bipush_7 ?_
              refine r_irem (pc := 248) dX8_lots_248 (by decide) ?_
              refine r_iconst (pc := 249) dX8_lots_249 kc_iconst_3 ?_
              refine r_isub (pc := 250) dX8_lots_250 ?_
              refine r_iadd (pc := 251) dX8_lots_251 ?_
              refine r_iast (pc := 252) (n := 22) o22_14 rfl rfl dX8_lots_252 (fun h24 => ?_)
              refine r_iinc (pc := 253) 5 [(5, .int (v5 + (1 : Int32))), (7, .int (((((v3 * (48271 : Int64)) - (v3 * (48271 : Int64)) / (2147483647 : Int64) * (2147483647 : Int64)).toInt32) / (8 : Int32)) - ((((v3 * (48271 : Int64)) - (v3 * (48271 : Int64)) / (2147483647 : Int64) * (2147483647 : Int64)).toInt32) / (8 : Int32)) / (rI σ 21 0 0 10) * (rI σ 21 0 0 10))), (6, .int (((v3 * (48271 : Int64)) - (v3 * (48271 : Int64)) / (2147483647 : Int64) * (2147483647 : Int64)).toInt32)), (3, .long ((v3 * (48271 : Int64)) - (v3 * (48271 : Int64)) / (2147483647 : Int64) * (2147483647 : Int64))), (0, .ref (ad en 21 0 0)), (1, .int a1)] dX8_lots_253 rfl rfl (by decide) rfl ?_
              refine r_goto (pc := 256) 58 dX8_lots_256 (by decide) ?_
              exact r_sub [4, 5, 3, 0] rfl (ih ((v3 * (48271 : Int64)) - (v3 * (48271 : Int64)) / (2147483647 : Int64) * (2147483647 : Int64)) (v5 + (1 : Int32)) (uI (uI w8.2 22 14 0 ((0 : Int32) + (((((v3 * (48271 : Int64)) - (v3 * (48271 : Int64)) / (2147483647 : Int64) * (2147483647 : Int64)).toInt32) / (8 : Int32)) - ((((v3 * (48271 : Int64)) - (v3 * (48271 : Int64)) / (2147483647 : Int64) * (2147483647 : Int64)).toInt32) / (8 : Int32)) / (rI σ 21 0 0 10) * (rI σ 21 0 0 10))).toNatClampNeg ((rI w8.2 22 14 0 ((0 : Int32) + (((((v3 * (48271 : Int64)) - (v3 * (48271 : Int64)) / (2147483647 : Int64) * (2147483647 : Int64)).toInt32) / (8 : Int32)) - ((((v3 * (48271 : Int64)) - (v3 * (48271 : Int64)) / (2147483647 : Int64) * (2147483647 : Int64)).toInt32) / (8 : Int32)) / (rI σ 21 0 0 10) * (rI σ 21 0 0 10))).toNatClampNeg) + ((((((v3 * (48271 : Int64)) - (v3 * (48271 : Int64)) / (2147483647 : Int64) * (2147483647 : Int64)).toInt32) / (128 : Int32)) - ((((v3 * (48271 : Int64)) - (v3 * (48271 : Int64)) / (2147483647 : Int64) * (2147483647 : Int64)).toInt32) / (128 : Int32)) / (7 : Int32) * (7 : Int32)) - (3 : Int32)))) 22 14 0 ((7 : Int32) + (((((v3 * (48271 : Int64)) - (v3 * (48271 : Int64)) / (2147483647 : Int64) * (2147483647 : Int64)).toInt32) / (8 : Int32)) - ((((v3 * (48271 : Int64)) - (v3 * (48271 : Int64)) / (2147483647 : Int64) * (2147483647 : Int64)).toInt32) / (8 : Int32)) / (rI σ 21 0 0 10) * (rI σ 21 0 0 10))).toNatClampNeg ((rI (uI w8.2 22 14 0 ((0 : Int32) + (((((v3 * (48271 : Int64)) - (v3 * (48271 : Int64)) / (2147483647 : Int64) * (2147483647 : Int64)).toInt32) / (8 : Int32)) - ((((v3 * (48271 : Int64)) - (v3 * (48271 : Int64)) / (2147483647 : Int64) * (2147483647 : Int64)).toInt32) / (8 : Int32)) / (rI σ 21 0 0 10) * (rI σ 21 0 0 10))).toNatClampNeg ((rI w8.2 22 14 0 ((0 : Int32) + (((((v3 * (48271 : Int64)) - (v3 * (48271 : Int64)) / (2147483647 : Int64) * (2147483647 : Int64)).toInt32) / (8 : Int32)) - ((((v3 * (48271 : Int64)) - (v3 * (48271 : Int64)) / (2147483647 : Int64) * (2147483647 : Int64)).toInt32) / (8 : Int32)) / (rI σ 21 0 0 10) * (rI σ 21 0 0 10))).toNatClampNeg) + ((((((v3 * (48271 : Int64)) - (v3 * (48271 : Int64)) / (2147483647 : Int64) * (2147483647 : Int64)).toInt32) / (128 : Int32)) - ((((v3 * (48271 : Int64)) - (v3 * (48271 : Int64)) / (2147483647 : Int64) * (2147483647 : Int64)).toInt32) / (128 : Int32)) / (7 : Int32) * (7 : Int32)) - (3 : Int32)))) 22 14 0 ((7 : Int32) + (((((v3 * (48271 : Int64)) - (v3 * (48271 : Int64)) / (2147483647 : Int64) * (2147483647 : Int64)).toInt32) / (8 : Int32)) - ((((v3 * (48271 : Int64)) - (v3 * (48271 : Int64)) / (2147483647 : Int64) * (2147483647 : Int64)).toInt32) / (8 : Int32)) / (rI σ 21 0 0 10) * (rI σ 21 0 0 10))).toNatClampNeg) + ((((((v3 * (48271 : Int64)) - (v3 * (48271 : Int64)) / (2147483647 : Int64) * (2147483647 : Int64)).toInt32) / (1024 : Int32)) - ((((v3 * (48271 : Int64)) - (v3 * (48271 : Int64)) / (2147483647 : Int64) * (2147483647 : Int64)).toInt32) / (1024 : Int32)) / (7 : Int32) * (7 : Int32)) - (3 : Int32)))))
set_option maxHeartbeats 4000000 in
theorem R_X8_lots (en : En) (N : Nat) (p0 : Int32) (p1 : Int32)  (σ : Sg) : RR en ExT mi_X8_lots evI 0 [(0, .ref (ad en 21 0 0)), (1, .int p0), (2, .int p1)] [] σ (f_X8_lots N p0 p1 σ) := by
  unfold f_X8_lots
  refine r_aload_n (pc := 0) 0 dX8_lots_0 rfl rfl ?_
  refine r_iconst (pc := 1) dX8_lots_1 kc_iconst_0 ?_
  refine p_X8_thrown (pc := 2)  lf_RX8_81 dX8_lots_2 ?_
  refine r_iload_n (pc := 5) 1 dX8_lots_5 rfl rfl ?_
  refine r_iconst (pc := 6) dX8_lots_6 kc_iconst_1 ?_
  refine r_bipush (pc := 7) dX8_lots_7 kc_bipush_20 ?_
  refine k_X8_in (pc := 9) lm_RX8_91  (by decide) (Nat.le_of_ble_eq_true rfl) dX8_lots_9 (fun w1 h1 => ?_)
  refine r_if_eq (pc := 12) 26 dX8_lots_12 (by decide) (fun h2 => ?_) (fun h2 => ?_)
  · refine r_iconst (pc := 26) dX8_lots_26 kc_iconst_m1 ?_
    exact r_iret (pc := 27) rfl dX8_lots_27
  · refine r_iload_n (pc := 15) 2 dX8_lots_15 rfl rfl ?_
    refine r_iconst (pc := 16) dX8_lots_16 kc_iconst_1 ?_
    refine r_ldcw (pc := 17) lc_RX8_272 dX8_lots_17 ?_
    refine k_X8_in (pc := 20) lm_RX8_91  (by decide) (Nat.le_of_ble_eq_true rfl) dX8_lots_20 (fun w2 h3 => ?_)
    refine r_if_ne (pc := 23) 28 dX8_lots_23 (by decide) (fun h4 => ?_) (fun h4 => ?_)
    · refine r_iconst (pc := 26) dX8_lots_26 kc_iconst_m1 ?_
      exact r_iret (pc := 27) rfl dX8_lots_27
    · refine r_aload_n (pc := 28) 0 dX8_lots_28 rfl rfl ?_
      refine g_X8_panes (pc := 29)  lf_RX8_143 dX8_lots_29 ?_
      refine r_if_ne (pc := 32) 38 dX8_lots_32 (by decide) (fun h5 => ?_) (fun h5 => ?_)
      · refine r_bipush (pc := 35) dX8_lots_35 kc_bipush_m4 ?_
        exact r_iret (pc := 37) rfl dX8_lots_37
      · refine r_aload_n (pc := 38) 0 dX8_lots_38 rfl rfl ?_
        refine g_X8_deeds (pc := 39)  lf_RX8_146 dX8_lots_39 ?_
        refine r_iload_n (pc := 42) 1 dX8_lots_42 rfl rfl ?_
        refine r_iadd (pc := 43) dX8_lots_43 ?_
        refine r_bipush (pc := 44) dX8_lots_44 kc_bipush_40 ?_
        refine r_icmp_le (pc := 46) 52 dX8_lots_46 (by decide) (fun h6 => ?_) (fun h6 => ?_)
        · refine r_iload_n (pc := 52) 2 dX8_lots_52 rfl rfl ?_
          refine r_i2l (pc := 53) dX8_lots_53 ?_
          refine r_lstore_n (pc := 54) [(3, .long p1.toInt64), (0, .ref (ad en 21 0 0)), (1, .int p0), (2, .int p1)] dX8_lots_54 rfl (by decide) rfl ?_
          refine r_iconst (pc := 55) dX8_lots_55 kc_iconst_0 ?_
          refine r_istore (pc := 56) [(5, .int (0 : Int32)), (3, .long p1.toInt64), (0, .ref (ad en 21 0 0)), (1, .int p0), (2, .int p1)] dX8_lots_56 (by decide) rfl ?_
          refine r_sub [2, 3, 1, 0] rfl (RL_X8_lots_58 en N p0  (fun v3_9 v5_9 σ_9 => ?_) N p1.toInt64 (0 : Int32) w2.2)
          refine r_aload_n (pc := 259) 0 dX8_lots_259 rfl rfl ?_
          refine k_X8_sees (pc := 260) lm_RX8_182  (by decide) (Nat.le_of_ble_eq_true rfl) dX8_lots_260 (fun w10 h25 => ?_)
          refine r_aload_n (pc := 263) 0 dX8_lots_263 rfl rfl ?_
          refine k_X8_manySeen (pc := 264) lm_RX8_236  (by decide) (Nat.le_of_ble_eq_true rfl) dX8_lots_264 (fun w11 h26 => ?_)
          exact r_iret (pc := 267) rfl dX8_lots_267
        · refine r_bipush (pc := 49) dX8_lots_49 kc_bipush_m2 ?_
          exact r_iret (pc := 51) rfl dX8_lots_51
theorem ok_X8_lots : yOk yX8_lots cX8_lots 8 (some .int) := ⟨in_lwG (by decide +kernel) rfl, in_lwG (by decide +kernel) rfl, by decide, by decide, by decide⟩
theorem k_X8_lots {en : En} {Ex : (Nat → Prop) → State → Prop} {mi : Mi} {α : Type} {ev : α → Option Value × Sg} {pc index : Nat} {lv : List (Nat × Value)} {rest : List Value} {σ : Sg} {N : Nat} {k : (Int32 × Sg) → Option α} {p0 : Int32} {p1 : Int32} (hlink : Cond.methodLink mi.1 index yX8_lots ∈ lwG) (hroom : 6 + 1 ≤ mi.2.2.2.2) (hcat : (rest.map fun v => v.category).sum ≤ 8) (hd : decode mi.2.1 pc = .ok (.invokevirtual index, 3))  (h : ∀ w : Int32 × Sg, f_X8_lots N p0 p1 σ = some w → RR en Ex mi ev (pc + 3) lv (.int w.1 :: rest) w.2 (k w)) : RR en Ex mi ev pc lv (.int p1 :: .int p0 :: .ref (ad en 21 0 0) :: rest) σ ((f_X8_lots N p0 p1 σ).bind k) :=
  r_callV (n := 2) [.int p0, .int p1] ok_X8_lots hlink (in_lwG (by decide +kernel) rfl) (in_lwG (by decide +kernel) rfl) (by decide +kernel) rfl hroom (by decide) o21 rfl rfl hcat (R_X8_lots en N p0 p1  σ) (Nat.le_of_ble_eq_true rfl) hd h
set_option maxHeartbeats 4000000 in
theorem R_X8_lower (en : En) (N : Nat)  (σ : Sg) : RR en ExT mi_X8_lower evL 0 [(0, .ref (ad en 21 0 0))] [] σ (f_X8_lower N σ) := by
  unfold f_X8_lower
  refine r_aload_n (pc := 0) 0 dX8_lower_0 rfl rfl ?_
  refine r_iconst (pc := 1) dX8_lower_1 kc_iconst_0 ?_
  refine p_X8_thrown (pc := 2)  lf_RX8_81 dX8_lower_2 ?_
  refine r_aload_n (pc := 5) 0 dX8_lower_5 rfl rfl ?_
  refine g_X8_below (pc := 6)  lf_RX8_77 dX8_lower_6 ?_
  exact r_lret (pc := 9) rfl dX8_lower_9
theorem ok_X8_lower : yOk yX8_lower cX8_lower 1 (some .long) := ⟨in_lwG (by decide +kernel) rfl, in_lwG (by decide +kernel) rfl, by decide, by decide, by decide⟩
theorem k_X8_lower {en : En} {Ex : (Nat → Prop) → State → Prop} {mi : Mi} {α : Type} {ev : α → Option Value × Sg} {pc index : Nat} {lv : List (Nat × Value)} {rest : List Value} {σ : Sg} {N : Nat} {k : (Int64 × Sg) → Option α}  (hlink : Cond.methodLink mi.1 index yX8_lower ∈ lwG) (hroom : 1 + 1 ≤ mi.2.2.2.2) (hcat : (rest.map fun v => v.category).sum ≤ 8) (hd : decode mi.2.1 pc = .ok (.invokevirtual index, 3))  (h : ∀ w : Int64 × Sg, f_X8_lower N  σ = some w → RR en Ex mi ev (pc + 3) lv (.long w.1 :: rest) w.2 (k w)) : RR en Ex mi ev pc lv (.ref (ad en 21 0 0) :: rest) σ ((f_X8_lower N  σ).bind k) :=
  r_callV (n := 0) [] ok_X8_lower hlink (in_lwG (by decide +kernel) rfl) (in_lwG (by decide +kernel) rfl) (by decide +kernel) rfl hroom (by decide) o21 rfl rfl hcat (R_X8_lower en N   σ) (Nat.le_of_ble_eq_true rfl) hd h
set_option maxHeartbeats 4000000 in
theorem RL_X8_mark_59 (en : En) (N : Nat) {k : Int32 → Int32 → Option (Int32 × Sg)} (σ : Sg)  (hk : ∀ (v3 : Int32) (v4 : Int32), RR en ExT mi_X8_mark evI 101 [(3, .int v3)] [] σ (k v3 v4)) : ∀ (n : Nat) (v3 : Int32) (v4 : Int32), RR en ExT mi_X8_mark evI 59 [(0, .ref (ad en 21 0 0)), (3, .int v3), (4, .int v4)] [] σ (L_X8_mark_59 N k σ n v3 v4) := by
  intro n
  induction n with
  | zero => intro v3 v4; exact r_none
  | succ n ih =>
    intro v3 v4
    rw [L_X8_mark_59_s]
    refine r_iload (pc := 59) 2 dX8_mark_59 rfl ?_
    refine r_aload_n (pc := 61) 0 dX8_mark_61 rfl rfl ?_
    refine g_X8_panes (pc := 62)  lf_RX8_143 dX8_mark_62 ?_
    refine r_icmp_ge (pc := 65) 101 dX8_mark_65 (by decide) (fun h11 => ?_) (fun h11 => ?_)
    · exact r_sub [1] rfl (hk v3 v4)
    · refine r_iload_n (pc := 68) 1 dX8_mark_68 rfl rfl ?_
      refine r_aload_n (pc := 69) 0 dX8_mark_69 rfl rfl ?_
      refine g_X8_kind (pc := 70)  lf_RX8_25 dX8_mark_70 ?_
      refine r_aload_n (pc := 73) 0 dX8_mark_73 rfl rfl ?_
      refine g_X8_s (pc := 74)  lf_RX8_34 dX8_mark_74 ?_
      refine r_bipush (pc := 77) dX8_mark_77 kc_bipush_14 ?_
      refine r_iload (pc := 79) 2 dX8_mark_79 rfl ?_
      refine r_iadd (pc := 81) dX8_mark_81 ?_
      refine r_iald (pc := 82) (n := 22) o22_14 rfl dX8_mark_82 (fun h12 => ?_)
      refine r_iald (pc := 83) (n := 7) o22_11 rfl dX8_mark_83 (fun h13 => ?_)
      refine r_iconst (pc := 84) dX8_mark_84 kc_iconst_3 ?_
      refine r_icmp_ne (pc := 85) 92 dX8_mark_85 (by decide) (fun h14 => ?_) (fun h14 => ?_)
      · refine r_iconst (pc := 88) dX8_mark_88 kc_iconst_0 ?_
        refine r_goto (pc := 89) 93 dX8_mark_89 (by decide) ?_
        refine r_iadd (pc := 93) dX8_mark_93 ?_
        refine r_istore_n (pc := 94) [(3, .int (v3 + (0 : Int32))), (0, .ref (ad en 21 0 0)), (4, .int v4)] dX8_mark_94 rfl (by decide) rfl ?_
        refine r_iinc (pc := 95) 2 [(4, .int (v4 + (1 : Int32))), (3, .int (v3 + (0 : Int32))), (0, .ref (ad en 21 0 0))] dX8_mark_95 rfl rfl (by decide) rfl ?_
        refine r_goto (pc := 98) 59 dX8_mark_98 (by decide) ?_
        exact r_sub [2, 1, 0] rfl (ih (v3 + (0 : Int32)) (v4 + (1 : Int32)))
      · refine r_iconst (pc := 92) dX8_mark_92 kc_iconst_1 ?_
        refine r_iadd (pc := 93) dX8_mark_93 ?_
        refine r_istore_n (pc := 94) [(3, .int (v3 + (1 : Int32))), (0, .ref (ad en 21 0 0)), (4, .int v4)] dX8_mark_94 rfl (by decide) rfl ?_
        refine r_iinc (pc := 95) 2 [(4, .int (v4 + (1 : Int32))), (3, .int (v3 + (1 : Int32))), (0, .ref (ad en 21 0 0))] dX8_mark_95 rfl rfl (by decide) rfl ?_
        refine r_goto (pc := 98) 59 dX8_mark_98 (by decide) ?_
        exact r_sub [2, 1, 0] rfl (ih (v3 + (1 : Int32)) (v4 + (1 : Int32)))
set_option maxHeartbeats 4000000 in
theorem R_X8_mark (en : En) (N : Nat) (p0 : Int32) (p1 : Int32)  (σ : Sg) : RR en ExT mi_X8_mark evI 0 [(0, .ref (ad en 21 0 0)), (1, .int p0), (2, .int p1)] [] σ (f_X8_mark N p0 p1 σ) := by
  unfold f_X8_mark
  refine r_aload_n (pc := 0) 0 dX8_mark_0 rfl rfl ?_
  refine r_iconst (pc := 1) dX8_mark_1 kc_iconst_0 ?_
  refine p_X8_thrown (pc := 2)  lf_RX8_81 dX8_mark_2 ?_
  refine r_aload_n (pc := 5) 0 dX8_mark_5 rfl rfl ?_
  refine r_iload_n (pc := 6) 1 dX8_mark_6 rfl rfl ?_
  refine k_X8_isPane (pc := 7) lm_RX8_188  (by decide) (Nat.le_of_ble_eq_true rfl) dX8_mark_7 (fun w1 h1 => ?_)
  refine r_if_eq (pc := 10) 22 dX8_mark_10 (by decide) (fun h2 => ?_) (fun h2 => ?_)
  · refine r_iconst (pc := 22) dX8_mark_22 kc_iconst_m1 ?_
    exact r_iret (pc := 23) rfl dX8_mark_23
  · refine r_iload_n (pc := 13) 2 dX8_mark_13 rfl rfl ?_
    refine r_iconst (pc := 14) dX8_mark_14 kc_iconst_1 ?_
    refine r_iconst (pc := 15) dX8_mark_15 kc_iconst_5 ?_
    refine k_X8_in (pc := 16) lm_RX8_91  (by decide) (Nat.le_of_ble_eq_true rfl) dX8_mark_16 (fun w2 h3 => ?_)
    refine r_if_ne (pc := 19) 24 dX8_mark_19 (by decide) (fun h4 => ?_) (fun h4 => ?_)
    · refine r_iconst (pc := 22) dX8_mark_22 kc_iconst_m1 ?_
      exact r_iret (pc := 23) rfl dX8_mark_23
    · refine r_aload_n (pc := 24) 0 dX8_mark_24 rfl rfl ?_
      refine g_X8_kind (pc := 25)  lf_RX8_25 dX8_mark_25 ?_
      refine r_iload_n (pc := 28) 1 dX8_mark_28 rfl rfl ?_
      refine r_iald (pc := 29) (n := 7) o22_11 rfl dX8_mark_29 (fun h5 => ?_)
      refine r_iload_n (pc := 30) 2 dX8_mark_30 rfl rfl ?_
      refine k_X8_isOne (pc := 31) lm_RX8_194  (by decide) (Nat.le_of_ble_eq_true rfl) dX8_mark_31 (fun w3 h6 => ?_)
      refine r_if_ne (pc := 34) 43 dX8_mark_34 (by decide) (fun h7 => ?_) (fun h7 => ?_)
      · refine r_aload_n (pc := 37) 0 dX8_mark_37 rfl rfl ?_
        refine r_iconst (pc := 38) dX8_mark_38 kc_iconst_3 ?_
        refine k_X8_found (pc := 39) lm_RX8_99  (by decide) (Nat.le_of_ble_eq_true rfl) dX8_mark_39 (fun w4 h8 => ?_)
        exact r_iret (pc := 42) rfl dX8_mark_42
      · refine r_iload_n (pc := 43) 2 dX8_mark_43 rfl rfl ?_
        refine r_iconst (pc := 44) dX8_mark_44 kc_iconst_3 ?_
        refine r_icmp_ne (pc := 45) 103 dX8_mark_45 (by decide) (fun h9 => ?_) (fun h9 => ?_)
        · refine r_iconst (pc := 48) dX8_mark_48 kc_iconst_0 ?_
          refine r_istore_n (pc := 49) [(3, .int (0 : Int32)), (0, .ref (ad en 21 0 0)), (1, .int p0), (2, .int p1)] dX8_mark_49 rfl (by decide) rfl ?_
          refine r_aload_n (pc := 50) 1 dX8_mark_50 rfl rfl ?_
          refine r_iload_n (pc := 51) 2 dX8_mark_51 rfl rfl ?_
          refine k_X8_placeOf (pc := 52) lm_RX8_179  (by decide) (Nat.le_of_ble_eq_true rfl) dX8_mark_52 (fun w5 h10 => ?_)
          refine r_iconst (pc := 55) dX8_mark_55 kc_iconst_1 ?_
          refine r_iadd (pc := 56) dX8_mark_56 ?_
          refine r_istore (pc := 57) [(4, .int (w5.1 + (1 : Int32))), (3, .int (0 : Int32)), (0, .ref (ad en 21 0 0)), (1, .int p0), (2, .int p1)] dX8_mark_57 (by decide) rfl ?_
          refine r_sub [2, 1, 0] rfl (RL_X8_mark_59 en N w5.2  (fun v3_6 v4_6 => ?_) N (0 : Int32) (w5.1 + (1 : Int32)))
          refine r_iload_n (pc := 101) 0 dX8_mark_101 rfl rfl ?_
          exact r_iret (pc := 102) rfl dX8_mark_102
        · refine r_aload_n (pc := 103) 0 dX8_mark_103 rfl rfl ?_
          refine k_X8_asNow (pc := 104) lm_RX8_163  (by decide) (Nat.le_of_ble_eq_true rfl) dX8_mark_104 (fun w7 h15 => ?_)
          refine r_aload_n (pc := 107) 0 dX8_mark_107 rfl rfl ?_
          refine r_iload_n (pc := 108) 1 dX8_mark_108 rfl rfl ?_
          refine k_X8_covering (pc := 109) lm_RX8_153  (by decide) (Nat.le_of_ble_eq_true rfl) dX8_mark_109 (fun w8 h16 => ?_)
          refine r_aload_n (pc := 112) 0 dX8_mark_112 rfl rfl ?_
          refine r_iload_n (pc := 113) 1 dX8_mark_113 rfl rfl ?_
          refine k_X8_coveredOf (pc := 114) lm_RX8_197  (by decide) (Nat.le_of_ble_eq_true rfl) dX8_mark_114 (fun w9 h17 => ?_)
          refine r_istore_n (pc := 117) [(3, .int w9.1), (0, .ref (ad en 21 0 0)), (1, .int p0), (2, .int p1)] dX8_mark_117 rfl (by decide) rfl ?_
          refine r_iload_n (pc := 118) 3 dX8_mark_118 rfl rfl ?_
          refine r_iconst (pc := 119) dX8_mark_119 kc_iconst_3 ?_
          refine r_icmp_ge (pc := 120) 139 dX8_mark_120 (by decide) (fun h18 => ?_) (fun h18 => ?_)
          · refine r_aload_n (pc := 139) 1 dX8_mark_139 rfl rfl ?_
            refine g_X8_kindIf (pc := 140)  lf_RX8_49 dX8_mark_140 ?_
            refine r_iload_n (pc := 143) 2 dX8_mark_143 rfl rfl ?_
            refine r_iload_n (pc := 144) 3 dX8_mark_144 rfl rfl ?_
            refine r_iconst (pc := 145) dX8_mark_145 kc_iconst_4 ?_
            refine r_icmp_ne (pc := 146) 153 dX8_mark_146 (by decide) (fun h19 => ?_) (fun h19 => ?_)
            · refine r_iconst (pc := 149) dX8_mark_149 kc_iconst_1 ?_
              refine r_goto (pc := 150) 154 dX8_mark_150 (by decide) ?_
              refine r_iast (pc := 154) (n := 7) o22_20 rfl rfl dX8_mark_154 (fun h20 => ?_)
              refine r_aload_n (pc := 155) 1 dX8_mark_155 rfl rfl ?_
              refine r_iload_n (pc := 156) 2 dX8_mark_156 rfl rfl ?_
              refine k_X8_covering (pc := 157) lm_RX8_153  (by decide) (Nat.le_of_ble_eq_true rfl) dX8_mark_157 (fun w10 h21 => ?_)
              refine r_aload_n (pc := 160) 1 dX8_mark_160 rfl rfl ?_
              refine r_iload_n (pc := 161) 2 dX8_mark_161 rfl rfl ?_
              refine k_X8_coveredOf (pc := 162) lm_RX8_197  (by decide) (Nat.le_of_ble_eq_true rfl) dX8_mark_162 (fun w11 h22 => ?_)
              refine r_iload_n (pc := 165) 0 dX8_mark_165 rfl rfl ?_
              refine r_isub (pc := 166) dX8_mark_166 ?_
              exact r_iret (pc := 167) rfl dX8_mark_167
            · refine r_iconst (pc := 153) dX8_mark_153 kc_iconst_2 ?_
              refine r_iast (pc := 154) (n := 7) o22_20 rfl rfl dX8_mark_154 (fun h23 => ?_)
              refine r_aload_n (pc := 155) 1 dX8_mark_155 rfl rfl ?_
              refine r_iload_n (pc := 156) 2 dX8_mark_156 rfl rfl ?_
              refine k_X8_covering (pc := 157) lm_RX8_153  (by decide) (Nat.le_of_ble_eq_true rfl) dX8_mark_157 (fun w12 h24 => ?_)
              refine r_aload_n (pc := 160) 1 dX8_mark_160 rfl rfl ?_
              refine r_iload_n (pc := 161) 2 dX8_mark_161 rfl rfl ?_
              refine k_X8_coveredOf (pc := 162) lm_RX8_197  (by decide) (Nat.le_of_ble_eq_true rfl) dX8_mark_162 (fun w13 h25 => ?_)
              refine r_iload_n (pc := 165) 0 dX8_mark_165 rfl rfl ?_
              refine r_isub (pc := 166) dX8_mark_166 ?_
              exact r_iret (pc := 167) rfl dX8_mark_167
          · refine r_aload_n (pc := 123) 1 dX8_mark_123 rfl rfl ?_
            refine g_X8_wide (pc := 124)  lf_RX8_28 dX8_mark_124 ?_
            refine r_iload_n (pc := 127) 2 dX8_mark_127 rfl rfl ?_
            refine r_iald (pc := 128) (n := 7) o22_12 rfl dX8_mark_128 (fun h26 => ?_)
            refine r_aload_n (pc := 129) 1 dX8_mark_129 rfl rfl ?_
            refine g_X8_high (pc := 130)  lf_RX8_31 dX8_mark_130 ?_
            refine r_iload_n (pc := 133) 2 dX8_mark_133 rfl rfl ?_
            refine r_iald (pc := 134) (n := 7) o22_13 rfl dX8_mark_134 (fun h27 => ?_)
            refine r_imul (pc := 135) dX8_mark_135 ?_
            refine r_iload_n (pc := 136) 0 dX8_mark_136 rfl rfl ?_
            refine r_isub (pc := 137) dX8_mark_137 ?_
            exact r_iret (pc := 138) rfl dX8_mark_138
theorem ok_X8_mark : yOk yX8_mark cX8_mark 5 (some .int) := ⟨in_lwG (by decide +kernel) rfl, in_lwG (by decide +kernel) rfl, by decide, by decide, by decide⟩
theorem k_X8_mark {en : En} {Ex : (Nat → Prop) → State → Prop} {mi : Mi} {α : Type} {ev : α → Option Value × Sg} {pc index : Nat} {lv : List (Nat × Value)} {rest : List Value} {σ : Sg} {N : Nat} {k : (Int32 × Sg) → Option α} {p0 : Int32} {p1 : Int32} (hlink : Cond.methodLink mi.1 index yX8_mark ∈ lwG) (hroom : 4 + 1 ≤ mi.2.2.2.2) (hcat : (rest.map fun v => v.category).sum ≤ 8) (hd : decode mi.2.1 pc = .ok (.invokevirtual index, 3))  (h : ∀ w : Int32 × Sg, f_X8_mark N p0 p1 σ = some w → RR en Ex mi ev (pc + 3) lv (.int w.1 :: rest) w.2 (k w)) : RR en Ex mi ev pc lv (.int p1 :: .int p0 :: .ref (ad en 21 0 0) :: rest) σ ((f_X8_mark N p0 p1 σ).bind k) :=
  r_callV (n := 2) [.int p0, .int p1] ok_X8_mark hlink (in_lwG (by decide +kernel) rfl) (in_lwG (by decide +kernel) rfl) (by decide +kernel) rfl hroom (by decide) o21 rfl rfl hcat (R_X8_mark en N p0 p1  σ) (Nat.le_of_ble_eq_true rfl) hd h
set_option maxHeartbeats 4000000 in
theorem RL_X8_mean_49 (en : En) (N : Nat) {k : Int64 → Int32 → Option (Int32 × Sg)} (a1 : Int32) (σ : Sg)  (hk : ∀ (v2 : Int64) (v4 : Int32), RR en ExT mi_X8_mean evI 82 [(0, .ref (ad en 21 0 0)), (1, .int a1), (2, .long v2)] [] σ (k v2 v4)) : ∀ (n : Nat) (v2 : Int64) (v4 : Int32), RR en ExT mi_X8_mean evI 49 [(0, .ref (ad en 21 0 0)), (1, .int a1), (2, .long v2), (4, .int v4)] [] σ (L_X8_mean_49 N k a1 σ n v2 v4) := by
  intro n
  induction n with
  | zero => intro v2 v4; exact r_none
  | succ n ih =>
    intro v2 v4
    rw [L_X8_mean_49_s]
    refine r_iload (pc := 49) 3 dX8_mean_49 rfl ?_
    refine r_aload_n (pc := 51) 0 dX8_mean_51 rfl rfl ?_
    refine g_X8_rowSize (pc := 52)  lf_RX8_16 dX8_mean_52 ?_
    refine r_iload_n (pc := 55) 1 dX8_mean_55 rfl rfl ?_
    refine r_iald (pc := 56) (n := 6) o22_7 rfl dX8_mean_56 (fun h8 => ?_)
    refine r_icmp_ge (pc := 57) 82 dX8_mean_57 (by decide) (fun h9 => ?_) (fun h9 => ?_)
    · exact r_sub [0, 1, 2] rfl (hk v2 v4)
    · refine r_lload_n (pc := 60) 2 dX8_mean_60 rfl rfl ?_
      refine r_aload_n (pc := 61) 0 dX8_mean_61 rfl rfl ?_
      refine g_X8_rows (pc := 62)  lf_RX8_13 dX8_mean_62 ?_
      refine r_bipush (pc := 65) dX8_mean_65 kc_bipush_40 ?_
      refine r_iload_n (pc := 67) 1 dX8_mean_67 rfl rfl ?_
      refine r_imul (pc := 68) dX8_mean_68 ?_
      refine r_iload (pc := 69) 3 dX8_mean_69 rfl ?_
      refine r_iadd (pc := 71) dX8_mean_71 ?_
      refine r_iald (pc := 72) (n := 240) o22_6 rfl dX8_mean_72 (fun h10 => ?_)
      refine r_i2l (pc := 73) dX8_mean_73 ?_
      refine r_ladd (pc := 74) dX8_mean_74 ?_
      refine r_lstore_n (pc := 75) [(2, .long (v2 + ((rI σ 22 6 0 (((40 : Int32) * a1) + v4).toNatClampNeg).toInt64))), (0, .ref (ad en 21 0 0)), (1, .int a1), (4, .int v4)] dX8_mean_75 rfl (by decide) rfl ?_
      refine r_iinc (pc := 76) 3 [(4, .int (v4 + (1 : Int32))), (2, .long (v2 + ((rI σ 22 6 0 (((40 : Int32) * a1) + v4).toNatClampNeg).toInt64))), (0, .ref (ad en 21 0 0)), (1, .int a1)] dX8_mean_76 rfl rfl (by decide) rfl ?_
      refine r_goto (pc := 79) 49 dX8_mean_79 (by decide) ?_
      exact r_sub [2, 3, 1, 0] rfl (ih (v2 + ((rI σ 22 6 0 (((40 : Int32) * a1) + v4).toNatClampNeg).toInt64)) (v4 + (1 : Int32)))
set_option maxHeartbeats 4000000 in
theorem R_X8_mean (en : En) (N : Nat) (p0 : Int32)  (σ : Sg) : RR en ExT mi_X8_mean evI 0 [(0, .ref (ad en 21 0 0)), (1, .int p0)] [] σ (f_X8_mean N p0 σ) := by
  unfold f_X8_mean
  refine r_aload_n (pc := 0) 0 dX8_mean_0 rfl rfl ?_
  refine r_iconst (pc := 1) dX8_mean_1 kc_iconst_0 ?_
  refine p_X8_thrown (pc := 2)  lf_RX8_81 dX8_mean_2 ?_
  refine r_iload_n (pc := 5) 1 dX8_mean_5 rfl rfl ?_
  refine k_X8_isRow (pc := 6) lm_RX8_95  (by decide) (Nat.le_of_ble_eq_true rfl) dX8_mean_6 (fun w1 h1 => ?_)
  refine r_if_ne (pc := 9) 14 dX8_mean_9 (by decide) (fun h2 => ?_) (fun h2 => ?_)
  · refine r_iconst (pc := 12) dX8_mean_12 kc_iconst_m1 ?_
    exact r_iret (pc := 13) rfl dX8_mean_13
  · refine r_aload_n (pc := 14) 0 dX8_mean_14 rfl rfl ?_
    refine g_X8_rowSize (pc := 15)  lf_RX8_16 dX8_mean_15 ?_
    refine r_iload_n (pc := 18) 1 dX8_mean_18 rfl rfl ?_
    refine r_iald (pc := 19) (n := 6) o22_7 rfl dX8_mean_19 (fun h3 => ?_)
    refine r_if_ge (pc := 20) 29 dX8_mean_20 (by decide) (fun h4 => ?_) (fun h4 => ?_)
    · refine r_aload_n (pc := 29) 0 dX8_mean_29 rfl rfl ?_
      refine g_X8_rowSize (pc := 30)  lf_RX8_16 dX8_mean_30 ?_
      refine r_iload_n (pc := 33) 1 dX8_mean_33 rfl rfl ?_
      refine r_iald (pc := 34) (n := 6) o22_7 rfl dX8_mean_34 (fun h5 => ?_)
      refine r_if_ne (pc := 35) 44 dX8_mean_35 (by decide) (fun h6 => ?_) (fun h6 => ?_)
      · refine r_aload_n (pc := 38) 0 dX8_mean_38 rfl rfl ?_
        refine r_iconst (pc := 39) dX8_mean_39 kc_iconst_4 ?_
        refine k_X8_found (pc := 40) lm_RX8_99  (by decide) (Nat.le_of_ble_eq_true rfl) dX8_mean_40 (fun w2 h7 => ?_)
        exact r_iret (pc := 43) rfl dX8_mean_43
      · refine r_lconst (pc := 44) (v := 0) dX8_mean_44 rfl ?_
        refine r_lstore_n (pc := 45) [(2, .long (0 : Int64)), (0, .ref (ad en 21 0 0)), (1, .int p0)] dX8_mean_45 rfl (by decide) rfl ?_
        refine r_iconst (pc := 46) dX8_mean_46 kc_iconst_0 ?_
        refine r_istore (pc := 47) [(4, .int (0 : Int32)), (2, .long (0 : Int64)), (0, .ref (ad en 21 0 0)), (1, .int p0)] dX8_mean_47 (by decide) rfl ?_
        refine r_sub [2, 3, 1, 0] rfl (RL_X8_mean_49 en N p0 w1.2  (fun v2_3 v4_3 => ?_) N (0 : Int64) (0 : Int32))
        refine r_aload_n (pc := 82) 0 dX8_mean_82 rfl rfl ?_
        refine r_iconst (pc := 83) dX8_mean_83 kc_iconst_1 ?_
        refine r_lload_n (pc := 84) 2 dX8_mean_84 rfl rfl ?_
        refine r_aload_n (pc := 85) 0 dX8_mean_85 rfl rfl ?_
        refine g_X8_rowSize (pc := 86)  lf_RX8_16 dX8_mean_86 ?_
        refine r_iload_n (pc := 89) 1 dX8_mean_89 rfl rfl ?_
        refine r_iald (pc := 90) (n := 6) o22_7 rfl dX8_mean_90 (fun h11 => ?_)
        refine r_i2l (pc := 91) dX8_mean_91 ?_
        refine r_gd (fun h12 => ?_)
        refine r_ldiv (pc := 92) dX8_mean_92 (of_decide_eq_true h12) ?_
        refine r_l2i (pc := 93) dX8_mean_93 ?_
        refine k_X8_tells (pc := 94) lm_RX8_107  (by decide) (Nat.le_of_ble_eq_true rfl) dX8_mean_94 (fun w4 h13 => ?_)
        exact r_iret (pc := 97) rfl dX8_mean_97
    · refine r_aload_n (pc := 23) 0 dX8_mean_23 rfl rfl ?_
      refine r_iconst (pc := 24) dX8_mean_24 kc_iconst_1 ?_
      refine k_X8_found (pc := 25) lm_RX8_99  (by decide) (Nat.le_of_ble_eq_true rfl) dX8_mean_25 (fun w5 h14 => ?_)
      exact r_iret (pc := 28) rfl dX8_mean_28
theorem ok_X8_mean : yOk yX8_mean cX8_mean 5 (some .int) := ⟨in_lwG (by decide +kernel) rfl, in_lwG (by decide +kernel) rfl, by decide, by decide, by decide⟩
theorem k_X8_mean {en : En} {Ex : (Nat → Prop) → State → Prop} {mi : Mi} {α : Type} {ev : α → Option Value × Sg} {pc index : Nat} {lv : List (Nat × Value)} {rest : List Value} {σ : Sg} {N : Nat} {k : (Int32 × Sg) → Option α} {p0 : Int32} (hlink : Cond.methodLink mi.1 index yX8_mean ∈ lwG) (hroom : 3 + 1 ≤ mi.2.2.2.2) (hcat : (rest.map fun v => v.category).sum ≤ 8) (hd : decode mi.2.1 pc = .ok (.invokevirtual index, 3))  (h : ∀ w : Int32 × Sg, f_X8_mean N p0 σ = some w → RR en Ex mi ev (pc + 3) lv (.int w.1 :: rest) w.2 (k w)) : RR en Ex mi ev pc lv (.int p0 :: .ref (ad en 21 0 0) :: rest) σ ((f_X8_mean N p0 σ).bind k) :=
  r_callV (n := 1) [.int p0] ok_X8_mean hlink (in_lwG (by decide +kernel) rfl) (in_lwG (by decide +kernel) rfl) (by decide +kernel) rfl hroom (by decide) o21 rfl rfl hcat (R_X8_mean en N p0  σ) (Nat.le_of_ble_eq_true rfl) hd h
set_option maxHeartbeats 4000000 in
theorem RL_X8_power_5 (en : En) (N : Nat) {k : Int64 → Int32 → Option (Int64 × Sg)} (a0 : Int64) (a2 : Int32) (σ : Sg)  (hk : ∀ (v3 : Int64) (v5 : Int32), RR en ExT mi_X8_power evL 21 [(3, .long v3)] [] σ (k v3 v5)) : ∀ (n : Nat) (v3 : Int64) (v5 : Int32), RR en ExT mi_X8_power evL 5 [(0, .long a0), (2, .int a2), (3, .long v3), (5, .int v5)] [] σ (L_X8_power_5 N k a0 a2 σ n v3 v5) := by
  intro n
  induction n with
  | zero => intro v3 v5; exact r_none
  | succ n ih =>
    intro v3 v5
    rw [L_X8_power_5_s]
    refine r_iload (pc := 5) 3 dX8_power_5 rfl ?_
    refine r_iload_n (pc := 7) 1 dX8_power_7 rfl rfl ?_
    refine r_icmp_ge (pc := 8) 21 dX8_power_8 (by decide) (fun h1 => ?_) (fun h1 => ?_)
    · exact r_sub [2] rfl (hk v3 v5)
    · refine r_lload_n (pc := 11) 2 dX8_power_11 rfl rfl ?_
      refine r_lload_n (pc := 12) 0 dX8_power_12 rfl rfl ?_
      refine r_lmul (pc := 13) dX8_power_13 ?_
      refine r_lstore_n (pc := 14) [(3, .long (v3 * a0)), (0, .long a0), (2, .int a2), (5, .int v5)] dX8_power_14 rfl (by decide) rfl ?_
      refine r_iinc (pc := 15) 3 [(5, .int (v5 + (1 : Int32))), (3, .long (v3 * a0)), (0, .long a0), (2, .int a2)] dX8_power_15 rfl rfl (by decide) rfl ?_
      refine r_goto (pc := 18) 5 dX8_power_18 (by decide) ?_
      exact r_sub [2, 3, 1, 0] rfl (ih (v3 * a0) (v5 + (1 : Int32)))
set_option maxHeartbeats 4000000 in
theorem R_X8_power (en : En) (N : Nat) (p0 : Int64) (p1 : Int32)  (σ : Sg) : RR en ExT mi_X8_power evL 0 [(0, .long p0), (2, .int p1)] [] σ (f_X8_power N p0 p1 σ) := by
  unfold f_X8_power
  refine r_lconst (pc := 0) (v := 1) dX8_power_0 rfl ?_
  refine r_lstore_n (pc := 1) [(3, .long (1 : Int64)), (0, .long p0), (2, .int p1)] dX8_power_1 rfl (by decide) rfl ?_
  refine r_iconst (pc := 2) dX8_power_2 kc_iconst_0 ?_
  refine r_istore (pc := 3) [(5, .int (0 : Int32)), (3, .long (1 : Int64)), (0, .long p0), (2, .int p1)] dX8_power_3 (by decide) rfl ?_
  refine r_sub [2, 3, 1, 0] rfl (RL_X8_power_5 en N p0 p1 σ  (fun v3_1 v5_1 => ?_) N (1 : Int64) (0 : Int32))
  refine r_lload_n (pc := 21) 0 dX8_power_21 rfl rfl ?_
  exact r_lret (pc := 22) rfl dX8_power_22
theorem ok_X8_power : yOk yX8_power cX8_power 6 (some .long) := ⟨in_lwG (by decide +kernel) rfl, in_lwG (by decide +kernel) rfl, by decide, by decide, by decide⟩
theorem k_X8_power {en : En} {Ex : (Nat → Prop) → State → Prop} {mi : Mi} {α : Type} {ev : α → Option Value × Sg} {pc index : Nat} {lv : List (Nat × Value)} {rest : List Value} {σ : Sg} {N : Nat} {k : (Int64 × Sg) → Option α} {p0 : Int64} {p1 : Int32} (hlink : Cond.methodLink mi.1 index yX8_power ∈ lwG) (hroom : 1 + 1 ≤ mi.2.2.2.2) (hcat : (rest.map fun v => v.category).sum ≤ 8) (hd : decode mi.2.1 pc = .ok (.invokestatic index, 3))  (h : ∀ w : Int64 × Sg, f_X8_power N p0 p1 σ = some w → RR en Ex mi ev (pc + 3) lv (.long w.1 :: rest) w.2 (k w)) : RR en Ex mi ev pc lv (.int p1 :: .long p0 :: rest) σ ((f_X8_power N p0 p1 σ).bind k) :=
  r_callS (n := 2) [.long p0, .int p1] ok_X8_power hlink (in_lwG (by decide +kernel) rfl) (by decide +kernel) rfl hroom (by decide) hcat (R_X8_power en N p0 p1  σ) (Nat.le_of_ble_eq_true rfl) hd h
set_option maxHeartbeats 4000000 in
theorem RL_X8_mid_69 (en : En) (N : Nat) {k : Int32 → Int32 → Sg → Option (Int32 × Sg)} (a1 : Int32) (a2 : Int32) (a4 : Int32) (a5 : Int64) (a7 : Int32)  (hk : ∀ (v8 : Int32) (v9 : Int32) (σ : Sg), RR en ExT mi_X8_mid evI 115 [(0, .ref (ad en 21 0 0)), (1, .int a1), (2, .int a2), (4, .int a4), (5, .long a5), (7, .int a7), (8, .int v8)] [] σ (k v8 v9 σ)) : ∀ (n : Nat) (v8 : Int32) (v9 : Int32) (σ : Sg), RR en ExT mi_X8_mid evI 69 [(0, .ref (ad en 21 0 0)), (1, .int a1), (2, .int a2), (4, .int a4), (5, .long a5), (7, .int a7), (8, .int v8), (9, .int v9)] [] σ (L_X8_mid_69 N k a1 a2 a4 a5 a7 n v8 v9 σ) := by
  intro n
  induction n with
  | zero => intro v8 v9 σ; exact r_none
  | succ n ih =>
    intro v8 v9 σ
    rw [L_X8_mid_69_s]
    refine r_iload (pc := 69) 7 dX8_mid_69 rfl ?_
    refine r_aload_n (pc := 71) 0 dX8_mid_71 rfl rfl ?_
    refine g_X8_panes (pc := 72)  lf_RX8_143 dX8_mid_72 ?_
    refine r_icmp_ge (pc := 75) 115 dX8_mid_75 (by decide) (fun h10 => ?_) (fun h10 => ?_)
    · exact r_sub [0, 1, 2, 3, 4, 5, 6] rfl (hk v8 v9 σ)
    · refine r_iload (pc := 78) 6 dX8_mid_78 rfl ?_
      refine r_iload (pc := 80) 3 dX8_mid_80 rfl ?_
      refine r_iload (pc := 82) 7 dX8_mid_82 rfl ?_
      refine k_X8_has (pc := 84) lm_RX8_157  (by decide) (Nat.le_of_ble_eq_true rfl) dX8_mid_84 (fun w6 h11 => ?_)
      refine r_if_eq (pc := 87) 105 dX8_mid_87 (by decide) (fun h12 => ?_) (fun h12 => ?_)
      · refine r_iconst (pc := 105) dX8_mid_105 kc_iconst_0 ?_
        refine r_iadd (pc := 106) dX8_mid_106 ?_
        refine r_istore (pc := 107) [(8, .int (v8 + (0 : Int32))), (0, .ref (ad en 21 0 0)), (1, .int a1), (2, .int a2), (4, .int a4), (5, .long a5), (7, .int a7), (9, .int v9)] dX8_mid_107 (by decide) rfl ?_
        refine r_iinc (pc := 109) 7 [(9, .int (v9 + (1 : Int32))), (8, .int (v8 + (0 : Int32))), (0, .ref (ad en 21 0 0)), (1, .int a1), (2, .int a2), (4, .int a4), (5, .long a5), (7, .int a7)] dX8_mid_109 rfl rfl (by decide) rfl ?_
        refine r_goto (pc := 112) 69 dX8_mid_112 (by decide) ?_
        exact r_sub [2, 3, 4, 5, 6, 7, 1, 0] rfl (ih (v8 + (0 : Int32)) (v9 + (1 : Int32)) w6.2)
      · refine r_aload_n (pc := 90) 0 dX8_mid_90 rfl rfl ?_
        refine r_iload (pc := 91) 7 dX8_mid_91 rfl ?_
        refine r_iload (pc := 93) 5 dX8_mid_93 rfl ?_
        refine k_X8_isCoverAt (pc := 95) lm_RX8_216  (by decide) (Nat.le_of_ble_eq_true rfl) dX8_mid_95 (fun w7 h13 => ?_)
        refine r_if_eq (pc := 98) 105 dX8_mid_98 (by decide) (fun h14 => ?_) (fun h14 => ?_)
        · refine r_iconst (pc := 105) dX8_mid_105 kc_iconst_0 ?_
          refine r_iadd (pc := 106) dX8_mid_106 ?_
          refine r_istore (pc := 107) [(8, .int (v8 + (0 : Int32))), (0, .ref (ad en 21 0 0)), (1, .int a1), (2, .int a2), (4, .int a4), (5, .long a5), (7, .int a7), (9, .int v9)] dX8_mid_107 (by decide) rfl ?_
          refine r_iinc (pc := 109) 7 [(9, .int (v9 + (1 : Int32))), (8, .int (v8 + (0 : Int32))), (0, .ref (ad en 21 0 0)), (1, .int a1), (2, .int a2), (4, .int a4), (5, .long a5), (7, .int a7)] dX8_mid_109 rfl rfl (by decide) rfl ?_
          refine r_goto (pc := 112) 69 dX8_mid_112 (by decide) ?_
          exact r_sub [2, 3, 4, 5, 6, 7, 1, 0] rfl (ih (v8 + (0 : Int32)) (v9 + (1 : Int32)) w7.2)
        · refine r_iconst (pc := 101) dX8_mid_101 kc_iconst_1 ?_
          refine r_goto (pc := 102) 106 dX8_mid_102 (by decide) ?_
          refine r_iadd (pc := 106) dX8_mid_106 ?_
          refine r_istore (pc := 107) [(8, .int (v8 + (1 : Int32))), (0, .ref (ad en 21 0 0)), (1, .int a1), (2, .int a2), (4, .int a4), (5, .long a5), (7, .int a7), (9, .int v9)] dX8_mid_107 (by decide) rfl ?_
          refine r_iinc (pc := 109) 7 [(9, .int (v9 + (1 : Int32))), (8, .int (v8 + (1 : Int32))), (0, .ref (ad en 21 0 0)), (1, .int a1), (2, .int a2), (4, .int a4), (5, .long a5), (7, .int a7)] dX8_mid_109 rfl rfl (by decide) rfl ?_
          refine r_goto (pc := 112) 69 dX8_mid_112 (by decide) ?_
          exact r_sub [2, 3, 4, 5, 6, 7, 1, 0] rfl (ih (v8 + (1 : Int32)) (v9 + (1 : Int32)) w7.2)
set_option maxHeartbeats 4000000 in
theorem RL_X8_mid_56 (en : En) (N : Nat) {k : Int64 → Int32 → Sg → Option (Int32 × Sg)} (a1 : Int32) (a2 : Int32) (a4 : Int32)  (hk : ∀ (v5 : Int64) (v7 : Int32) (σ : Sg), RR en ExT mi_X8_mid evI 159 [(0, .ref (ad en 21 0 0)), (5, .long v5)] [] σ (k v5 v7 σ)) : ∀ (n : Nat) (v5 : Int64) (v7 : Int32) (σ : Sg), RR en ExT mi_X8_mid evI 56 [(0, .ref (ad en 21 0 0)), (1, .int a1), (2, .int a2), (4, .int a4), (5, .long v5), (7, .int v7)] [] σ (L_X8_mid_56 N k a1 a2 a4 n v5 v7 σ) := by
  intro n
  induction n with
  | zero => intro v5 v7 σ; exact r_none
  | succ n ih =>
    intro v5 v7 σ
    rw [L_X8_mid_56_s]
    refine r_iload (pc := 56) 5 dX8_mid_56 rfl ?_
    refine r_bipush (pc := 58) dX8_mid_58 kc_bipush_96 ?_
    refine r_icmp_ge (pc := 60) 159 dX8_mid_60 (by decide) (fun h9 => ?_) (fun h9 => ?_)
    · exact r_sub [0, 4] rfl (hk v5 v7 σ)
    · refine r_iconst (pc := 63) dX8_mid_63 kc_iconst_0 ?_
      refine r_istore (pc := 64) [(8, .int (0 : Int32)), (0, .ref (ad en 21 0 0)), (1, .int a1), (2, .int a2), (4, .int a4), (5, .long v5), (7, .int v7)] dX8_mid_64 (by decide) rfl ?_
      refine r_iconst (pc := 66) dX8_mid_66 kc_iconst_0 ?_
      refine r_istore (pc := 67) [(9, .int (0 : Int32)), (8, .int (0 : Int32)), (0, .ref (ad en 21 0 0)), (1, .int a1), (2, .int a2), (4, .int a4), (5, .long v5), (7, .int v7)] dX8_mid_67 (by decide) rfl ?_
      refine r_sub [2, 3, 4, 5, 6, 7, 1, 0] rfl (RL_X8_mid_69 en N a1 a2 a4 v5 v7  (fun v8_8 v9_8 σ_8 => ?_) N (0 : Int32) (0 : Int32) σ)
      refine r_lload (pc := 115) 4 dX8_mid_115 rfl ?_
      refine r_aload_n (pc := 117) 0 dX8_mid_117 rfl rfl ?_
      refine r_iload_n (pc := 118) 1 dX8_mid_118 rfl rfl ?_
      refine r_iload (pc := 119) 5 dX8_mid_119 rfl ?_
      refine k_X8_isCoverAt (pc := 121) lm_RX8_216  (by decide) (Nat.le_of_ble_eq_true rfl) dX8_mid_121 (fun w9 h15 => ?_)
      refine r_if_eq (pc := 124) 149 dX8_mid_124 (by decide) (fun h16 => ?_) (fun h16 => ?_)
      · refine r_lconst (pc := 149) (v := 0) dX8_mid_149 rfl ?_
        refine r_ladd (pc := 150) dX8_mid_150 ?_
        refine r_lstore (pc := 151) [(5, .long (v5 + (0 : Int64))), (0, .ref (ad en 21 0 0)), (1, .int a1), (2, .int a2), (4, .int a4), (7, .int v7), (8, .int v8_8)] dX8_mid_151 (by decide) rfl ?_
        refine r_iinc (pc := 153) 5 [(7, .int (v7 + (1 : Int32))), (5, .long (v5 + (0 : Int64))), (0, .ref (ad en 21 0 0)), (1, .int a1), (2, .int a2), (4, .int a4), (8, .int v8_8)] dX8_mid_153 rfl rfl (by decide) rfl ?_
        refine r_goto (pc := 156) 56 dX8_mid_156 (by decide) ?_
        exact r_sub [2, 3, 4, 5, 1, 0] rfl (ih (v5 + (0 : Int64)) (v7 + (1 : Int32)) w9.2)
      · refine r_iload_n (pc := 127) 2 dX8_mid_127 rfl rfl ?_
        refine r_i2l (pc := 128) dX8_mid_128 ?_
        refine r_iload (pc := 129) 6 dX8_mid_129 rfl ?_
        refine k_X8_power (pc := 131) lm_RX8_262  (by decide) (Nat.le_of_ble_eq_true rfl) dX8_mid_131 (fun w10 h17 => ?_)
        refine r_ldc2 (pc := 134) lj_RX8_266 dX8_mid_134 ?_
        refine r_bipush (pc := 137) dX8_mid_137 kc_bipush_6 ?_
        refine r_iload (pc := 139) 6 dX8_mid_139 rfl ?_
        refine r_isub (pc := 141) dX8_mid_141 ?_
        refine k_X8_power (pc := 142) lm_RX8_262  (by decide) (Nat.le_of_ble_eq_true rfl) dX8_mid_142 (fun w11 h18 => ?_)
        refine r_lmul (pc := 145) dX8_mid_145 ?_
        refine r_goto (pc := 146) 150 dX8_mid_146 (by decide) ?_
        refine r_ladd (pc := 150) dX8_mid_150 ?_
        refine r_lstore (pc := 151) [(5, .long (v5 + (w10.1 * w11.1))), (0, .ref (ad en 21 0 0)), (1, .int a1), (2, .int a2), (4, .int a4), (7, .int v7), (8, .int v8_8)] dX8_mid_151 (by decide) rfl ?_
        refine r_iinc (pc := 153) 5 [(7, .int (v7 + (1 : Int32))), (5, .long (v5 + (w10.1 * w11.1))), (0, .ref (ad en 21 0 0)), (1, .int a1), (2, .int a2), (4, .int a4), (8, .int v8_8)] dX8_mid_153 rfl rfl (by decide) rfl ?_
        refine r_goto (pc := 156) 56 dX8_mid_156 (by decide) ?_
        exact r_sub [2, 3, 4, 5, 1, 0] rfl (ih (v5 + (w10.1 * w11.1)) (v7 + (1 : Int32)) w11.2)
set_option maxHeartbeats 4000000 in
theorem R_X8_mid (en : En) (N : Nat) (p0 : Int32) (p1 : Int32)  (σ : Sg) : RR en ExT mi_X8_mid evI 0 [(0, .ref (ad en 21 0 0)), (1, .int p0), (2, .int p1)] [] σ (f_X8_mid N p0 p1 σ) := by
  unfold f_X8_mid
  refine r_aload_n (pc := 0) 0 dX8_mid_0 rfl rfl ?_
  refine r_iconst (pc := 1) dX8_mid_1 kc_iconst_0 ?_
  refine p_X8_thrown (pc := 2)  lf_RX8_81 dX8_mid_2 ?_
  refine r_aload_n (pc := 5) 0 dX8_mid_5 rfl rfl ?_
  refine r_iload_n (pc := 6) 1 dX8_mid_6 rfl rfl ?_
  refine k_X8_isPane (pc := 7) lm_RX8_188  (by decide) (Nat.le_of_ble_eq_true rfl) dX8_mid_7 (fun w1 h1 => ?_)
  refine r_if_eq (pc := 10) 23 dX8_mid_10 (by decide) (fun h2 => ?_) (fun h2 => ?_)
  · refine r_iconst (pc := 23) dX8_mid_23 kc_iconst_m1 ?_
    refine r_goto (pc := 24) 32 dX8_mid_24 (by decide) ?_
    refine r_istore_n (pc := 32) [(3, .int (-1 : Int32)), (0, .ref (ad en 21 0 0)), (1, .int p0), (2, .int p1)] dX8_mid_32 rfl (by decide) rfl ?_
    refine r_iload_n (pc := 33) 0 dX8_mid_33 rfl rfl ?_
    refine r_if_eq_f (pc := 34) 39 dX8_mid_34 (by decide) (by decide) ?_
    refine r_iload_n (pc := 37) 0 dX8_mid_37 rfl rfl ?_
    exact r_iret (pc := 38) rfl dX8_mid_38
  · refine r_iload_n (pc := 13) 2 dX8_mid_13 rfl rfl ?_
    refine r_iconst (pc := 14) dX8_mid_14 kc_iconst_0 ?_
    refine r_bipush (pc := 15) dX8_mid_15 kc_bipush_12 ?_
    refine k_X8_in (pc := 17) lm_RX8_91  (by decide) (Nat.le_of_ble_eq_true rfl) dX8_mid_17 (fun w2 h3 => ?_)
    refine r_if_ne (pc := 20) 27 dX8_mid_20 (by decide) (fun h4 => ?_) (fun h4 => ?_)
    · refine r_iconst (pc := 23) dX8_mid_23 kc_iconst_m1 ?_
      refine r_goto (pc := 24) 32 dX8_mid_24 (by decide) ?_
      refine r_istore_n (pc := 32) [(3, .int (-1 : Int32)), (0, .ref (ad en 21 0 0)), (1, .int p0), (2, .int p1)] dX8_mid_32 rfl (by decide) rfl ?_
      refine r_iload_n (pc := 33) 0 dX8_mid_33 rfl rfl ?_
      refine r_if_eq_f (pc := 34) 39 dX8_mid_34 (by decide) (by decide) ?_
      refine r_iload_n (pc := 37) 0 dX8_mid_37 rfl rfl ?_
      exact r_iret (pc := 38) rfl dX8_mid_38
    · refine r_aload_n (pc := 27) 0 dX8_mid_27 rfl rfl ?_
      refine r_iload_n (pc := 28) 1 dX8_mid_28 rfl rfl ?_
      refine k_X8_againstOpen (pc := 29) lm_RX8_226  (by decide) (Nat.le_of_ble_eq_true rfl) dX8_mid_29 (fun w3 h5 => ?_)
      refine r_istore_n (pc := 32) [(3, .int w3.1), (0, .ref (ad en 21 0 0)), (1, .int p0), (2, .int p1)] dX8_mid_32 rfl (by decide) rfl ?_
      refine r_iload_n (pc := 33) 0 dX8_mid_33 rfl rfl ?_
      refine r_if_eq (pc := 34) 39 dX8_mid_34 (by decide) (fun h6 => ?_) (fun h6 => ?_)
      · refine r_aload_n (pc := 39) 1 dX8_mid_39 rfl rfl ?_
        refine k_X8_sees (pc := 40) lm_RX8_182  (by decide) (Nat.le_of_ble_eq_true rfl) dX8_mid_40 (fun w4 h7 => ?_)
        refine r_aload_n (pc := 43) 1 dX8_mid_43 rfl rfl ?_
        refine r_iload_n (pc := 44) 2 dX8_mid_44 rfl rfl ?_
        refine k_X8_overIt (pc := 45) lm_RX8_229  (by decide) (Nat.le_of_ble_eq_true rfl) dX8_mid_45 (fun w5 h8 => ?_)
        refine r_istore (pc := 48) [(4, .int w5.1), (3, .int w3.1), (0, .ref (ad en 21 0 0)), (1, .int p0), (2, .int p1)] dX8_mid_48 (by decide) rfl ?_
        refine r_lconst (pc := 50) (v := 0) dX8_mid_50 rfl ?_
        refine r_lstore (pc := 51) [(5, .long (0 : Int64)), (4, .int w5.1), (3, .int w3.1), (0, .ref (ad en 21 0 0)), (1, .int p0), (2, .int p1)] dX8_mid_51 (by decide) rfl ?_
        refine r_iconst (pc := 53) dX8_mid_53 kc_iconst_0 ?_
        refine r_istore (pc := 54) [(7, .int (0 : Int32)), (5, .long (0 : Int64)), (4, .int w5.1), (3, .int w3.1), (0, .ref (ad en 21 0 0)), (1, .int p0), (2, .int p1)] dX8_mid_54 (by decide) rfl ?_
        refine r_sub [4, 5, 6, 2, 1, 0] rfl (RL_X8_mid_56 en N p0 p1 w5.1  (fun v5_12 v7_12 σ_12 => ?_) N (0 : Int64) (0 : Int32) w5.2)
        refine r_aload_n (pc := 159) 0 dX8_mid_159 rfl rfl ?_
        refine r_lload (pc := 160) 1 dX8_mid_160 rfl ?_
        refine r_ldc2 (pc := 162) lj_RX8_266 dX8_mid_162 ?_
        refine r_bipush (pc := 165) dX8_mid_165 kc_bipush_6 ?_
        refine k_X8_power (pc := 167) lm_RX8_262  (by decide) (Nat.le_of_ble_eq_true rfl) dX8_mid_167 (fun w13 h19 => ?_)
        refine k_X8_fraction (pc := 170) lm_RX8_268  (by decide) (Nat.le_of_ble_eq_true rfl) dX8_mid_170 (fun w14 h20 => ?_)
        refine r_iconst (pc := 173) dX8_mid_173 kc_iconst_1 ?_
        exact r_iret (pc := 174) rfl dX8_mid_174
      · refine r_iload_n (pc := 37) 0 dX8_mid_37 rfl rfl ?_
        exact r_iret (pc := 38) rfl dX8_mid_38
theorem ok_X8_mid : yOk yX8_mid cX8_mid 10 (some .int) := ⟨in_lwG (by decide +kernel) rfl, in_lwG (by decide +kernel) rfl, by decide, by decide, by decide⟩
theorem k_X8_mid {en : En} {Ex : (Nat → Prop) → State → Prop} {mi : Mi} {α : Type} {ev : α → Option Value × Sg} {pc index : Nat} {lv : List (Nat × Value)} {rest : List Value} {σ : Sg} {N : Nat} {k : (Int32 × Sg) → Option α} {p0 : Int32} {p1 : Int32} (hlink : Cond.methodLink mi.1 index yX8_mid ∈ lwG) (hroom : 6 + 1 ≤ mi.2.2.2.2) (hcat : (rest.map fun v => v.category).sum ≤ 8) (hd : decode mi.2.1 pc = .ok (.invokevirtual index, 3))  (h : ∀ w : Int32 × Sg, f_X8_mid N p0 p1 σ = some w → RR en Ex mi ev (pc + 3) lv (.int w.1 :: rest) w.2 (k w)) : RR en Ex mi ev pc lv (.int p1 :: .int p0 :: .ref (ad en 21 0 0) :: rest) σ ((f_X8_mid N p0 p1 σ).bind k) :=
  r_callV (n := 2) [.int p0, .int p1] ok_X8_mid hlink (in_lwG (by decide +kernel) rfl) (in_lwG (by decide +kernel) rfl) (by decide +kernel) rfl hroom (by decide) o21 rfl rfl hcat (R_X8_mid en N p0 p1  σ) (Nat.le_of_ble_eq_true rfl) hd h
set_option maxHeartbeats 4000000 in
theorem R_X8_move (en : En) (N : Nat) (p0 : Int32) (p1 : Int32) (p2 : Int32)  (σ : Sg) : RR en ExT mi_X8_move evI 0 [(0, .ref (ad en 21 0 0)), (1, .int p0), (2, .int p1), (3, .int p2)] [] σ (f_X8_move N p0 p1 p2 σ) := by
  unfold f_X8_move
  refine r_aload_n (pc := 0) 0 dX8_move_0 rfl rfl ?_
  refine r_iconst (pc := 1) dX8_move_1 kc_iconst_0 ?_
  refine p_X8_thrown (pc := 2)  lf_RX8_81 dX8_move_2 ?_
  refine r_aload_n (pc := 5) 0 dX8_move_5 rfl rfl ?_
  refine r_iload_n (pc := 6) 1 dX8_move_6 rfl rfl ?_
  refine k_X8_isPane (pc := 7) lm_RX8_188  (by decide) (Nat.le_of_ble_eq_true rfl) dX8_move_7 (fun w1 h1 => ?_)
  refine r_if_eq (pc := 10) 41 dX8_move_10 (by decide) (fun h2 => ?_) (fun h2 => ?_)
  · refine r_iconst (pc := 41) dX8_move_41 kc_iconst_m1 ?_
    exact r_iret (pc := 42) rfl dX8_move_42
  · refine r_iload_n (pc := 13) 2 dX8_move_13 rfl rfl ?_
    refine r_bipush (pc := 14) dX8_move_14 kc_bipush_m3 ?_
    refine r_iconst (pc := 16) dX8_move_16 kc_iconst_3 ?_
    refine k_X8_in (pc := 17) lm_RX8_91  (by decide) (Nat.le_of_ble_eq_true rfl) dX8_move_17 (fun w2 h3 => ?_)
    refine r_if_eq (pc := 20) 41 dX8_move_20 (by decide) (fun h4 => ?_) (fun h4 => ?_)
    · refine r_iconst (pc := 41) dX8_move_41 kc_iconst_m1 ?_
      exact r_iret (pc := 42) rfl dX8_move_42
    · refine r_iload_n (pc := 23) 3 dX8_move_23 rfl rfl ?_
      refine r_bipush (pc := 24) dX8_move_24 kc_bipush_m3 ?_
      refine r_iconst (pc := 26) dX8_move_26 kc_iconst_3 ?_
      refine k_X8_in (pc := 27) lm_RX8_91  (by decide) (Nat.le_of_ble_eq_true rfl) dX8_move_27 (fun w3 h5 => ?_)
      refine r_if_eq (pc := 30) 41 dX8_move_30 (by decide) (fun h6 => ?_) (fun h6 => ?_)
      · refine r_iconst (pc := 41) dX8_move_41 kc_iconst_m1 ?_
        exact r_iret (pc := 42) rfl dX8_move_42
      · refine r_iload_n (pc := 33) 2 dX8_move_33 rfl rfl ?_
        refine r_if_ne (pc := 34) 43 dX8_move_34 (by decide) (fun h7 => ?_) (fun h7 => ?_)
        · refine r_iload_n (pc := 37) 3 dX8_move_37 rfl rfl ?_
          refine r_if_ne (pc := 38) 43 dX8_move_38 (by decide) (fun h8 => ?_) (fun h8 => ?_)
          · refine r_iconst (pc := 41) dX8_move_41 kc_iconst_m1 ?_
            exact r_iret (pc := 42) rfl dX8_move_42
          · refine r_aload_n (pc := 43) 0 dX8_move_43 rfl rfl ?_
            refine r_iload_n (pc := 44) 1 dX8_move_44 rfl rfl ?_
            refine r_iload_n (pc := 45) 2 dX8_move_45 rfl rfl ?_
            refine r_iload_n (pc := 46) 3 dX8_move_46 rfl rfl ?_
            refine k_X8_isOn (pc := 47) lm_RX8_210  (by decide) (Nat.le_of_ble_eq_true rfl) dX8_move_47 (fun w4 h9 => ?_)
            refine r_if_ne (pc := 50) 56 dX8_move_50 (by decide) (fun h10 => ?_) (fun h10 => ?_)
            · refine r_bipush (pc := 53) dX8_move_53 kc_bipush_m4 ?_
              exact r_iret (pc := 55) rfl dX8_move_55
            · refine r_aload_n (pc := 56) 0 dX8_move_56 rfl rfl ?_
              refine g_X8_deeds (pc := 57)  lf_RX8_146 dX8_move_57 ?_
              refine r_bipush (pc := 60) dX8_move_60 kc_bipush_40 ?_
              refine r_icmp_ne (pc := 62) 68 dX8_move_62 (by decide) (fun h11 => ?_) (fun h11 => ?_)
              · refine r_bipush (pc := 65) dX8_move_65 kc_bipush_m2 ?_
                exact r_iret (pc := 67) rfl dX8_move_67
              · refine r_aload_n (pc := 68) 0 dX8_move_68 rfl rfl ?_
                refine k_X8_notes (pc := 69) lm_RX8_200  (by decide) (Nat.le_of_ble_eq_true rfl) dX8_move_69 (fun w5 h12 => ?_)
                refine r_aload_n (pc := 72) 0 dX8_move_72 rfl rfl ?_
                refine g_X8_s (pc := 73)  lf_RX8_34 dX8_move_73 ?_
                refine r_iconst (pc := 76) dX8_move_76 kc_iconst_0 ?_
                refine r_iload_n (pc := 77) 1 dX8_move_77 rfl rfl ?_
                refine r_iadd (pc := 78) dX8_move_78 ?_
                refine r_dup2 (pc := 79) dX8_move_79 rfl rfl ?_
                refine r_iald (pc := 80) (n := 22) o22_14 rfl dX8_move_80 (fun h13 => ?_)
                refine r_iload_n (pc := 81) 2 dX8_move_81 rfl rfl ?_
                refine r_iadd (pc := 82) dX8_move_82 ?_
                refine r_iast (pc := 83) (n := 22) o22_14 rfl rfl dX8_move_83 (fun h14 => ?_)
                refine r_aload_n (pc := 84) 0 dX8_move_84 rfl rfl ?_
                refine g_X8_s (pc := 85)  lf_RX8_34 dX8_move_85 ?_
                refine r_bipush (pc := 88) dX8_move_88 kc_bipush_7 ?_
                refine r_iload_n (pc := 90) 1 dX8_move_90 rfl rfl ?_
                refine r_iadd (pc := 91) dX8_move_91 ?_
                refine r_dup2 (pc := 92) dX8_move_92 rfl rfl ?_
                refine r_iald (pc := 93) (n := 22) o22_14 rfl dX8_move_93 (fun h15 => ?_)
                refine r_iload_n (pc := 94) 3 dX8_move_94 rfl rfl ?_
                refine r_iadd (pc := 95) dX8_move_95 ?_
                refine r_iast (pc := 96) (n := 22) o22_14 rfl rfl dX8_move_96 (fun h16 => ?_)
                refine r_bipush (pc := 97) dX8_move_97 kc_bipush_12 ?_
                refine r_aload_n (pc := 99) 0 dX8_move_99 rfl rfl ?_
                refine g_X8_s (pc := 100)  lf_RX8_34 dX8_move_100 ?_
                refine r_bipush (pc := 103) dX8_move_103 kc_bipush_7 ?_
                refine r_iload_n (pc := 105) 1 dX8_move_105 rfl rfl ?_
                refine r_iadd (pc := 106) dX8_move_106 ?_
                refine r_iald (pc := 107) (n := 22) o22_14 rfl dX8_move_107 (fun h17 => ?_)
                refine r_imul (pc := 108) dX8_move_108 ?_
                refine r_aload_n (pc := 109) 0 dX8_move_109 rfl rfl ?_
                refine g_X8_s (pc := 110)  lf_RX8_34 dX8_move_110 ?_
                refine r_iconst (pc := 113) dX8_move_113 kc_iconst_0 ?_
                refine r_iload_n (pc := 114) 1 dX8_move_114 rfl rfl ?_
                refine r_iadd (pc := 115) dX8_move_115 ?_
                refine r_iald (pc := 116) (n := 22) o22_14 rfl dX8_move_116 (fun h18 => ?_)
                refine r_iadd (pc := 117) dX8_move_117 ?_
                exact r_iret (pc := 118) rfl dX8_move_118
        · refine r_aload_n (pc := 43) 0 dX8_move_43 rfl rfl ?_
          refine r_iload_n (pc := 44) 1 dX8_move_44 rfl rfl ?_
          refine r_iload_n (pc := 45) 2 dX8_move_45 rfl rfl ?_
          refine r_iload_n (pc := 46) 3 dX8_move_46 rfl rfl ?_
          refine k_X8_isOn (pc := 47) lm_RX8_210  (by decide) (Nat.le_of_ble_eq_true rfl) dX8_move_47 (fun w6 h19 => ?_)
          refine r_if_ne (pc := 50) 56 dX8_move_50 (by decide) (fun h20 => ?_) (fun h20 => ?_)
          · refine r_bipush (pc := 53) dX8_move_53 kc_bipush_m4 ?_
            exact r_iret (pc := 55) rfl dX8_move_55
          · refine r_aload_n (pc := 56) 0 dX8_move_56 rfl rfl ?_
            refine g_X8_deeds (pc := 57)  lf_RX8_146 dX8_move_57 ?_
            refine r_bipush (pc := 60) dX8_move_60 kc_bipush_40 ?_
            refine r_icmp_ne (pc := 62) 68 dX8_move_62 (by decide) (fun h21 => ?_) (fun h21 => ?_)
            · refine r_bipush (pc := 65) dX8_move_65 kc_bipush_m2 ?_
              exact r_iret (pc := 67) rfl dX8_move_67
            · refine r_aload_n (pc := 68) 0 dX8_move_68 rfl rfl ?_
              refine k_X8_notes (pc := 69) lm_RX8_200  (by decide) (Nat.le_of_ble_eq_true rfl) dX8_move_69 (fun w7 h22 => ?_)
              refine r_aload_n (pc := 72) 0 dX8_move_72 rfl rfl ?_
              refine g_X8_s (pc := 73)  lf_RX8_34 dX8_move_73 ?_
              refine r_iconst (pc := 76) dX8_move_76 kc_iconst_0 ?_
              refine r_iload_n (pc := 77) 1 dX8_move_77 rfl rfl ?_
              refine r_iadd (pc := 78) dX8_move_78 ?_
              refine r_dup2 (pc := 79) dX8_move_79 rfl rfl ?_
              refine r_iald (pc := 80) (n := 22) o22_14 rfl dX8_move_80 (fun h23 => ?_)
              refine r_iload_n (pc := 81) 2 dX8_move_81 rfl rfl ?_
              refine r_iadd (pc := 82) dX8_move_82 ?_
              refine r_iast (pc := 83) (n := 22) o22_14 rfl rfl dX8_move_83 (fun h24 => ?_)
              refine r_aload_n (pc := 84) 0 dX8_move_84 rfl rfl ?_
              refine g_X8_s (pc := 85)  lf_RX8_34 dX8_move_85 ?_
              refine r_bipush (pc := 88) dX8_move_88 kc_bipush_7 ?_
              refine r_iload_n (pc := 90) 1 dX8_move_90 rfl rfl ?_
              refine r_iadd (pc := 91) dX8_move_91 ?_
              refine r_dup2 (pc := 92) dX8_move_92 rfl rfl ?_
              refine r_iald (pc := 93) (n := 22) o22_14 rfl dX8_move_93 (fun h25 => ?_)
              refine r_iload_n (pc := 94) 3 dX8_move_94 rfl rfl ?_
              refine r_iadd (pc := 95) dX8_move_95 ?_
              refine r_iast (pc := 96) (n := 22) o22_14 rfl rfl dX8_move_96 (fun h26 => ?_)
              refine r_bipush (pc := 97) dX8_move_97 kc_bipush_12 ?_
              refine r_aload_n (pc := 99) 0 dX8_move_99 rfl rfl ?_
              refine g_X8_s (pc := 100)  lf_RX8_34 dX8_move_100 ?_
              refine r_bipush (pc := 103) dX8_move_103 kc_bipush_7 ?_
              refine r_iload_n (pc := 105) 1 dX8_move_105 rfl rfl ?_
              refine r_iadd (pc := 106) dX8_move_106 ?_
              refine r_iald (pc := 107) (n := 22) o22_14 rfl dX8_move_107 (fun h27 => ?_)
              refine r_imul (pc := 108) dX8_move_108 ?_
              refine r_aload_n (pc := 109) 0 dX8_move_109 rfl rfl ?_
              refine g_X8_s (pc := 110)  lf_RX8_34 dX8_move_110 ?_
              refine r_iconst (pc := 113) dX8_move_113 kc_iconst_0 ?_
              refine r_iload_n (pc := 114) 1 dX8_move_114 rfl rfl ?_
              refine r_iadd (pc := 115) dX8_move_115 ?_
              refine r_iald (pc := 116) (n := 22) o22_14 rfl dX8_move_116 (fun h28 => ?_)
              refine r_iadd (pc := 117) dX8_move_117 ?_
              exact r_iret (pc := 118) rfl dX8_move_118
theorem ok_X8_move : yOk yX8_move cX8_move 4 (some .int) := ⟨in_lwG (by decide +kernel) rfl, in_lwG (by decide +kernel) rfl, by decide, by decide, by decide⟩
theorem k_X8_move {en : En} {Ex : (Nat → Prop) → State → Prop} {mi : Mi} {α : Type} {ev : α → Option Value × Sg} {pc index : Nat} {lv : List (Nat × Value)} {rest : List Value} {σ : Sg} {N : Nat} {k : (Int32 × Sg) → Option α} {p0 : Int32} {p1 : Int32} {p2 : Int32} (hlink : Cond.methodLink mi.1 index yX8_move ∈ lwG) (hroom : 3 + 1 ≤ mi.2.2.2.2) (hcat : (rest.map fun v => v.category).sum ≤ 8) (hd : decode mi.2.1 pc = .ok (.invokevirtual index, 3))  (h : ∀ w : Int32 × Sg, f_X8_move N p0 p1 p2 σ = some w → RR en Ex mi ev (pc + 3) lv (.int w.1 :: rest) w.2 (k w)) : RR en Ex mi ev pc lv (.int p2 :: .int p1 :: .int p0 :: .ref (ad en 21 0 0) :: rest) σ ((f_X8_move N p0 p1 p2 σ).bind k) :=
  r_callV (n := 3) [.int p0, .int p1, .int p2] ok_X8_move hlink (in_lwG (by decide +kernel) rfl) (in_lwG (by decide +kernel) rfl) (by decide +kernel) rfl hroom (by decide) o21 rfl rfl hcat (R_X8_move en N p0 p1 p2  σ) (Nat.le_of_ble_eq_true rfl) hd h
set_option maxHeartbeats 4000000 in
theorem R_X8_trades (en : En) (N : Nat) (p0 : Int32) (p1 : Int32)  (σ : Sg) : RR en ExT mi_X8_trades evV 0 [(0, .ref (ad en 21 0 0)), (1, .int p0), (2, .int p1)] [] σ (f_X8_trades N p0 p1 σ) := by
  unfold f_X8_trades
  refine r_aload_n (pc := 0) 0 dX8_trades_0 rfl rfl ?_
  refine g_X8_w (pc := 1)  lf_RX8_52 dX8_trades_1 ?_
  refine r_bipush (pc := 4) dX8_trades_4 kc_bipush_14 ?_
  refine r_iload_n (pc := 6) 1 dX8_trades_6 rfl rfl ?_
  refine r_iadd (pc := 7) dX8_trades_7 ?_
  refine r_iald (pc := 8) (n := 22) o22_21 rfl dX8_trades_8 (fun h1 => ?_)
  refine r_istore_n (pc := 9) [(3, .int (rI σ 22 21 0 ((14 : Int32) + p0).toNatClampNeg)), (0, .ref (ad en 21 0 0)), (1, .int p0), (2, .int p1)] dX8_trades_9 rfl (by decide) rfl ?_
  refine r_aload_n (pc := 10) 1 dX8_trades_10 rfl rfl ?_
  refine g_X8_w (pc := 11)  lf_RX8_52 dX8_trades_11 ?_
  refine r_bipush (pc := 14) dX8_trades_14 kc_bipush_14 ?_
  refine r_iload_n (pc := 16) 2 dX8_trades_16 rfl rfl ?_
  refine r_iadd (pc := 17) dX8_trades_17 ?_
  refine r_aload_n (pc := 18) 1 dX8_trades_18 rfl rfl ?_
  refine g_X8_w (pc := 19)  lf_RX8_52 dX8_trades_19 ?_
  refine r_bipush (pc := 22) dX8_trades_22 kc_bipush_14 ?_
  refine r_iload_n (pc := 24) 3 dX8_trades_24 rfl rfl ?_
  refine r_iadd (pc := 25) dX8_trades_25 ?_
  refine r_iald (pc := 26) (n := 22) o22_21 rfl dX8_trades_26 (fun h2 => ?_)
  refine r_iast (pc := 27) (n := 22) o22_21 rfl rfl dX8_trades_27 (fun h3 => ?_)
  refine r_aload_n (pc := 28) 1 dX8_trades_28 rfl rfl ?_
  refine g_X8_w (pc := 29)  lf_RX8_52 dX8_trades_29 ?_
  refine r_bipush (pc := 32) dX8_trades_32 kc_bipush_14 ?_
  refine r_iload_n (pc := 34) 3 dX8_trades_34 rfl rfl ?_
  refine r_iadd (pc := 35) dX8_trades_35 ?_
  refine r_iload_n (pc := 36) 0 dX8_trades_36 rfl rfl ?_
  refine r_iast (pc := 37) (n := 22) o22_21 rfl rfl dX8_trades_37 (fun h4 => ?_)
  exact r_vret (pc := 38) rfl dX8_trades_38
theorem ok_X8_trades : yOk yX8_trades cX8_trades 4 none := ⟨in_lwG (by decide +kernel) rfl, in_lwG (by decide +kernel) rfl, by decide, by decide, by decide⟩
theorem k_X8_trades {en : En} {Ex : (Nat → Prop) → State → Prop} {mi : Mi} {α : Type} {ev : α → Option Value × Sg} {pc index : Nat} {lv : List (Nat × Value)} {rest : List Value} {σ : Sg} {N : Nat} {k : (Sg) → Option α} {p0 : Int32} {p1 : Int32} (hlink : Cond.methodLink mi.1 index yX8_trades ∈ lwG) (hroom : 1 + 1 ≤ mi.2.2.2.2) (hcat : (rest.map fun v => v.category).sum ≤ 8) (hd : decode mi.2.1 pc = .ok (.invokevirtual index, 3))  (h : ∀ w : Sg, f_X8_trades N p0 p1 σ = some w → RR en Ex mi ev (pc + 3) lv (rest) w (k w)) : RR en Ex mi ev pc lv (.int p1 :: .int p0 :: .ref (ad en 21 0 0) :: rest) σ ((f_X8_trades N p0 p1 σ).bind k) :=
  r_callV (n := 2) [.int p0, .int p1] ok_X8_trades hlink (in_lwG (by decide +kernel) rfl) (in_lwG (by decide +kernel) rfl) (by decide +kernel) rfl hroom (by decide) o21 rfl rfl hcat (R_X8_trades en N p0 p1  σ) (Nat.le_of_ble_eq_true rfl) hd h
set_option maxHeartbeats 4000000 in
theorem RL_X8_nextOrder_7 (en : En) (N : Nat) {k : Int32 → Option (Int32 × Sg)} (σ : Sg)  (hk : ∀ (v1 : Int32), RR en ExT mi_X8_nextOrder evI 40 [(0, .ref (ad en 21 0 0)), (1, .int v1)] [] σ (k v1)) : ∀ (n : Nat) (v1 : Int32), RR en ExT mi_X8_nextOrder evI 7 [(0, .ref (ad en 21 0 0)), (1, .int v1)] [] σ (L_X8_nextOrder_7 N k σ n v1) := by
  intro n
  induction n with
  | zero => intro v1; exact r_none
  | succ n ih =>
    intro v1
    rw [L_X8_nextOrder_7_s]
    refine r_iload_n (pc := 7) 1 dX8_nextOrder_7 rfl rfl ?_
    refine r_if_lt (pc := 8) 40 dX8_nextOrder_8 (by decide) (fun h1 => ?_) (fun h1 => ?_)
    · exact r_sub [0, 1] rfl (hk v1)
    · refine r_aload_n (pc := 11) 0 dX8_nextOrder_11 rfl rfl ?_
      refine g_X8_w (pc := 12)  lf_RX8_52 dX8_nextOrder_12 ?_
      refine r_bipush (pc := 15) dX8_nextOrder_15 kc_bipush_14 ?_
      refine r_iload_n (pc := 17) 1 dX8_nextOrder_17 rfl rfl ?_
      refine r_iadd (pc := 18) dX8_nextOrder_18 ?_
      refine r_iald (pc := 19) (n := 22) o22_21 rfl dX8_nextOrder_19 (fun h2 => ?_)
      refine r_aload_n (pc := 20) 0 dX8_nextOrder_20 rfl rfl ?_
      refine g_X8_w (pc := 21)  lf_RX8_52 dX8_nextOrder_21 ?_
      refine r_bipush (pc := 24) dX8_nextOrder_24 kc_bipush_14 ?_
      refine r_iload_n (pc := 26) 1 dX8_nextOrder_26 rfl rfl ?_
      refine r_iadd (pc := 27) dX8_nextOrder_27 ?_
      refine r_iconst (pc := 28) dX8_nextOrder_28 kc_iconst_1 ?_
      refine r_iadd (pc := 29) dX8_nextOrder_29 ?_
      refine r_iald (pc := 30) (n := 22) o22_21 rfl dX8_nextOrder_30 (fun h3 => ?_)
      refine r_icmp_le (pc := 31) 40 dX8_nextOrder_31 (by decide) (fun h4 => ?_) (fun h4 => ?_)
      · exact r_sub [0, 1] rfl (hk v1)
      · refine r_iinc (pc := 34) 1 [(1, .int (v1 + (-1 : Int32))), (0, .ref (ad en 21 0 0))] dX8_nextOrder_34 rfl rfl (by decide) rfl ?_
        refine r_goto (pc := 37) 7 dX8_nextOrder_37 (by decide) ?_
        exact r_sub [1, 0] rfl (ih (v1 + (-1 : Int32)))
set_option maxHeartbeats 4000000 in
theorem RL_X8_nextOrder_53 (en : En) (N : Nat) {k : Int32 → Option (Int32 × Sg)} (a1 : Int32) (σ : Sg)  (hk : ∀ (v2 : Int32), RR en ExT mi_X8_nextOrder evI 80 [(0, .ref (ad en 21 0 0)), (1, .int a1), (2, .int v2)] [] σ (k v2)) : ∀ (n : Nat) (v2 : Int32), RR en ExT mi_X8_nextOrder evI 53 [(0, .ref (ad en 21 0 0)), (1, .int a1), (2, .int v2)] [] σ (L_X8_nextOrder_53 N k a1 σ n v2) := by
  intro n
  induction n with
  | zero => intro v2; exact r_none
  | succ n ih =>
    intro v2
    rw [L_X8_nextOrder_53_s]
    refine r_aload_n (pc := 53) 0 dX8_nextOrder_53 rfl rfl ?_
    refine g_X8_w (pc := 54)  lf_RX8_52 dX8_nextOrder_54 ?_
    refine r_bipush (pc := 57) dX8_nextOrder_57 kc_bipush_14 ?_
    refine r_iload_n (pc := 59) 2 dX8_nextOrder_59 rfl rfl ?_
    refine r_iadd (pc := 60) dX8_nextOrder_60 ?_
    refine r_iald (pc := 61) (n := 22) o22_21 rfl dX8_nextOrder_61 (fun h6 => ?_)
    refine r_aload_n (pc := 62) 0 dX8_nextOrder_62 rfl rfl ?_
    refine g_X8_w (pc := 63)  lf_RX8_52 dX8_nextOrder_63 ?_
    refine r_bipush (pc := 66) dX8_nextOrder_66 kc_bipush_14 ?_
    refine r_iload_n (pc := 68) 1 dX8_nextOrder_68 rfl rfl ?_
    refine r_iadd (pc := 69) dX8_nextOrder_69 ?_
    refine r_iald (pc := 70) (n := 22) o22_21 rfl dX8_nextOrder_70 (fun h7 => ?_)
    refine r_icmp_ge (pc := 71) 80 dX8_nextOrder_71 (by decide) (fun h8 => ?_) (fun h8 => ?_)
    · exact r_sub [0, 1, 2] rfl (hk v2)
    · refine r_iinc (pc := 74) 2 [(2, .int (v2 + (-1 : Int32))), (0, .ref (ad en 21 0 0)), (1, .int a1)] dX8_nextOrder_74 rfl rfl (by decide) rfl ?_
      refine r_goto (pc := 77) 53 dX8_nextOrder_77 (by decide) ?_
      exact r_sub [1, 2, 0] rfl (ih (v2 + (-1 : Int32)))
set_option maxHeartbeats 4000000 in
theorem RL_X8_nextOrder_98 (en : En) (N : Nat) {k : Int32 → Int32 → Sg → Option (Int32 × Sg)}   (hk : ∀ (v3 : Int32) (v4 : Int32) (σ : Sg), RR en ExT mi_X8_nextOrder evI 120 [] [] σ (k v3 v4 σ)) : ∀ (n : Nat) (v3 : Int32) (v4 : Int32) (σ : Sg), RR en ExT mi_X8_nextOrder evI 98 [(0, .ref (ad en 21 0 0)), (3, .int v3), (4, .int v4)] [] σ (L_X8_nextOrder_98 N k  n v3 v4 σ) := by
  intro n
  induction n with
  | zero => intro v3 v4 σ; exact r_none
  | succ n ih =>
    intro v3 v4 σ
    rw [L_X8_nextOrder_98_s]
    refine r_iload_n (pc := 98) 1 dX8_nextOrder_98 rfl rfl ?_
    refine r_iload (pc := 99) 2 dX8_nextOrder_99 rfl ?_
    refine r_icmp_ge (pc := 101) 120 dX8_nextOrder_101 (by decide) (fun h10 => ?_) (fun h10 => ?_)
    · exact r_sub [] rfl (hk v3 v4 σ)
    · refine r_aload_n (pc := 104) 0 dX8_nextOrder_104 rfl rfl ?_
      refine r_iload_n (pc := 105) 1 dX8_nextOrder_105 rfl rfl ?_
      refine r_iload (pc := 106) 2 dX8_nextOrder_106 rfl ?_
      refine k_X8_trades (pc := 108) lm_RX8_232  (by decide) (Nat.le_of_ble_eq_true rfl) dX8_nextOrder_108 (fun w4 h11 => ?_)
      refine r_iinc (pc := 111) 1 [(3, .int (v3 + (1 : Int32))), (0, .ref (ad en 21 0 0)), (4, .int v4)] dX8_nextOrder_111 rfl rfl (by decide) rfl ?_
      refine r_iinc (pc := 114) 2 [(4, .int (v4 + (-1 : Int32))), (3, .int (v3 + (1 : Int32))), (0, .ref (ad en 21 0 0))] dX8_nextOrder_114 rfl rfl (by decide) rfl ?_
      refine r_goto (pc := 117) 98 dX8_nextOrder_117 (by decide) ?_
      exact r_sub [2, 1, 0] rfl (ih (v3 + (1 : Int32)) (v4 + (-1 : Int32)) w4)
set_option maxHeartbeats 4000000 in
theorem R_X8_nextOrder (en : En) (N : Nat)  (σ : Sg) : RR en ExT mi_X8_nextOrder evI 0 [(0, .ref (ad en 21 0 0))] [] σ (f_X8_nextOrder N σ) := by
  unfold f_X8_nextOrder
  refine r_aload_n (pc := 0) 0 dX8_nextOrder_0 rfl rfl ?_
  refine g_X8_panes (pc := 1)  lf_RX8_143 dX8_nextOrder_1 ?_
  refine r_iconst (pc := 4) dX8_nextOrder_4 kc_iconst_2 ?_
  refine r_isub (pc := 5) dX8_nextOrder_5 ?_
  refine r_istore_n (pc := 6) [(1, .int ((rI σ 21 0 0 10) - (2 : Int32))), (0, .ref (ad en 21 0 0))] dX8_nextOrder_6 rfl (by decide) rfl ?_
  refine r_sub [1, 0] rfl (RL_X8_nextOrder_7 en N σ  (fun v1_1 => ?_) N ((rI σ 21 0 0 10) - (2 : Int32)))
  refine r_iload_n (pc := 40) 1 dX8_nextOrder_40 rfl rfl ?_
  refine r_if_ge (pc := 41) 46 dX8_nextOrder_41 (by decide) (fun h5 => ?_) (fun h5 => ?_)
  · refine r_aload_n (pc := 46) 0 dX8_nextOrder_46 rfl rfl ?_
    refine g_X8_panes (pc := 47)  lf_RX8_143 dX8_nextOrder_47 ?_
    refine r_iconst (pc := 50) dX8_nextOrder_50 kc_iconst_1 ?_
    refine r_isub (pc := 51) dX8_nextOrder_51 ?_
    refine r_istore_n (pc := 52) [(2, .int ((rI σ 21 0 0 10) - (1 : Int32))), (0, .ref (ad en 21 0 0)), (1, .int v1_1)] dX8_nextOrder_52 rfl (by decide) rfl ?_
    refine r_sub [1, 2, 0] rfl (RL_X8_nextOrder_53 en N v1_1 σ  (fun v2_2 => ?_) N ((rI σ 21 0 0 10) - (1 : Int32)))
    refine r_aload_n (pc := 80) 0 dX8_nextOrder_80 rfl rfl ?_
    refine r_iload_n (pc := 81) 1 dX8_nextOrder_81 rfl rfl ?_
    refine r_iload_n (pc := 82) 2 dX8_nextOrder_82 rfl rfl ?_
    refine k_X8_trades (pc := 83) lm_RX8_232  (by decide) (Nat.le_of_ble_eq_true rfl) dX8_nextOrder_83 (fun w3 h9 => ?_)
    refine r_iload_n (pc := 86) 1 dX8_nextOrder_86 rfl rfl ?_
    refine r_iconst (pc := 87) dX8_nextOrder_87 kc_iconst_1 ?_
    refine r_iadd (pc := 88) dX8_nextOrder_88 ?_
    refine r_istore_n (pc := 89) [(3, .int (v1_1 + (1 : Int32))), (0, .ref (ad en 21 0 0)), (1, .int v1_1), (2, .int v2_2)] dX8_nextOrder_89 rfl (by decide) rfl ?_
    refine r_aload_n (pc := 90) 1 dX8_nextOrder_90 rfl rfl ?_
    refine g_X8_panes (pc := 91)  lf_RX8_143 dX8_nextOrder_91 ?_
    refine r_iconst (pc := 94) dX8_nextOrder_94 kc_iconst_1 ?_
    refine r_isub (pc := 95) dX8_nextOrder_95 ?_
    refine r_istore (pc := 96) [(4, .int ((rI w3 21 0 0 10) - (1 : Int32))), (3, .int (v1_1 + (1 : Int32))), (0, .ref (ad en 21 0 0)), (1, .int v1_1), (2, .int v2_2)] dX8_nextOrder_96 (by decide) rfl ?_
    refine r_sub [2, 1, 0] rfl (RL_X8_nextOrder_98 en N   (fun v3_5 v4_5 σ_5 => ?_) N (v1_1 + (1 : Int32)) ((rI w3 21 0 0 10) - (1 : Int32)) w3)
    refine r_iconst (pc := 120) dX8_nextOrder_120 kc_iconst_1 ?_
    exact r_zret (pc := 121) rfl rfl dX8_nextOrder_121
  · refine r_iconst (pc := 44) dX8_nextOrder_44 kc_iconst_0 ?_
    exact r_zret (pc := 45) rfl rfl dX8_nextOrder_45
theorem ok_X8_nextOrder : yOk yX8_nextOrder cX8_nextOrder 5 (some .boolean) := ⟨in_lwG (by decide +kernel) rfl, in_lwG (by decide +kernel) rfl, by decide, by decide, by decide⟩
theorem k_X8_nextOrder {en : En} {Ex : (Nat → Prop) → State → Prop} {mi : Mi} {α : Type} {ev : α → Option Value × Sg} {pc index : Nat} {lv : List (Nat × Value)} {rest : List Value} {σ : Sg} {N : Nat} {k : (Int32 × Sg) → Option α}  (hlink : Cond.methodLink mi.1 index yX8_nextOrder ∈ lwG) (hroom : 2 + 1 ≤ mi.2.2.2.2) (hcat : (rest.map fun v => v.category).sum ≤ 8) (hd : decode mi.2.1 pc = .ok (.invokevirtual index, 3))  (h : ∀ w : Int32 × Sg, f_X8_nextOrder N  σ = some w → RR en Ex mi ev (pc + 3) lv (.int w.1 :: rest) w.2 (k w)) : RR en Ex mi ev pc lv (.ref (ad en 21 0 0) :: rest) σ ((f_X8_nextOrder N  σ).bind k) :=
  r_callV (n := 0) [] ok_X8_nextOrder hlink (in_lwG (by decide +kernel) rfl) (in_lwG (by decide +kernel) rfl) (by decide +kernel) rfl hroom (by decide) o21 rfl rfl hcat (R_X8_nextOrder en N   σ) (Nat.le_of_ble_eq_true rfl) hd h
set_option maxHeartbeats 4000000 in
theorem R_X8_odds (en : En) (N : Nat) (p0 : Int32) (p1 : Int32)  (σ : Sg) : RR en ExT mi_X8_odds evI 0 [(0, .ref (ad en 21 0 0)), (1, .int p0), (2, .int p1)] [] σ (f_X8_odds N p0 p1 σ) := by
  unfold f_X8_odds
  refine r_aload_n (pc := 0) 0 dX8_odds_0 rfl rfl ?_
  refine r_iconst (pc := 1) dX8_odds_1 kc_iconst_0 ?_
  refine p_X8_thrown (pc := 2)  lf_RX8_81 dX8_odds_2 ?_
  refine r_aload_n (pc := 5) 0 dX8_odds_5 rfl rfl ?_
  refine r_iload_n (pc := 6) 1 dX8_odds_6 rfl rfl ?_
  refine k_X8_isPane (pc := 7) lm_RX8_188  (by decide) (Nat.le_of_ble_eq_true rfl) dX8_odds_7 (fun w1 h1 => ?_)
  refine r_if_eq (pc := 10) 23 dX8_odds_10 (by decide) (fun h2 => ?_) (fun h2 => ?_)
  · refine r_iconst (pc := 23) dX8_odds_23 kc_iconst_m1 ?_
    refine r_goto (pc := 24) 32 dX8_odds_24 (by decide) ?_
    refine r_istore_n (pc := 32) [(3, .int (-1 : Int32)), (0, .ref (ad en 21 0 0)), (1, .int p0), (2, .int p1)] dX8_odds_32 rfl (by decide) rfl ?_
    refine r_iload_n (pc := 33) 0 dX8_odds_33 rfl rfl ?_
    refine r_if_eq_f (pc := 34) 39 dX8_odds_34 (by decide) (by decide) ?_
    refine r_iload_n (pc := 37) 0 dX8_odds_37 rfl rfl ?_
    exact r_iret (pc := 38) rfl dX8_odds_38
  · refine r_iload_n (pc := 13) 2 dX8_odds_13 rfl rfl ?_
    refine r_iconst (pc := 14) dX8_odds_14 kc_iconst_0 ?_
    refine r_bipush (pc := 15) dX8_odds_15 kc_bipush_12 ?_
    refine k_X8_in (pc := 17) lm_RX8_91  (by decide) (Nat.le_of_ble_eq_true rfl) dX8_odds_17 (fun w2 h3 => ?_)
    refine r_if_ne (pc := 20) 27 dX8_odds_20 (by decide) (fun h4 => ?_) (fun h4 => ?_)
    · refine r_iconst (pc := 23) dX8_odds_23 kc_iconst_m1 ?_
      refine r_goto (pc := 24) 32 dX8_odds_24 (by decide) ?_
      refine r_istore_n (pc := 32) [(3, .int (-1 : Int32)), (0, .ref (ad en 21 0 0)), (1, .int p0), (2, .int p1)] dX8_odds_32 rfl (by decide) rfl ?_
      refine r_iload_n (pc := 33) 0 dX8_odds_33 rfl rfl ?_
      refine r_if_eq_f (pc := 34) 39 dX8_odds_34 (by decide) (by decide) ?_
      refine r_iload_n (pc := 37) 0 dX8_odds_37 rfl rfl ?_
      exact r_iret (pc := 38) rfl dX8_odds_38
    · refine r_aload_n (pc := 27) 0 dX8_odds_27 rfl rfl ?_
      refine r_iload_n (pc := 28) 1 dX8_odds_28 rfl rfl ?_
      refine k_X8_againstOpen (pc := 29) lm_RX8_226  (by decide) (Nat.le_of_ble_eq_true rfl) dX8_odds_29 (fun w3 h5 => ?_)
      refine r_istore_n (pc := 32) [(3, .int w3.1), (0, .ref (ad en 21 0 0)), (1, .int p0), (2, .int p1)] dX8_odds_32 rfl (by decide) rfl ?_
      refine r_iload_n (pc := 33) 0 dX8_odds_33 rfl rfl ?_
      refine r_if_eq (pc := 34) 39 dX8_odds_34 (by decide) (fun h6 => ?_) (fun h6 => ?_)
      · refine r_aload_n (pc := 39) 1 dX8_odds_39 rfl rfl ?_
        refine k_X8_sees (pc := 40) lm_RX8_182  (by decide) (Nat.le_of_ble_eq_true rfl) dX8_odds_40 (fun w4 h7 => ?_)
        refine r_aload_n (pc := 43) 1 dX8_odds_43 rfl rfl ?_
        refine r_iload_n (pc := 44) 2 dX8_odds_44 rfl rfl ?_
        refine k_X8_overIt (pc := 45) lm_RX8_229  (by decide) (Nat.le_of_ble_eq_true rfl) dX8_odds_45 (fun w5 h8 => ?_)
        refine r_i2l (pc := 48) dX8_odds_48 ?_
        refine k_X8_ones (pc := 49) lm_RX8_172  (by decide) (Nat.le_of_ble_eq_true rfl) dX8_odds_49 (fun w6 h9 => ?_)
        refine r_istore (pc := 52) [(4, .int w6.1), (3, .int w3.1), (0, .ref (ad en 21 0 0)), (1, .int p0), (2, .int p1)] dX8_odds_52 (by decide) rfl ?_
        refine r_aload_n (pc := 54) 2 dX8_odds_54 rfl rfl ?_
        refine r_iload_n (pc := 55) 4 dX8_odds_55 rfl rfl ?_
        refine r_i2l (pc := 56) dX8_odds_56 ?_
        refine r_iload (pc := 57) 0 dX8_odds_57 rfl ?_
        refine k_X8_power (pc := 59) lm_RX8_262  (by decide) (Nat.le_of_ble_eq_true rfl) dX8_odds_59 (fun w7 h10 => ?_)
        refine r_ldc2 (pc := 62) lj_RX8_266 dX8_odds_62 ?_
        refine r_iload (pc := 65) 0 dX8_odds_65 rfl ?_
        refine k_X8_power (pc := 67) lm_RX8_262  (by decide) (Nat.le_of_ble_eq_true rfl) dX8_odds_67 (fun w8 h11 => ?_)
        refine k_X8_fraction (pc := 70) lm_RX8_268  (by decide) (Nat.le_of_ble_eq_true rfl) dX8_odds_70 (fun w9 h12 => ?_)
        refine r_iconst (pc := 73) dX8_odds_73 kc_iconst_1 ?_
        exact r_iret (pc := 74) rfl dX8_odds_74
      · refine r_iload_n (pc := 37) 0 dX8_odds_37 rfl rfl ?_
        exact r_iret (pc := 38) rfl dX8_odds_38
theorem ok_X8_odds : yOk yX8_odds cX8_odds 5 (some .int) := ⟨in_lwG (by decide +kernel) rfl, in_lwG (by decide +kernel) rfl, by decide, by decide, by decide⟩
theorem k_X8_odds {en : En} {Ex : (Nat → Prop) → State → Prop} {mi : Mi} {α : Type} {ev : α → Option Value × Sg} {pc index : Nat} {lv : List (Nat × Value)} {rest : List Value} {σ : Sg} {N : Nat} {k : (Int32 × Sg) → Option α} {p0 : Int32} {p1 : Int32} (hlink : Cond.methodLink mi.1 index yX8_odds ∈ lwG) (hroom : 6 + 1 ≤ mi.2.2.2.2) (hcat : (rest.map fun v => v.category).sum ≤ 8) (hd : decode mi.2.1 pc = .ok (.invokevirtual index, 3))  (h : ∀ w : Int32 × Sg, f_X8_odds N p0 p1 σ = some w → RR en Ex mi ev (pc + 3) lv (.int w.1 :: rest) w.2 (k w)) : RR en Ex mi ev pc lv (.int p1 :: .int p0 :: .ref (ad en 21 0 0) :: rest) σ ((f_X8_odds N p0 p1 σ).bind k) :=
  r_callV (n := 2) [.int p0, .int p1] ok_X8_odds hlink (in_lwG (by decide +kernel) rfl) (in_lwG (by decide +kernel) rfl) (by decide +kernel) rfl hroom (by decide) o21 rfl rfl hcat (R_X8_odds en N p0 p1  σ) (Nat.le_of_ble_eq_true rfl) hd h
set_option maxHeartbeats 4000000 in
theorem RL_X8_on_33 (en : En) (N : Nat) {k : Int32 → Sg → Option (Int32 × Sg)} (a1 : Int32)  (hk : ∀ (v2 : Int32) (σ : Sg), RR en ExT mi_X8_on evI 62 [(0, .ref (ad en 21 0 0)), (1, .int a1)] [] σ (k v2 σ)) : ∀ (n : Nat) (v2 : Int32) (σ : Sg), RR en ExT mi_X8_on evI 33 [(0, .ref (ad en 21 0 0)), (1, .int a1), (2, .int v2)] [] σ (L_X8_on_33 N k a1 n v2 σ) := by
  intro n
  induction n with
  | zero => intro v2 σ; exact r_none
  | succ n ih =>
    intro v2 σ
    rw [L_X8_on_33_s]
    refine r_iload_n (pc := 33) 2 dX8_on_33 rfl rfl ?_
    refine r_bipush (pc := 34) dX8_on_34 kc_bipush_22 ?_
    refine r_icmp_ge (pc := 36) 62 dX8_on_36 (by decide) (fun h5 => ?_) (fun h5 => ?_)
    · exact r_sub [0, 1] rfl (hk v2 σ)
    · refine r_aload_n (pc := 39) 0 dX8_on_39 rfl rfl ?_
      refine g_X8_s (pc := 40)  lf_RX8_34 dX8_on_40 ?_
      refine r_iload_n (pc := 43) 2 dX8_on_43 rfl rfl ?_
      refine r_aload_n (pc := 44) 0 dX8_on_44 rfl rfl ?_
      refine g_X8_kept (pc := 45)  lf_RX8_40 dX8_on_45 ?_
      refine r_bipush (pc := 48) dX8_on_48 kc_bipush_22 ?_
      refine r_iload_n (pc := 50) 1 dX8_on_50 rfl rfl ?_
      refine r_imul (pc := 51) dX8_on_51 ?_
      refine r_iload_n (pc := 52) 2 dX8_on_52 rfl rfl ?_
      refine r_iadd (pc := 53) dX8_on_53 ?_
      refine r_iald (pc := 54) (n := 66) o22_17 rfl dX8_on_54 (fun h6 => ?_)
      refine r_iast (pc := 55) (n := 22) o22_14 rfl rfl dX8_on_55 (fun h7 => ?_)
      refine r_iinc (pc := 56) 2 [(2, .int (v2 + (1 : Int32))), (0, .ref (ad en 21 0 0)), (1, .int a1)] dX8_on_56 rfl rfl (by decide) rfl ?_
      refine r_goto (pc := 59) 33 dX8_on_59 (by decide) ?_
      exact r_sub [1, 2, 0] rfl (ih (v2 + (1 : Int32)) (uI σ 22 14 0 v2.toNatClampNeg (rI σ 22 17 0 (((22 : Int32) * a1) + v2).toNatClampNeg)))
set_option maxHeartbeats 4000000 in
theorem RL_X8_on_64 (en : En) (N : Nat) {k : Int32 → Sg → Option (Int32 × Sg)} (a1 : Int32)  (hk : ∀ (v2 : Int32) (σ : Sg), RR en ExT mi_X8_on evI 95 [(0, .ref (ad en 21 0 0)), (1, .int a1)] [] σ (k v2 σ)) : ∀ (n : Nat) (v2 : Int32) (σ : Sg), RR en ExT mi_X8_on evI 64 [(0, .ref (ad en 21 0 0)), (1, .int a1), (2, .int v2)] [] σ (L_X8_on_64 N k a1 n v2 σ) := by
  intro n
  induction n with
  | zero => intro v2 σ; exact r_none
  | succ n ih =>
    intro v2 σ
    rw [L_X8_on_64_s]
    refine r_iload_n (pc := 64) 2 dX8_on_64 rfl rfl ?_
    refine r_sipush (pc := 65) dX8_on_65 kc_sipush_880 ?_
    refine r_icmp_ge (pc := 68) 95 dX8_on_68 (by decide) (fun h8 => ?_) (fun h8 => ?_)
    · exact r_sub [0, 1] rfl (hk v2 σ)
    · refine r_aload_n (pc := 71) 0 dX8_on_71 rfl rfl ?_
      refine g_X8_ahead (pc := 72)  lf_RX8_37 dX8_on_72 ?_
      refine r_iload_n (pc := 75) 2 dX8_on_75 rfl rfl ?_
      refine r_aload_n (pc := 76) 0 dX8_on_76 rfl rfl ?_
      refine g_X8_keptAhead (pc := 77)  lf_RX8_43 dX8_on_77 ?_
      refine r_sipush (pc := 80) dX8_on_80 kc_sipush_880 ?_
      refine r_iload_n (pc := 83) 1 dX8_on_83 rfl rfl ?_
      refine r_imul (pc := 84) dX8_on_84 ?_
      refine r_iload_n (pc := 85) 2 dX8_on_85 rfl rfl ?_
      refine r_iadd (pc := 86) dX8_on_86 ?_
      refine r_iald (pc := 87) (n := 2640) o22_18 rfl dX8_on_87 (fun h9 => ?_)
      refine r_iast (pc := 88) (n := 880) o22_15 rfl rfl dX8_on_88 (fun h10 => ?_)
      refine r_iinc (pc := 89) 2 [(2, .int (v2 + (1 : Int32))), (0, .ref (ad en 21 0 0)), (1, .int a1)] dX8_on_89 rfl rfl (by decide) rfl ?_
      refine r_goto (pc := 92) 64 dX8_on_92 (by decide) ?_
      exact r_sub [1, 2, 0] rfl (ih (v2 + (1 : Int32)) (uI σ 22 15 0 v2.toNatClampNeg (rI σ 22 18 0 (((880 : Int32) * a1) + v2).toNatClampNeg)))
set_option maxHeartbeats 4000000 in
theorem R_X8_on (en : En) (N : Nat) (p0 : Int32)  (σ : Sg) : RR en ExT mi_X8_on evI 0 [(0, .ref (ad en 21 0 0)), (1, .int p0)] [] σ (f_X8_on N p0 σ) := by
  unfold f_X8_on
  refine r_aload_n (pc := 0) 0 dX8_on_0 rfl rfl ?_
  refine r_iconst (pc := 1) dX8_on_1 kc_iconst_0 ?_
  refine p_X8_thrown (pc := 2)  lf_RX8_81 dX8_on_2 ?_
  refine r_iload_n (pc := 5) 1 dX8_on_5 rfl rfl ?_
  refine r_iconst (pc := 6) dX8_on_6 kc_iconst_0 ?_
  refine r_iconst (pc := 7) dX8_on_7 kc_iconst_2 ?_
  refine k_X8_in (pc := 8) lm_RX8_91  (by decide) (Nat.le_of_ble_eq_true rfl) dX8_on_8 (fun w1 h1 => ?_)
  refine r_if_ne (pc := 11) 16 dX8_on_11 (by decide) (fun h2 => ?_) (fun h2 => ?_)
  · refine r_iconst (pc := 14) dX8_on_14 kc_iconst_m1 ?_
    exact r_iret (pc := 15) rfl dX8_on_15
  · refine r_aload_n (pc := 16) 0 dX8_on_16 rfl rfl ?_
    refine g_X8_keptDeeds (pc := 17)  lf_RX8_46 dX8_on_17 ?_
    refine r_iload_n (pc := 20) 1 dX8_on_20 rfl rfl ?_
    refine r_iald (pc := 21) (n := 3) o22_19 rfl dX8_on_21 (fun h3 => ?_)
    refine r_if_ge (pc := 22) 31 dX8_on_22 (by decide) (fun h4 => ?_) (fun h4 => ?_)
    · refine r_iconst (pc := 31) dX8_on_31 kc_iconst_0 ?_
      refine r_istore_n (pc := 32) [(2, .int (0 : Int32)), (0, .ref (ad en 21 0 0)), (1, .int p0)] dX8_on_32 rfl (by decide) rfl ?_
      refine r_sub [1, 2, 0] rfl (RL_X8_on_33 en N p0  (fun v2_2 σ_2 => ?_) N (0 : Int32) w1.2)
      refine r_iconst (pc := 62) dX8_on_62 kc_iconst_0 ?_
      refine r_istore_n (pc := 63) [(2, .int (0 : Int32)), (0, .ref (ad en 21 0 0)), (1, .int p0)] dX8_on_63 rfl (by decide) rfl ?_
      refine r_sub [1, 2, 0] rfl (RL_X8_on_64 en N p0  (fun v2_3 σ_3 => ?_) N (0 : Int32) σ_2)
      refine r_aload_n (pc := 95) 0 dX8_on_95 rfl rfl ?_
      refine r_aload_n (pc := 96) 0 dX8_on_96 rfl rfl ?_
      refine g_X8_keptDeeds (pc := 97)  lf_RX8_46 dX8_on_97 ?_
      refine r_iload_n (pc := 100) 1 dX8_on_100 rfl rfl ?_
      refine r_iald (pc := 101) (n := 3) o22_19 rfl dX8_on_101 (fun h11 => ?_)
      refine p_X8_deeds (pc := 102)  lf_RX8_146 dX8_on_102 ?_
      refine r_aload_n (pc := 105) 0 dX8_on_105 rfl rfl ?_
      refine g_X8_deeds (pc := 106)  lf_RX8_146 dX8_on_106 ?_
      exact r_iret (pc := 109) rfl dX8_on_109
    · refine r_aload_n (pc := 25) 0 dX8_on_25 rfl rfl ?_
      refine r_iconst (pc := 26) dX8_on_26 kc_iconst_1 ?_
      refine k_X8_found (pc := 27) lm_RX8_99  (by decide) (Nat.le_of_ble_eq_true rfl) dX8_on_27 (fun w4 h12 => ?_)
      exact r_iret (pc := 30) rfl dX8_on_30
theorem ok_X8_on : yOk yX8_on cX8_on 3 (some .int) := ⟨in_lwG (by decide +kernel) rfl, in_lwG (by decide +kernel) rfl, by decide, by decide, by decide⟩
theorem k_X8_on {en : En} {Ex : (Nat → Prop) → State → Prop} {mi : Mi} {α : Type} {ev : α → Option Value × Sg} {pc index : Nat} {lv : List (Nat × Value)} {rest : List Value} {σ : Sg} {N : Nat} {k : (Int32 × Sg) → Option α} {p0 : Int32} (hlink : Cond.methodLink mi.1 index yX8_on ∈ lwG) (hroom : 2 + 1 ≤ mi.2.2.2.2) (hcat : (rest.map fun v => v.category).sum ≤ 8) (hd : decode mi.2.1 pc = .ok (.invokevirtual index, 3))  (h : ∀ w : Int32 × Sg, f_X8_on N p0 σ = some w → RR en Ex mi ev (pc + 3) lv (.int w.1 :: rest) w.2 (k w)) : RR en Ex mi ev pc lv (.int p0 :: .ref (ad en 21 0 0) :: rest) σ ((f_X8_on N p0 σ).bind k) :=
  r_callV (n := 1) [.int p0] ok_X8_on hlink (in_lwG (by decide +kernel) rfl) (in_lwG (by decide +kernel) rfl) (by decide +kernel) rfl hroom (by decide) o21 rfl rfl hcat (R_X8_on en N p0  σ) (Nat.le_of_ble_eq_true rfl) hd h
set_option maxHeartbeats 4000000 in
theorem RL_X8_order_34 (en : En) (N : Nat) {k : Int32 → Sg → Option (Int32 × Sg)} (a1 : Int32)  (hk : ∀ (v2 : Int32) (σ : Sg), RR en ExT mi_X8_order evI 58 [(0, .ref (ad en 21 0 0)), (1, .int a1)] [] σ (k v2 σ)) : ∀ (n : Nat) (v2 : Int32) (σ : Sg), RR en ExT mi_X8_order evI 34 [(0, .ref (ad en 21 0 0)), (1, .int a1), (2, .int v2)] [] σ (L_X8_order_34 N k a1 n v2 σ) := by
  intro n
  induction n with
  | zero => intro v2 σ; exact r_none
  | succ n ih =>
    intro v2 σ
    rw [L_X8_order_34_s]
    refine r_iload_n (pc := 34) 2 dX8_order_34 rfl rfl ?_
    refine r_aload_n (pc := 35) 0 dX8_order_35 rfl rfl ?_
    refine g_X8_panes (pc := 36)  lf_RX8_143 dX8_order_36 ?_
    refine r_icmp_ge (pc := 39) 58 dX8_order_39 (by decide) (fun h6 => ?_) (fun h6 => ?_)
    · exact r_sub [0, 1] rfl (hk v2 σ)
    · refine r_aload_n (pc := 42) 0 dX8_order_42 rfl rfl ?_
      refine g_X8_w (pc := 43)  lf_RX8_52 dX8_order_43 ?_
      refine r_bipush (pc := 46) dX8_order_46 kc_bipush_14 ?_
      refine r_iload_n (pc := 48) 2 dX8_order_48 rfl rfl ?_
      refine r_iadd (pc := 49) dX8_order_49 ?_
      refine r_iload_n (pc := 50) 2 dX8_order_50 rfl rfl ?_
      refine r_iast (pc := 51) (n := 22) o22_21 rfl rfl dX8_order_51 (fun h7 => ?_)
      refine r_iinc (pc := 52) 2 [(2, .int (v2 + (1 : Int32))), (0, .ref (ad en 21 0 0)), (1, .int a1)] dX8_order_52 rfl rfl (by decide) rfl ?_
      refine r_goto (pc := 55) 34 dX8_order_55 (by decide) ?_
      exact r_sub [1, 2, 0] rfl (ih (v2 + (1 : Int32)) (uI σ 22 21 0 ((14 : Int32) + v2).toNatClampNeg v2))
set_option maxHeartbeats 4000000 in
theorem RL_X8_order_96 (en : En) (N : Nat) {k : Int32 → Sg → Option (Int32 × Sg)} (a1 : Int32) (a2 : Int32)  (hk : ∀ (v4 : Int32) (σ : Sg), RR en ExT mi_X8_order evI 133 [(0, .ref (ad en 21 0 0)), (1, .int a1), (2, .int a2)] [] σ (k v4 σ)) : ∀ (n : Nat) (v4 : Int32) (σ : Sg), RR en ExT mi_X8_order evI 96 [(0, .ref (ad en 21 0 0)), (1, .int a1), (2, .int a2), (4, .int v4)] [] σ (L_X8_order_96 N k a1 a2 n v4 σ) := by
  intro n
  induction n with
  | zero => intro v4 σ; exact r_none
  | succ n ih =>
    intro v4 σ
    rw [L_X8_order_96_s]
    refine r_iload (pc := 96) 3 dX8_order_96 rfl ?_
    refine r_aload_n (pc := 98) 0 dX8_order_98 rfl rfl ?_
    refine g_X8_panes (pc := 99)  lf_RX8_143 dX8_order_99 ?_
    refine r_icmp_ge (pc := 102) 133 dX8_order_102 (by decide) (fun h15 => ?_) (fun h15 => ?_)
    · exact r_sub [0, 1, 2] rfl (hk v4 σ)
    · refine r_aload_n (pc := 105) 0 dX8_order_105 rfl rfl ?_
      refine g_X8_rows (pc := 106)  lf_RX8_13 dX8_order_106 ?_
      refine r_bipush (pc := 109) dX8_order_109 kc_bipush_40 ?_
      refine r_iload_n (pc := 111) 1 dX8_order_111 rfl rfl ?_
      refine r_imul (pc := 112) dX8_order_112 ?_
      refine r_iload (pc := 113) 3 dX8_order_113 rfl ?_
      refine r_iadd (pc := 115) dX8_order_115 ?_
      refine r_aload_n (pc := 116) 0 dX8_order_116 rfl rfl ?_
      refine g_X8_w (pc := 117)  lf_RX8_52 dX8_order_117 ?_
      refine r_bipush (pc := 120) dX8_order_120 kc_bipush_14 ?_
      refine r_iload (pc := 122) 3 dX8_order_122 rfl ?_
      refine r_iadd (pc := 124) dX8_order_124 ?_
      refine r_iald (pc := 125) (n := 22) o22_21 rfl dX8_order_125 (fun h16 => ?_)
      refine r_iast (pc := 126) (n := 240) o22_6 rfl rfl dX8_order_126 (fun h17 => ?_)
      refine r_iinc (pc := 127) 3 [(4, .int (v4 + (1 : Int32))), (0, .ref (ad en 21 0 0)), (1, .int a1), (2, .int a2)] dX8_order_127 rfl rfl (by decide) rfl ?_
      refine r_goto (pc := 130) 96 dX8_order_130 (by decide) ?_
      exact r_sub [1, 2, 3, 0] rfl (ih (v4 + (1 : Int32)) (uI σ 22 6 0 (((40 : Int32) * a1) + v4).toNatClampNeg (rI σ 22 21 0 ((14 : Int32) + v4).toNatClampNeg)))
set_option maxHeartbeats 4000000 in
theorem RL_X8_order_62 (en : En) (N : Nat) {k : Int32 → Int32 → Sg → Option (Int32 × Sg)} (a1 : Int32)  (hk : ∀ (v2 : Int32) (v3 : Int32) (σ : Sg), RR en ExT mi_X8_order evI 141 [(2, .int v2)] [] σ (k v2 v3 σ)) : ∀ (n : Nat) (v2 : Int32) (v3 : Int32) (σ : Sg), RR en ExT mi_X8_order evI 62 [(0, .ref (ad en 21 0 0)), (1, .int a1), (2, .int v2), (3, .int v3)] [] σ (L_X8_order_62 N k a1 n v2 v3 σ) := by
  intro n
  induction n with
  | zero => intro v2 v3 σ; exact r_none
  | succ n ih =>
    intro v2 v3 σ
    rw [L_X8_order_62_s]
    refine r_iload_n (pc := 62) 3 dX8_order_62 rfl rfl ?_
    refine r_if_eq (pc := 63) 141 dX8_order_63 (by decide) (fun h8 => ?_) (fun h8 => ?_)
    · exact r_sub [2] rfl (hk v2 v3 σ)
    · refine r_aload_n (pc := 66) 0 dX8_order_66 rfl rfl ?_
      refine k_X8_seeing (pc := 67) lm_RX8_169  (by decide) (Nat.le_of_ble_eq_true rfl) dX8_order_67 (fun w5 h9 => ?_)
      refine r_aload_n (pc := 70) 0 dX8_order_70 rfl rfl ?_
      refine k_X8_manySeen (pc := 71) lm_RX8_236  (by decide) (Nat.le_of_ble_eq_true rfl) dX8_order_71 (fun w6 h10 => ?_)
      refine r_iload_n (pc := 74) 2 dX8_order_74 rfl rfl ?_
      refine r_icmp_le (pc := 75) 133 dX8_order_75 (by decide) (fun h11 => ?_) (fun h11 => ?_)
      · refine r_aload_n (pc := 133) 0 dX8_order_133 rfl rfl ?_
        refine k_X8_nextOrder (pc := 134) lm_RX8_239  (by decide) (Nat.le_of_ble_eq_true rfl) dX8_order_134 (fun w7 h12 => ?_)
        refine r_istore_n (pc := 137) [(3, .int w7.1), (0, .ref (ad en 21 0 0)), (1, .int a1), (2, .int v2)] dX8_order_137 rfl (by decide) rfl ?_
        refine r_goto (pc := 138) 62 dX8_order_138 (by decide) ?_
        exact r_sub [1, 2, 3, 0] rfl (ih v2 w7.1 w7.2)
      · refine r_aload_n (pc := 78) 0 dX8_order_78 rfl rfl ?_
        refine k_X8_manySeen (pc := 79) lm_RX8_236  (by decide) (Nat.le_of_ble_eq_true rfl) dX8_order_79 (fun w8 h13 => ?_)
        refine r_istore_n (pc := 82) [(2, .int w8.1), (0, .ref (ad en 21 0 0)), (1, .int a1), (3, .int v3)] dX8_order_82 rfl (by decide) rfl ?_
        refine r_aload_n (pc := 83) 1 dX8_order_83 rfl rfl ?_
        refine g_X8_rowSize (pc := 84)  lf_RX8_16 dX8_order_84 ?_
        refine r_iload_n (pc := 87) 2 dX8_order_87 rfl rfl ?_
        refine r_aload_n (pc := 88) 1 dX8_order_88 rfl rfl ?_
        refine g_X8_panes (pc := 89)  lf_RX8_143 dX8_order_89 ?_
        refine r_iast (pc := 92) (n := 6) o22_7 rfl rfl dX8_order_92 (fun h14 => ?_)
        refine r_iconst (pc := 93) dX8_order_93 kc_iconst_0 ?_
        refine r_istore (pc := 94) [(4, .int (0 : Int32)), (2, .int w8.1), (0, .ref (ad en 21 0 0)), (1, .int a1), (3, .int v3)] dX8_order_94 (by decide) rfl ?_
        refine r_sub [2, 3, 1, 0] rfl (RL_X8_order_96 en N a1 w8.1  (fun v4_9 σ_9 => ?_) N (0 : Int32) (uI w8.2 22 7 0 a1.toNatClampNeg (rI w8.2 21 0 0 10)))
        refine r_aload_n (pc := 133) 0 dX8_order_133 rfl rfl ?_
        refine k_X8_nextOrder (pc := 134) lm_RX8_239  (by decide) (Nat.le_of_ble_eq_true rfl) dX8_order_134 (fun w10 h18 => ?_)
        refine r_istore_n (pc := 137) [(3, .int w10.1), (0, .ref (ad en 21 0 0)), (1, .int a1), (2, .int w8.1)] dX8_order_137 rfl (by decide) rfl ?_
        refine r_goto (pc := 138) 62 dX8_order_138 (by decide) ?_
        exact r_sub [1, 2, 3, 0] rfl (ih w8.1 w10.1 w10.2)
set_option maxHeartbeats 4000000 in
theorem R_X8_order (en : En) (N : Nat) (p0 : Int32)  (σ : Sg) : RR en ExT mi_X8_order evI 0 [(0, .ref (ad en 21 0 0)), (1, .int p0)] [] σ (f_X8_order N p0 σ) := by
  unfold f_X8_order
  refine r_aload_n (pc := 0) 0 dX8_order_0 rfl rfl ?_
  refine r_iconst (pc := 1) dX8_order_1 kc_iconst_0 ?_
  refine p_X8_thrown (pc := 2)  lf_RX8_81 dX8_order_2 ?_
  refine r_iload_n (pc := 5) 1 dX8_order_5 rfl rfl ?_
  refine k_X8_isRow (pc := 6) lm_RX8_95  (by decide) (Nat.le_of_ble_eq_true rfl) dX8_order_6 (fun w1 h1 => ?_)
  refine r_if_ne (pc := 9) 14 dX8_order_9 (by decide) (fun h2 => ?_) (fun h2 => ?_)
  · refine r_iconst (pc := 12) dX8_order_12 kc_iconst_m1 ?_
    exact r_iret (pc := 13) rfl dX8_order_13
  · refine r_aload_n (pc := 14) 0 dX8_order_14 rfl rfl ?_
    refine g_X8_panes (pc := 15)  lf_RX8_143 dX8_order_15 ?_
    refine r_if_ne (pc := 18) 24 dX8_order_18 (by decide) (fun h3 => ?_) (fun h3 => ?_)
    · refine r_bipush (pc := 21) dX8_order_21 kc_bipush_m4 ?_
      exact r_iret (pc := 23) rfl dX8_order_23
    · refine r_aload_n (pc := 24) 0 dX8_order_24 rfl rfl ?_
      refine k_X8_asNow (pc := 25) lm_RX8_163  (by decide) (Nat.le_of_ble_eq_true rfl) dX8_order_25 (fun w2 h4 => ?_)
      refine r_aload_n (pc := 28) 0 dX8_order_28 rfl rfl ?_
      refine k_X8_coveringAll (pc := 29) lm_RX8_166  (by decide) (Nat.le_of_ble_eq_true rfl) dX8_order_29 (fun w3 h5 => ?_)
      refine r_iconst (pc := 32) dX8_order_32 kc_iconst_0 ?_
      refine r_istore_n (pc := 33) [(2, .int (0 : Int32)), (0, .ref (ad en 21 0 0)), (1, .int p0)] dX8_order_33 rfl (by decide) rfl ?_
      refine r_sub [1, 2, 0] rfl (RL_X8_order_34 en N p0  (fun v2_4 σ_4 => ?_) N (0 : Int32) w3)
      refine r_iconst (pc := 58) dX8_order_58 kc_iconst_m1 ?_
      refine r_istore_n (pc := 59) [(2, .int (-1 : Int32)), (0, .ref (ad en 21 0 0)), (1, .int p0)] dX8_order_59 rfl (by decide) rfl ?_
      refine r_iconst (pc := 60) dX8_order_60 kc_iconst_1 ?_
      refine r_istore_n (pc := 61) [(3, .int (1 : Int32)), (2, .int (-1 : Int32)), (0, .ref (ad en 21 0 0)), (1, .int p0)] dX8_order_61 rfl (by decide) rfl ?_
      refine r_sub [2, 3, 1, 0] rfl (RL_X8_order_62 en N p0  (fun v2_11 v3_11 σ_11 => ?_) N (-1 : Int32) (1 : Int32) σ_4)
      refine r_iload_n (pc := 141) 0 dX8_order_141 rfl rfl ?_
      exact r_iret (pc := 142) rfl dX8_order_142
theorem ok_X8_order : yOk yX8_order cX8_order 5 (some .int) := ⟨in_lwG (by decide +kernel) rfl, in_lwG (by decide +kernel) rfl, by decide, by decide, by decide⟩
theorem k_X8_order {en : En} {Ex : (Nat → Prop) → State → Prop} {mi : Mi} {α : Type} {ev : α → Option Value × Sg} {pc index : Nat} {lv : List (Nat × Value)} {rest : List Value} {σ : Sg} {N : Nat} {k : (Int32 × Sg) → Option α} {p0 : Int32} (hlink : Cond.methodLink mi.1 index yX8_order ∈ lwG) (hroom : 5 + 1 ≤ mi.2.2.2.2) (hcat : (rest.map fun v => v.category).sum ≤ 8) (hd : decode mi.2.1 pc = .ok (.invokevirtual index, 3))  (h : ∀ w : Int32 × Sg, f_X8_order N p0 σ = some w → RR en Ex mi ev (pc + 3) lv (.int w.1 :: rest) w.2 (k w)) : RR en Ex mi ev pc lv (.int p0 :: .ref (ad en 21 0 0) :: rest) σ ((f_X8_order N p0 σ).bind k) :=
  r_callV (n := 1) [.int p0] ok_X8_order hlink (in_lwG (by decide +kernel) rfl) (in_lwG (by decide +kernel) rfl) (by decide +kernel) rfl hroom (by decide) o21 rfl rfl hcat (R_X8_order en N p0  σ) (Nat.le_of_ble_eq_true rfl) hd h
set_option maxHeartbeats 4000000 in
theorem R_X8_pane (en : En) (N : Nat) (p0 : Int32) (p1 : Int32)  (σ : Sg) : RR en ExT mi_X8_pane evI 0 [(0, .ref (ad en 21 0 0)), (1, .int p0), (2, .int p1)] [] σ (f_X8_pane N p0 p1 σ) := by
  unfold f_X8_pane
  refine r_aload_n (pc := 0) 0 dX8_pane_0 rfl rfl ?_
  refine r_iconst (pc := 1) dX8_pane_1 kc_iconst_0 ?_
  refine p_X8_thrown (pc := 2)  lf_RX8_81 dX8_pane_2 ?_
  refine r_aload_n (pc := 5) 0 dX8_pane_5 rfl rfl ?_
  refine r_iload_n (pc := 6) 1 dX8_pane_6 rfl rfl ?_
  refine k_X8_isPane (pc := 7) lm_RX8_188  (by decide) (Nat.le_of_ble_eq_true rfl) dX8_pane_7 (fun w1 h1 => ?_)
  refine r_if_eq (pc := 10) 37 dX8_pane_10 (by decide) (fun h2 => ?_) (fun h2 => ?_)
  · refine r_iconst (pc := 37) dX8_pane_37 kc_iconst_m1 ?_
    exact r_iret (pc := 38) rfl dX8_pane_38
  · refine r_iload_n (pc := 13) 2 dX8_pane_13 rfl rfl ?_
    refine r_iconst (pc := 14) dX8_pane_14 kc_iconst_0 ?_
    refine r_bipush (pc := 15) dX8_pane_15 kc_bipush_7 ?_
    refine k_X8_in (pc := 17) lm_RX8_91  (by decide) (Nat.le_of_ble_eq_true rfl) dX8_pane_17 (fun w2 h3 => ?_)
    refine r_if_eq (pc := 20) 37 dX8_pane_20 (by decide) (fun h4 => ?_) (fun h4 => ?_)
    · refine r_iconst (pc := 37) dX8_pane_37 kc_iconst_m1 ?_
      exact r_iret (pc := 38) rfl dX8_pane_38
    · refine r_aload_n (pc := 23) 0 dX8_pane_23 rfl rfl ?_
      refine r_iconst (pc := 24) dX8_pane_24 kc_iconst_1 ?_
      refine r_aload_n (pc := 25) 0 dX8_pane_25 rfl rfl ?_
      refine r_iload_n (pc := 26) 1 dX8_pane_26 rfl rfl ?_
      refine r_iload_n (pc := 27) 2 dX8_pane_27 rfl rfl ?_
      refine k_X8_ofPane (pc := 28) lm_RX8_191  (by decide) (Nat.le_of_ble_eq_true rfl) dX8_pane_28 (fun w3 h5 => ?_)
      refine k_X8_tells (pc := 31) lm_RX8_107  (by decide) (Nat.le_of_ble_eq_true rfl) dX8_pane_31 (fun w4 h6 => ?_)
      refine r_goto (pc := 34) 38 dX8_pane_34 (by decide) ?_
      exact r_iret (pc := 38) rfl dX8_pane_38
theorem ok_X8_pane : yOk yX8_pane cX8_pane 3 (some .int) := ⟨in_lwG (by decide +kernel) rfl, in_lwG (by decide +kernel) rfl, by decide, by decide, by decide⟩
theorem k_X8_pane {en : En} {Ex : (Nat → Prop) → State → Prop} {mi : Mi} {α : Type} {ev : α → Option Value × Sg} {pc index : Nat} {lv : List (Nat × Value)} {rest : List Value} {σ : Sg} {N : Nat} {k : (Int32 × Sg) → Option α} {p0 : Int32} {p1 : Int32} (hlink : Cond.methodLink mi.1 index yX8_pane ∈ lwG) (hroom : 7 + 1 ≤ mi.2.2.2.2) (hcat : (rest.map fun v => v.category).sum ≤ 8) (hd : decode mi.2.1 pc = .ok (.invokevirtual index, 3))  (h : ∀ w : Int32 × Sg, f_X8_pane N p0 p1 σ = some w → RR en Ex mi ev (pc + 3) lv (.int w.1 :: rest) w.2 (k w)) : RR en Ex mi ev pc lv (.int p1 :: .int p0 :: .ref (ad en 21 0 0) :: rest) σ ((f_X8_pane N p0 p1 σ).bind k) :=
  r_callV (n := 2) [.int p0, .int p1] ok_X8_pane hlink (in_lwG (by decide +kernel) rfl) (in_lwG (by decide +kernel) rfl) (by decide +kernel) rfl hroom (by decide) o21 rfl rfl hcat (R_X8_pane en N p0 p1  σ) (Nat.le_of_ble_eq_true rfl) hd h
set_option maxHeartbeats 4000000 in
theorem RL_X8_places_36 (en : En) (N : Nat) {k : Int32 → Int32 → Int32 → Sg → Option (Int32 × Sg)} (a1 : Int32) (a2 : Int32)  (hk : ∀ (v4 : Int32) (v5 : Int32) (v6 : Int32) (σ : Sg), RR en ExT mi_X8_places evI 140 [(0, .ref (ad en 21 0 0)), (4, .int v4), (5, .int v5)] [] σ (k v4 v5 v6 σ)) : ∀ (n : Nat) (v4 : Int32) (v5 : Int32) (v6 : Int32) (σ : Sg), RR en ExT mi_X8_places evI 36 [(0, .ref (ad en 21 0 0)), (1, .int a1), (2, .int a2), (4, .int v4), (5, .int v5), (6, .int v6)] [] σ (L_X8_places_36 N k a1 a2 n v4 v5 v6 σ) := by
  intro n
  induction n with
  | zero => intro v4 v5 v6 σ; exact r_none
  | succ n ih =>
    intro v4 v5 v6 σ
    rw [L_X8_places_36_s]
    refine r_iload (pc := 36) 5 dX8_places_36 rfl ?_
    refine r_bipush (pc := 38) dX8_places_38 kc_bipush_96 ?_
    refine r_icmp_ge (pc := 40) 140 dX8_places_40 (by decide) (fun h5 => ?_) (fun h5 => ?_)
    · exact r_sub [0, 3, 4] rfl (hk v4 v5 v6 σ)
    · refine r_iload (pc := 43) 5 dX8_places_43 rfl ?_
      refine r_bipush (pc := 45) dX8_places_45 kc_bipush_12 ?_
      refine r_irem (pc := 47) dX8_places_47 (by decide) ?_
      refine r_bipush (pc := 48) dX8_places_48 kc_bipush_12 ?_
      refine r_aload_n (pc := 50) 0 dX8_places_50 rfl rfl ?_
      refine g_X8_wide (pc := 51)  lf_RX8_28 dX8_places_51 ?_
      refine r_iload_n (pc := 54) 1 dX8_places_54 rfl rfl ?_
      refine r_iald (pc := 55) (n := 7) o22_12 rfl dX8_places_55 (fun h6 => ?_)
      refine r_isub (pc := 56) dX8_places_56 ?_
      refine r_icmp_gt (pc := 57) 134 dX8_places_57 (by decide) (fun h7 => ?_) (fun h7 => ?_)
      · refine r_iinc (pc := 134) 5 [(6, .int (v6 + (1 : Int32))), (0, .ref (ad en 21 0 0)), (1, .int a1), (2, .int a2), (4, .int v4), (5, .int v5)] dX8_places_134 rfl rfl (by decide) rfl ?_
        refine r_goto (pc := 137) 36 dX8_places_137 (by decide) ?_
        exact r_sub [1, 2, 3, 4, 5, 0] rfl (ih v4 v5 (v6 + (1 : Int32)) σ)
      · refine r_iload (pc := 60) 5 dX8_places_60 rfl ?_
        refine r_bipush (pc := 62) dX8_places_62 kc_bipush_12 ?_
        refine r_idiv (pc := 64) dX8_places_64 (by decide) ?_
        refine r_bipush (pc := 65) dX8_places_65 kc_bipush_8 ?_
        refine r_aload_n (pc := 67) 0 dX8_places_67 rfl rfl ?_
        refine g_X8_high (pc := 68)  lf_RX8_31 dX8_places_68 ?_
        refine r_iload_n (pc := 71) 1 dX8_places_71 rfl rfl ?_
        refine r_iald (pc := 72) (n := 7) o22_13 rfl dX8_places_72 (fun h8 => ?_)
        refine r_isub (pc := 73) dX8_places_73 ?_
        refine r_icmp_gt (pc := 74) 134 dX8_places_74 (by decide) (fun h9 => ?_) (fun h9 => ?_)
        · refine r_iinc (pc := 134) 5 [(6, .int (v6 + (1 : Int32))), (0, .ref (ad en 21 0 0)), (1, .int a1), (2, .int a2), (4, .int v4), (5, .int v5)] dX8_places_134 rfl rfl (by decide) rfl ?_
          refine r_goto (pc := 137) 36 dX8_places_137 (by decide) ?_
          exact r_sub [1, 2, 3, 4, 5, 0] rfl (ih v4 v5 (v6 + (1 : Int32)) σ)
        · refine r_aload_n (pc := 77) 0 dX8_places_77 rfl rfl ?_
          refine g_X8_w (pc := 78)  lf_RX8_52 dX8_places_78 ?_
          refine r_iconst (pc := 81) dX8_places_81 kc_iconst_0 ?_
          refine r_iload_n (pc := 82) 1 dX8_places_82 rfl rfl ?_
          refine r_iadd (pc := 83) dX8_places_83 ?_
          refine r_iload (pc := 84) 5 dX8_places_84 rfl ?_
          refine r_bipush (pc := 86) dX8_places_86 kc_bipush_12 ?_
          refine r_irem (pc := 88) dX8_places_88 (by decide) ?_
          refine r_iast (pc := 89) (n := 22) o22_21 rfl rfl dX8_places_89 (fun h10 => ?_)
          refine r_aload_n (pc := 90) 0 dX8_places_90 rfl rfl ?_
          refine g_X8_w (pc := 91)  lf_RX8_52 dX8_places_91 ?_
          refine r_bipush (pc := 94) dX8_places_94 kc_bipush_7 ?_
          refine r_iload_n (pc := 96) 1 dX8_places_96 rfl rfl ?_
          refine r_iadd (pc := 97) dX8_places_97 ?_
          refine r_iload (pc := 98) 5 dX8_places_98 rfl ?_
          refine r_bipush (pc := 100) dX8_places_100 kc_bipush_12 ?_
          refine r_idiv (pc := 102) dX8_places_102 (by decide) ?_
          refine r_iast (pc := 103) (n := 22) o22_21 rfl rfl dX8_places_103 (fun h11 => ?_)
          refine r_aload_n (pc := 104) 0 dX8_places_104 rfl rfl ?_
          refine r_iload_n (pc := 105) 1 dX8_places_105 rfl rfl ?_
          refine k_X8_covering (pc := 106) lm_RX8_153  (by decide) (Nat.le_of_ble_eq_true rfl) dX8_places_106 (fun w4 h12 => ?_)
          refine r_aload_n (pc := 109) 0 dX8_places_109 rfl rfl ?_
          refine r_iload_n (pc := 110) 2 dX8_places_110 rfl rfl ?_
          refine k_X8_isSo (pc := 111) lm_RX8_243  (by decide) (Nat.le_of_ble_eq_true rfl) dX8_places_111 (fun w5 h13 => ?_)
          refine r_if_eq (pc := 114) 134 dX8_places_114 (by decide) (fun h14 => ?_) (fun h14 => ?_)
          · refine r_iinc (pc := 134) 5 [(6, .int (v6 + (1 : Int32))), (0, .ref (ad en 21 0 0)), (1, .int a1), (2, .int a2), (4, .int v4), (5, .int v5)] dX8_places_134 rfl rfl (by decide) rfl ?_
            refine r_goto (pc := 137) 36 dX8_places_137 (by decide) ?_
            exact r_sub [1, 2, 3, 4, 5, 0] rfl (ih v4 v5 (v6 + (1 : Int32)) w5.2)
          · refine r_iload (pc := 117) 3 dX8_places_117 rfl ?_
            refine r_if_ne (pc := 119) 127 dX8_places_119 (by decide) (fun h15 => ?_) (fun h15 => ?_)
            · refine r_iload (pc := 122) 5 dX8_places_122 rfl ?_
              refine r_goto (pc := 124) 129 dX8_places_124 (by decide) ?_
              refine r_istore (pc := 129) [(5, .int v6), (0, .ref (ad en 21 0 0)), (1, .int a1), (2, .int a2), (4, .int v4), (6, .int v6)] dX8_places_129 (by decide) rfl ?_
              refine r_iinc (pc := 131) 4 [(4, .int (v4 + (1 : Int32))), (5, .int v6), (0, .ref (ad en 21 0 0)), (1, .int a1), (2, .int a2), (6, .int v6)] dX8_places_131 rfl rfl (by decide) rfl ?_
              refine r_iinc (pc := 134) 5 [(6, .int (v6 + (1 : Int32))), (4, .int (v4 + (1 : Int32))), (5, .int v6), (0, .ref (ad en 21 0 0)), (1, .int a1), (2, .int a2)] dX8_places_134 rfl rfl (by decide) rfl ?_
              refine r_goto (pc := 137) 36 dX8_places_137 (by decide) ?_
              exact r_sub [3, 4, 5, 1, 2, 0] rfl (ih (v4 + (1 : Int32)) v6 (v6 + (1 : Int32)) w5.2)
            · refine r_iload (pc := 127) 4 dX8_places_127 rfl ?_
              refine r_istore (pc := 129) [(5, .int v5), (0, .ref (ad en 21 0 0)), (1, .int a1), (2, .int a2), (4, .int v4), (6, .int v6)] dX8_places_129 (by decide) rfl ?_
              refine r_iinc (pc := 131) 4 [(4, .int (v4 + (1 : Int32))), (5, .int v5), (0, .ref (ad en 21 0 0)), (1, .int a1), (2, .int a2), (6, .int v6)] dX8_places_131 rfl rfl (by decide) rfl ?_
              refine r_iinc (pc := 134) 5 [(6, .int (v6 + (1 : Int32))), (4, .int (v4 + (1 : Int32))), (5, .int v5), (0, .ref (ad en 21 0 0)), (1, .int a1), (2, .int a2)] dX8_places_134 rfl rfl (by decide) rfl ?_
              refine r_goto (pc := 137) 36 dX8_places_137 (by decide) ?_
              exact r_sub [3, 4, 5, 1, 2, 0] rfl (ih (v4 + (1 : Int32)) v5 (v6 + (1 : Int32)) w5.2)
set_option maxHeartbeats 4000000 in
theorem R_X8_places (en : En) (N : Nat) (p0 : Int32) (p1 : Int32)  (σ : Sg) : RR en ExT mi_X8_places evI 0 [(0, .ref (ad en 21 0 0)), (1, .int p0), (2, .int p1)] [] σ (f_X8_places N p0 p1 σ) := by
  unfold f_X8_places
  refine r_aload_n (pc := 0) 0 dX8_places_0 rfl rfl ?_
  refine r_iconst (pc := 1) dX8_places_1 kc_iconst_0 ?_
  refine p_X8_thrown (pc := 2)  lf_RX8_81 dX8_places_2 ?_
  refine r_aload_n (pc := 5) 0 dX8_places_5 rfl rfl ?_
  refine r_iload_n (pc := 6) 1 dX8_places_6 rfl rfl ?_
  refine r_iload_n (pc := 7) 2 dX8_places_7 rfl rfl ?_
  refine k_X8_againstPairs (pc := 8) lm_RX8_246  (by decide) (Nat.le_of_ble_eq_true rfl) dX8_places_8 (fun w1 h1 => ?_)
  refine r_istore_n (pc := 11) [(3, .int w1.1), (0, .ref (ad en 21 0 0)), (1, .int p0), (2, .int p1)] dX8_places_11 rfl (by decide) rfl ?_
  refine r_iload_n (pc := 12) 0 dX8_places_12 rfl rfl ?_
  refine r_if_eq (pc := 13) 18 dX8_places_13 (by decide) (fun h2 => ?_) (fun h2 => ?_)
  · refine r_aload_n (pc := 18) 1 dX8_places_18 rfl rfl ?_
    refine k_X8_asNow (pc := 19) lm_RX8_163  (by decide) (Nat.le_of_ble_eq_true rfl) dX8_places_19 (fun w2 h3 => ?_)
    refine r_aload_n (pc := 22) 1 dX8_places_22 rfl rfl ?_
    refine k_X8_coveringAll (pc := 23) lm_RX8_166  (by decide) (Nat.le_of_ble_eq_true rfl) dX8_places_23 (fun w3 h4 => ?_)
    refine r_iconst (pc := 26) dX8_places_26 kc_iconst_0 ?_
    refine r_istore (pc := 27) [(4, .int (0 : Int32)), (3, .int w1.1), (0, .ref (ad en 21 0 0)), (1, .int p0), (2, .int p1)] dX8_places_27 (by decide) rfl ?_
    refine r_bipush (pc := 29) dX8_places_29 kc_bipush_m9 ?_
    refine r_istore (pc := 31) [(5, .int (-9 : Int32)), (4, .int (0 : Int32)), (3, .int w1.1), (0, .ref (ad en 21 0 0)), (1, .int p0), (2, .int p1)] dX8_places_31 (by decide) rfl ?_
    refine r_iconst (pc := 33) dX8_places_33 kc_iconst_0 ?_
    refine r_istore (pc := 34) [(6, .int (0 : Int32)), (5, .int (-9 : Int32)), (4, .int (0 : Int32)), (3, .int w1.1), (0, .ref (ad en 21 0 0)), (1, .int p0), (2, .int p1)] dX8_places_34 (by decide) rfl ?_
    refine r_sub [4, 5, 6, 2, 1, 0] rfl (RL_X8_places_36 en N p0 p1  (fun v4_6 v5_6 v6_6 σ_6 => ?_) N (0 : Int32) (-9 : Int32) (0 : Int32) w3)
    refine r_iload (pc := 140) 1 dX8_places_140 rfl ?_
    refine r_if_ne (pc := 142) 150 dX8_places_142 (by decide) (fun h16 => ?_) (fun h16 => ?_)
    · refine r_bipush (pc := 145) dX8_places_145 kc_bipush_m9 ?_
      refine r_goto (pc := 147) 158 dX8_places_147 (by decide) ?_
      exact r_iret (pc := 158) rfl dX8_places_158
    · refine r_aload_n (pc := 150) 0 dX8_places_150 rfl rfl ?_
      refine r_iload (pc := 151) 1 dX8_places_151 rfl ?_
      refine r_iload (pc := 153) 2 dX8_places_153 rfl ?_
      refine k_X8_tells (pc := 155) lm_RX8_107  (by decide) (Nat.le_of_ble_eq_true rfl) dX8_places_155 (fun w7 h17 => ?_)
      exact r_iret (pc := 158) rfl dX8_places_158
  · refine r_iload_n (pc := 16) 0 dX8_places_16 rfl rfl ?_
    exact r_iret (pc := 17) rfl dX8_places_17
theorem ok_X8_places : yOk yX8_places cX8_places 7 (some .int) := ⟨in_lwG (by decide +kernel) rfl, in_lwG (by decide +kernel) rfl, by decide, by decide, by decide⟩
theorem k_X8_places {en : En} {Ex : (Nat → Prop) → State → Prop} {mi : Mi} {α : Type} {ev : α → Option Value × Sg} {pc index : Nat} {lv : List (Nat × Value)} {rest : List Value} {σ : Sg} {N : Nat} {k : (Int32 × Sg) → Option α} {p0 : Int32} {p1 : Int32} (hlink : Cond.methodLink mi.1 index yX8_places ∈ lwG) (hroom : 5 + 1 ≤ mi.2.2.2.2) (hcat : (rest.map fun v => v.category).sum ≤ 8) (hd : decode mi.2.1 pc = .ok (.invokevirtual index, 3))  (h : ∀ w : Int32 × Sg, f_X8_places N p0 p1 σ = some w → RR en Ex mi ev (pc + 3) lv (.int w.1 :: rest) w.2 (k w)) : RR en Ex mi ev pc lv (.int p1 :: .int p0 :: .ref (ad en 21 0 0) :: rest) σ ((f_X8_places N p0 p1 σ).bind k) :=
  r_callV (n := 2) [.int p0, .int p1] ok_X8_places hlink (in_lwG (by decide +kernel) rfl) (in_lwG (by decide +kernel) rfl) (by decide +kernel) rfl hroom (by decide) o21 rfl rfl hcat (R_X8_places en N p0 p1  σ) (Nat.le_of_ble_eq_true rfl) hd h
set_option maxHeartbeats 4000000 in
theorem R_X8_put (en : En) (N : Nat) (p0 : Int32) (p1 : Int32) (p2 : Int32)  (σ : Sg) : RR en ExT mi_X8_put evI 0 [(0, .ref (ad en 21 0 0)), (1, .int p0), (2, .int p1), (3, .int p2)] [] σ (f_X8_put N p0 p1 p2 σ) := by
  unfold f_X8_put
  refine r_aload_n (pc := 0) 0 dX8_put_0 rfl rfl ?_
  refine r_iconst (pc := 1) dX8_put_1 kc_iconst_0 ?_
  refine p_X8_thrown (pc := 2)  lf_RX8_81 dX8_put_2 ?_
  refine r_iload_n (pc := 5) 1 dX8_put_5 rfl rfl ?_
  refine k_X8_isText (pc := 6) lm_RX8_113  (by decide) (Nat.le_of_ble_eq_true rfl) dX8_put_6 (fun w1 h1 => ?_)
  refine r_if_ne (pc := 9) 14 dX8_put_9 (by decide) (fun h2 => ?_) (fun h2 => ?_)
  · refine r_iconst (pc := 12) dX8_put_12 kc_iconst_m1 ?_
    exact r_iret (pc := 13) rfl dX8_put_13
  · refine r_aload_n (pc := 14) 0 dX8_put_14 rfl rfl ?_
    refine g_X8_byteSize (pc := 15)  lf_RX8_22 dX8_put_15 ?_
    refine r_iload_n (pc := 18) 1 dX8_put_18 rfl rfl ?_
    refine r_iald (pc := 19) (n := 4) o22_9 rfl dX8_put_19 (fun h3 => ?_)
    refine r_if_ge (pc := 20) 29 dX8_put_20 (by decide) (fun h4 => ?_) (fun h4 => ?_)
    · refine r_iload_n (pc := 29) 2 dX8_put_29 rfl rfl ?_
      refine r_iconst (pc := 30) dX8_put_30 kc_iconst_0 ?_
      refine r_aload_n (pc := 31) 0 dX8_put_31 rfl rfl ?_
      refine g_X8_byteSize (pc := 32)  lf_RX8_22 dX8_put_32 ?_
      refine r_iload_n (pc := 35) 1 dX8_put_35 rfl rfl ?_
      refine r_iald (pc := 36) (n := 4) o22_9 rfl dX8_put_36 (fun h5 => ?_)
      refine r_iconst (pc := 37) dX8_put_37 kc_iconst_1 ?_
      refine r_isub (pc := 38) dX8_put_38 ?_
      refine k_X8_in (pc := 39) lm_RX8_91  (by decide) (Nat.le_of_ble_eq_true rfl) dX8_put_39 (fun w2 h6 => ?_)
      refine r_if_ne (pc := 42) 51 dX8_put_42 (by decide) (fun h7 => ?_) (fun h7 => ?_)
      · refine r_aload_n (pc := 45) 0 dX8_put_45 rfl rfl ?_
        refine r_iconst (pc := 46) dX8_put_46 kc_iconst_2 ?_
        refine k_X8_found (pc := 47) lm_RX8_99  (by decide) (Nat.le_of_ble_eq_true rfl) dX8_put_47 (fun w3 h8 => ?_)
        exact r_iret (pc := 50) rfl dX8_put_50
      · refine r_aload_n (pc := 51) 0 dX8_put_51 rfl rfl ?_
        refine g_X8_bytes (pc := 52)  lf_RX8_19 dX8_put_52 ?_
        refine r_bipush (pc := 55) dX8_put_55 kc_bipush_60 ?_
        refine r_iload_n (pc := 57) 1 dX8_put_57 rfl rfl ?_
        refine r_imul (pc := 58) dX8_put_58 ?_
        refine r_iload_n (pc := 59) 2 dX8_put_59 rfl rfl ?_
        refine r_iadd (pc := 60) dX8_put_60 ?_
        refine r_iald (pc := 61) (n := 240) o22_8 rfl dX8_put_61 (fun h9 => ?_)
        refine r_istore (pc := 62) [(4, .int (rI w2.2 22 8 0 (((60 : Int32) * p0) + p1).toNatClampNeg)), (0, .ref (ad en 21 0 0)), (1, .int p0), (2, .int p1), (3, .int p2)] dX8_put_62 (by decide) rfl ?_
        refine r_aload_n (pc := 64) 1 dX8_put_64 rfl rfl ?_
        refine g_X8_bytes (pc := 65)  lf_RX8_19 dX8_put_65 ?_
        refine r_bipush (pc := 68) dX8_put_68 kc_bipush_60 ?_
        refine r_iload_n (pc := 70) 2 dX8_put_70 rfl rfl ?_
        refine r_imul (pc := 71) dX8_put_71 ?_
        refine r_iload_n (pc := 72) 3 dX8_put_72 rfl rfl ?_
        refine r_iadd (pc := 73) dX8_put_73 ?_
        refine r_iload_n (pc := 74) 4 dX8_put_74 rfl rfl ?_
        refine r_i2b (pc := 75) dX8_put_75 ?_
        refine r_iast (pc := 76) (n := 240) o22_8 rfl rfl dX8_put_76 (fun h10 => ?_)
        refine r_iload (pc := 77) 0 dX8_put_77 rfl ?_
        refine r_sipush (pc := 79) dX8_put_79 kc_sipush_1000 ?_
        refine r_iadd (pc := 82) dX8_put_82 ?_
        exact r_iret (pc := 83) rfl dX8_put_83
    · refine r_aload_n (pc := 23) 0 dX8_put_23 rfl rfl ?_
      refine r_iconst (pc := 24) dX8_put_24 kc_iconst_1 ?_
      refine k_X8_found (pc := 25) lm_RX8_99  (by decide) (Nat.le_of_ble_eq_true rfl) dX8_put_25 (fun w4 h11 => ?_)
      exact r_iret (pc := 28) rfl dX8_put_28
theorem ok_X8_put : yOk yX8_put cX8_put 5 (some .int) := ⟨in_lwG (by decide +kernel) rfl, in_lwG (by decide +kernel) rfl, by decide, by decide, by decide⟩
theorem k_X8_put {en : En} {Ex : (Nat → Prop) → State → Prop} {mi : Mi} {α : Type} {ev : α → Option Value × Sg} {pc index : Nat} {lv : List (Nat × Value)} {rest : List Value} {σ : Sg} {N : Nat} {k : (Int32 × Sg) → Option α} {p0 : Int32} {p1 : Int32} {p2 : Int32} (hlink : Cond.methodLink mi.1 index yX8_put ∈ lwG) (hroom : 3 + 1 ≤ mi.2.2.2.2) (hcat : (rest.map fun v => v.category).sum ≤ 8) (hd : decode mi.2.1 pc = .ok (.invokevirtual index, 3))  (h : ∀ w : Int32 × Sg, f_X8_put N p0 p1 p2 σ = some w → RR en Ex mi ev (pc + 3) lv (.int w.1 :: rest) w.2 (k w)) : RR en Ex mi ev pc lv (.int p2 :: .int p1 :: .int p0 :: .ref (ad en 21 0 0) :: rest) σ ((f_X8_put N p0 p1 p2 σ).bind k) :=
  r_callV (n := 3) [.int p0, .int p1, .int p2] ok_X8_put hlink (in_lwG (by decide +kernel) rfl) (in_lwG (by decide +kernel) rfl) (by decide +kernel) rfl hroom (by decide) o21 rfl rfl hcat (R_X8_put en N p0 p1 p2  σ) (Nat.le_of_ble_eq_true rfl) hd h
set_option maxHeartbeats 4000000 in
theorem R_X8_shifts (en : En) (N : Nat) (p0 : Int32) (p1 : Int32)  (σ : Sg) : RR en ExT mi_X8_shifts evI 0 [(0, .ref (ad en 21 0 0)), (1, .int p0), (2, .int p1)] [] σ (f_X8_shifts N p0 p1 σ) := by
  unfold f_X8_shifts
  refine r_aload_n (pc := 0) 0 dX8_shifts_0 rfl rfl ?_
  refine r_iload_n (pc := 1) 1 dX8_shifts_1 rfl rfl ?_
  refine k_X8_isPane (pc := 2) lm_RX8_188  (by decide) (Nat.le_of_ble_eq_true rfl) dX8_shifts_2 (fun w1 h1 => ?_)
  refine r_if_ne (pc := 5) 10 dX8_shifts_5 (by decide) (fun h2 => ?_) (fun h2 => ?_)
  · refine r_iconst (pc := 8) dX8_shifts_8 kc_iconst_m1 ?_
    exact r_iret (pc := 9) rfl dX8_shifts_9
  · refine r_aload_n (pc := 10) 0 dX8_shifts_10 rfl rfl ?_
    refine r_iload_n (pc := 11) 1 dX8_shifts_11 rfl rfl ?_
    refine k_X8_placeOf (pc := 12) lm_RX8_179  (by decide) (Nat.le_of_ble_eq_true rfl) dX8_shifts_12 (fun w2 h3 => ?_)
    refine r_istore_n (pc := 15) [(3, .int w2.1), (0, .ref (ad en 21 0 0)), (1, .int p0), (2, .int p1)] dX8_shifts_15 rfl (by decide) rfl ?_
    refine r_iload_n (pc := 16) 0 dX8_shifts_16 rfl rfl ?_
    refine r_iload_n (pc := 17) 3 dX8_shifts_17 rfl rfl ?_
    refine r_icmp_ne (pc := 18) 24 dX8_shifts_18 (by decide) (fun h4 => ?_) (fun h4 => ?_)
    · refine r_bipush (pc := 21) dX8_shifts_21 kc_bipush_m4 ?_
      exact r_iret (pc := 23) rfl dX8_shifts_23
    · refine r_aload_n (pc := 24) 1 dX8_shifts_24 rfl rfl ?_
      refine g_X8_deeds (pc := 25)  lf_RX8_146 dX8_shifts_25 ?_
      refine r_bipush (pc := 28) dX8_shifts_28 kc_bipush_40 ?_
      refine r_icmp_ne (pc := 30) 36 dX8_shifts_30 (by decide) (fun h5 => ?_) (fun h5 => ?_)
      · refine r_bipush (pc := 33) dX8_shifts_33 kc_bipush_m2 ?_
        exact r_iret (pc := 35) rfl dX8_shifts_35
      · refine r_aload_n (pc := 36) 1 dX8_shifts_36 rfl rfl ?_
        refine k_X8_notes (pc := 37) lm_RX8_200  (by decide) (Nat.le_of_ble_eq_true rfl) dX8_shifts_37 (fun w3 h6 => ?_)
        refine r_aload_n (pc := 40) 1 dX8_shifts_40 rfl rfl ?_
        refine r_aload_n (pc := 41) 1 dX8_shifts_41 rfl rfl ?_
        refine g_X8_s (pc := 42)  lf_RX8_34 dX8_shifts_42 ?_
        refine r_iload_n (pc := 45) 0 dX8_shifts_45 rfl rfl ?_
        refine r_iload_n (pc := 46) 3 dX8_shifts_46 rfl rfl ?_
        refine k_X8_comesTo (pc := 47) lm_RX8_203  (by decide) (Nat.le_of_ble_eq_true rfl) dX8_shifts_47 o22_14 (fun w4 h7 => ?_)
        refine r_iload_n (pc := 50) 0 dX8_shifts_50 rfl rfl ?_
        exact r_iret (pc := 51) rfl dX8_shifts_51
theorem ok_X8_shifts : yOk yX8_shifts cX8_shifts 4 (some .int) := ⟨in_lwG (by decide +kernel) rfl, in_lwG (by decide +kernel) rfl, by decide, by decide, by decide⟩
theorem k_X8_shifts {en : En} {Ex : (Nat → Prop) → State → Prop} {mi : Mi} {α : Type} {ev : α → Option Value × Sg} {pc index : Nat} {lv : List (Nat × Value)} {rest : List Value} {σ : Sg} {N : Nat} {k : (Int32 × Sg) → Option α} {p0 : Int32} {p1 : Int32} (hlink : Cond.methodLink mi.1 index yX8_shifts ∈ lwG) (hroom : 3 + 1 ≤ mi.2.2.2.2) (hcat : (rest.map fun v => v.category).sum ≤ 8) (hd : decode mi.2.1 pc = .ok (.invokevirtual index, 3))  (h : ∀ w : Int32 × Sg, f_X8_shifts N p0 p1 σ = some w → RR en Ex mi ev (pc + 3) lv (.int w.1 :: rest) w.2 (k w)) : RR en Ex mi ev pc lv (.int p1 :: .int p0 :: .ref (ad en 21 0 0) :: rest) σ ((f_X8_shifts N p0 p1 σ).bind k) :=
  r_callV (n := 2) [.int p0, .int p1] ok_X8_shifts hlink (in_lwG (by decide +kernel) rfl) (in_lwG (by decide +kernel) rfl) (by decide +kernel) rfl hroom (by decide) o21 rfl rfl hcat (R_X8_shifts en N p0 p1  σ) (Nat.le_of_ble_eq_true rfl) hd h
set_option maxHeartbeats 4000000 in
theorem R_X8_raise (en : En) (N : Nat) (p0 : Int32)  (σ : Sg) : RR en ExT mi_X8_raise evI 0 [(0, .ref (ad en 21 0 0)), (1, .int p0)] [] σ (f_X8_raise N p0 σ) := by
  unfold f_X8_raise
  refine r_aload_n (pc := 0) 0 dX8_raise_0 rfl rfl ?_
  refine r_iconst (pc := 1) dX8_raise_1 kc_iconst_0 ?_
  refine p_X8_thrown (pc := 2)  lf_RX8_81 dX8_raise_2 ?_
  refine r_aload_n (pc := 5) 0 dX8_raise_5 rfl rfl ?_
  refine r_iload_n (pc := 6) 1 dX8_raise_6 rfl rfl ?_
  refine r_aload_n (pc := 7) 0 dX8_raise_7 rfl rfl ?_
  refine g_X8_panes (pc := 8)  lf_RX8_143 dX8_raise_8 ?_
  refine r_iconst (pc := 11) dX8_raise_11 kc_iconst_1 ?_
  refine r_isub (pc := 12) dX8_raise_12 ?_
  refine k_X8_shifts (pc := 13) lm_RX8_207  (by decide) (Nat.le_of_ble_eq_true rfl) dX8_raise_13 (fun w1 h1 => ?_)
  exact r_iret (pc := 16) rfl dX8_raise_16
theorem ok_X8_raise : yOk yX8_raise cX8_raise 2 (some .int) := ⟨in_lwG (by decide +kernel) rfl, in_lwG (by decide +kernel) rfl, by decide, by decide, by decide⟩
theorem k_X8_raise {en : En} {Ex : (Nat → Prop) → State → Prop} {mi : Mi} {α : Type} {ev : α → Option Value × Sg} {pc index : Nat} {lv : List (Nat × Value)} {rest : List Value} {σ : Sg} {N : Nat} {k : (Int32 × Sg) → Option α} {p0 : Int32} (hlink : Cond.methodLink mi.1 index yX8_raise ∈ lwG) (hroom : 4 + 1 ≤ mi.2.2.2.2) (hcat : (rest.map fun v => v.category).sum ≤ 8) (hd : decode mi.2.1 pc = .ok (.invokevirtual index, 3))  (h : ∀ w : Int32 × Sg, f_X8_raise N p0 σ = some w → RR en Ex mi ev (pc + 3) lv (.int w.1 :: rest) w.2 (k w)) : RR en Ex mi ev pc lv (.int p0 :: .ref (ad en 21 0 0) :: rest) σ ((f_X8_raise N p0 σ).bind k) :=
  r_callV (n := 1) [.int p0] ok_X8_raise hlink (in_lwG (by decide +kernel) rfl) (in_lwG (by decide +kernel) rfl) (by decide +kernel) rfl hroom (by decide) o21 rfl rfl hcat (R_X8_raise en N p0  σ) (Nat.le_of_ble_eq_true rfl) hd h
set_option maxHeartbeats 4000000 in
theorem RL_X8_row_39 (en : En) (N : Nat) {k : Int32 → Sg → Option (Int32 × Sg)} (a1 : Int32) (a2 : Int32)  (hk : ∀ (v3 : Int32) (σ : Sg), RR en ExT mi_X8_row evI 62 [(2, .int a2)] [] σ (k v3 σ)) : ∀ (n : Nat) (v3 : Int32) (σ : Sg), RR en ExT mi_X8_row evI 39 [(0, .ref (ad en 21 0 0)), (1, .int a1), (2, .int a2), (3, .int v3)] [] σ (L_X8_row_39 N k a1 a2 n v3 σ) := by
  intro n
  induction n with
  | zero => intro v3 σ; exact r_none
  | succ n ih =>
    intro v3 σ
    rw [L_X8_row_39_s]
    refine r_iload_n (pc := 39) 3 dX8_row_39 rfl rfl ?_
    refine r_iload_n (pc := 40) 2 dX8_row_40 rfl rfl ?_
    refine r_icmp_ge (pc := 41) 62 dX8_row_41 (by decide) (fun h6 => ?_) (fun h6 => ?_)
    · exact r_sub [2] rfl (hk v3 σ)
    · refine r_aload_n (pc := 44) 0 dX8_row_44 rfl rfl ?_
      refine g_X8_rows (pc := 45)  lf_RX8_13 dX8_row_45 ?_
      refine r_bipush (pc := 48) dX8_row_48 kc_bipush_40 ?_
      refine r_iload_n (pc := 50) 1 dX8_row_50 rfl rfl ?_
      refine r_imul (pc := 51) dX8_row_51 ?_
      refine r_iload_n (pc := 52) 3 dX8_row_52 rfl rfl ?_
      refine r_iadd (pc := 53) dX8_row_53 ?_
      refine r_iconst (pc := 54) dX8_row_54 kc_iconst_0 ?_
      refine r_iast (pc := 55) (n := 240) o22_6 rfl rfl dX8_row_55 (fun h7 => ?_)
      refine r_iinc (pc := 56) 3 [(3, .int (v3 + (1 : Int32))), (0, .ref (ad en 21 0 0)), (1, .int a1), (2, .int a2)] dX8_row_56 rfl rfl (by decide) rfl ?_
      refine r_goto (pc := 59) 39 dX8_row_59 (by decide) ?_
      exact r_sub [1, 2, 3, 0] rfl (ih (v3 + (1 : Int32)) (uI σ 22 6 0 (((40 : Int32) * a1) + v3).toNatClampNeg (0 : Int32)))
set_option maxHeartbeats 4000000 in
theorem R_X8_row (en : En) (N : Nat) (p0 : Int32) (p1 : Int32)  (σ : Sg) : RR en ExT mi_X8_row evI 0 [(0, .ref (ad en 21 0 0)), (1, .int p0), (2, .int p1)] [] σ (f_X8_row N p0 p1 σ) := by
  unfold f_X8_row
  refine r_aload_n (pc := 0) 0 dX8_row_0 rfl rfl ?_
  refine r_iconst (pc := 1) dX8_row_1 kc_iconst_0 ?_
  refine p_X8_thrown (pc := 2)  lf_RX8_81 dX8_row_2 ?_
  refine r_iload_n (pc := 5) 1 dX8_row_5 rfl rfl ?_
  refine k_X8_isRow (pc := 6) lm_RX8_95  (by decide) (Nat.le_of_ble_eq_true rfl) dX8_row_6 (fun w1 h1 => ?_)
  refine r_if_eq (pc := 9) 18 dX8_row_9 (by decide) (fun h2 => ?_) (fun h2 => ?_)
  · refine r_iconst (pc := 18) dX8_row_18 kc_iconst_m1 ?_
    exact r_iret (pc := 19) rfl dX8_row_19
  · refine r_iload_n (pc := 12) 2 dX8_row_12 rfl rfl ?_
    refine r_bipush (pc := 13) dX8_row_13 kc_bipush_40 ?_
    refine r_icmp_le (pc := 15) 20 dX8_row_15 (by decide) (fun h3 => ?_) (fun h3 => ?_)
    · refine r_iload_n (pc := 20) 2 dX8_row_20 rfl rfl ?_
      refine r_if_ge (pc := 21) 30 dX8_row_21 (by decide) (fun h4 => ?_) (fun h4 => ?_)
      · refine r_aload_n (pc := 30) 0 dX8_row_30 rfl rfl ?_
        refine g_X8_rowSize (pc := 31)  lf_RX8_16 dX8_row_31 ?_
        refine r_iload_n (pc := 34) 1 dX8_row_34 rfl rfl ?_
        refine r_iload_n (pc := 35) 2 dX8_row_35 rfl rfl ?_
        refine r_iast (pc := 36) (n := 6) o22_7 rfl rfl dX8_row_36 (fun h5 => ?_)
        refine r_iconst (pc := 37) dX8_row_37 kc_iconst_0 ?_
        refine r_istore_n (pc := 38) [(3, .int (0 : Int32)), (0, .ref (ad en 21 0 0)), (1, .int p0), (2, .int p1)] dX8_row_38 rfl (by decide) rfl ?_
        refine r_sub [1, 2, 3, 0] rfl (RL_X8_row_39 en N p0 p1  (fun v3_2 σ_2 => ?_) N (0 : Int32) (uI w1.2 22 7 0 p0.toNatClampNeg p1))
        refine r_iload_n (pc := 62) 0 dX8_row_62 rfl rfl ?_
        exact r_iret (pc := 63) rfl dX8_row_63
      · refine r_aload_n (pc := 24) 0 dX8_row_24 rfl rfl ?_
        refine r_iconst (pc := 25) dX8_row_25 kc_iconst_5 ?_
        refine k_X8_found (pc := 26) lm_RX8_99  (by decide) (Nat.le_of_ble_eq_true rfl) dX8_row_26 (fun w3 h8 => ?_)
        exact r_iret (pc := 29) rfl dX8_row_29
    · refine r_iconst (pc := 18) dX8_row_18 kc_iconst_m1 ?_
      exact r_iret (pc := 19) rfl dX8_row_19
theorem ok_X8_row : yOk yX8_row cX8_row 4 (some .int) := ⟨in_lwG (by decide +kernel) rfl, in_lwG (by decide +kernel) rfl, by decide, by decide, by decide⟩
theorem k_X8_row {en : En} {Ex : (Nat → Prop) → State → Prop} {mi : Mi} {α : Type} {ev : α → Option Value × Sg} {pc index : Nat} {lv : List (Nat × Value)} {rest : List Value} {σ : Sg} {N : Nat} {k : (Int32 × Sg) → Option α} {p0 : Int32} {p1 : Int32} (hlink : Cond.methodLink mi.1 index yX8_row ∈ lwG) (hroom : 3 + 1 ≤ mi.2.2.2.2) (hcat : (rest.map fun v => v.category).sum ≤ 8) (hd : decode mi.2.1 pc = .ok (.invokevirtual index, 3))  (h : ∀ w : Int32 × Sg, f_X8_row N p0 p1 σ = some w → RR en Ex mi ev (pc + 3) lv (.int w.1 :: rest) w.2 (k w)) : RR en Ex mi ev pc lv (.int p1 :: .int p0 :: .ref (ad en 21 0 0) :: rest) σ ((f_X8_row N p0 p1 σ).bind k) :=
  r_callV (n := 2) [.int p0, .int p1] ok_X8_row hlink (in_lwG (by decide +kernel) rfl) (in_lwG (by decide +kernel) rfl) (by decide +kernel) rfl hroom (by decide) o21 rfl rfl hcat (R_X8_row en N p0 p1  σ) (Nat.le_of_ble_eq_true rfl) hd h
set_option maxHeartbeats 4000000 in
theorem RL_X8_screen_52 (en : En) (N : Nat) {k : Int32 → Sg → Option (Int32 × Sg)}   (hk : ∀ (v2 : Int32) (σ : Sg), RR en ExT mi_X8_screen evI 205 [(0, .ref (ad en 21 0 0))] [] σ (k v2 σ)) : ∀ (n : Nat) (v2 : Int32) (σ : Sg), RR en ExT mi_X8_screen evI 52 [(0, .ref (ad en 21 0 0)), (2, .int v2)] [] σ (L_X8_screen_52 N k  n v2 σ) := by
  intro n
  induction n with
  | zero => intro v2 σ; exact r_none
  | succ n ih =>
    intro v2 σ
    rw [L_X8_screen_52_s]
    refine r_iload_n (pc := 52) 1 dX8_screen_52 rfl rfl ?_
    refine r_bipush (pc := 53) dX8_screen_53 kc_bipush_7 ?_
    refine r_icmp_ge (pc := 55) 205 dX8_screen_55 (by decide) (fun h7 => ?_) (fun h7 => ?_)
    · exact r_sub [0] rfl (hk v2 σ)
    · refine r_iload_n (pc := 58) 1 dX8_screen_58 rfl rfl ?_
      refine r_aload_n (pc := 59) 0 dX8_screen_59 rfl rfl ?_
      refine g_X8_panes (pc := 60)  lf_RX8_143 dX8_screen_60 ?_
      refine r_icmp_ge (pc := 63) 70 dX8_screen_63 (by decide) (fun h8 => ?_) (fun h8 => ?_)
      · refine r_iconst (pc := 70) dX8_screen_70 kc_iconst_0 ?_
        refine r_istore_n (pc := 71) [(3, .int (0 : Int32)), (0, .ref (ad en 21 0 0)), (2, .int v2)] dX8_screen_71 rfl (by decide) rfl ?_
        refine r_aload_n (pc := 72) 1 dX8_screen_72 rfl rfl ?_
        refine g_X8_kind (pc := 73)  lf_RX8_25 dX8_screen_73 ?_
        refine r_iload_n (pc := 76) 2 dX8_screen_76 rfl rfl ?_
        refine r_iload_n (pc := 77) 0 dX8_screen_77 rfl rfl ?_
        refine r_if_eq_t (pc := 78) 90 dX8_screen_78 (by decide) (by decide) ?_
        refine r_iconst (pc := 90) dX8_screen_90 kc_iconst_0 ?_
        refine r_iast (pc := 91) (n := 7) o22_11 rfl rfl dX8_screen_91 (fun h9 => ?_)
        refine r_aload_n (pc := 92) 1 dX8_screen_92 rfl rfl ?_
        refine g_X8_s (pc := 93)  lf_RX8_34 dX8_screen_93 ?_
        refine r_iconst (pc := 96) dX8_screen_96 kc_iconst_0 ?_
        refine r_iload_n (pc := 97) 2 dX8_screen_97 rfl rfl ?_
        refine r_iadd (pc := 98) dX8_screen_98 ?_
        refine r_iload_n (pc := 99) 0 dX8_screen_99 rfl rfl ?_
        refine r_if_eq_t (pc := 100) 115 dX8_screen_100 (by decide) (by decide) ?_
        refine r_iconst (pc := 115) dX8_screen_115 kc_iconst_0 ?_
        refine r_iast (pc := 116) (n := 22) o22_14 rfl rfl dX8_screen_116 (fun h10 => ?_)
        refine r_aload_n (pc := 117) 1 dX8_screen_117 rfl rfl ?_
        refine g_X8_s (pc := 118)  lf_RX8_34 dX8_screen_118 ?_
        refine r_bipush (pc := 121) dX8_screen_121 kc_bipush_7 ?_
        refine r_iload_n (pc := 123) 2 dX8_screen_123 rfl rfl ?_
        refine r_iadd (pc := 124) dX8_screen_124 ?_
        refine r_iload_n (pc := 125) 0 dX8_screen_125 rfl rfl ?_
        refine r_if_eq_t (pc := 126) 141 dX8_screen_126 (by decide) (by decide) ?_
        refine r_iconst (pc := 141) dX8_screen_141 kc_iconst_0 ?_
        refine r_iast (pc := 142) (n := 22) o22_14 rfl rfl dX8_screen_142 (fun h11 => ?_)
        refine r_aload_n (pc := 143) 1 dX8_screen_143 rfl rfl ?_
        refine g_X8_wide (pc := 144)  lf_RX8_28 dX8_screen_144 ?_
        refine r_iload_n (pc := 147) 2 dX8_screen_147 rfl rfl ?_
        refine r_iload_n (pc := 148) 0 dX8_screen_148 rfl rfl ?_
        refine r_if_eq_t (pc := 149) 164 dX8_screen_149 (by decide) (by decide) ?_
        refine r_iconst (pc := 164) dX8_screen_164 kc_iconst_0 ?_
        refine r_iast (pc := 165) (n := 7) o22_12 rfl rfl dX8_screen_165 (fun h12 => ?_)
        refine r_aload_n (pc := 166) 1 dX8_screen_166 rfl rfl ?_
        refine g_X8_high (pc := 167)  lf_RX8_31 dX8_screen_167 ?_
        refine r_iload_n (pc := 170) 2 dX8_screen_170 rfl rfl ?_
        refine r_iload_n (pc := 171) 0 dX8_screen_171 rfl rfl ?_
        refine r_if_eq_t (pc := 172) 187 dX8_screen_172 (by decide) (by decide) ?_
        refine r_iconst (pc := 187) dX8_screen_187 kc_iconst_0 ?_
        refine r_iast (pc := 188) (n := 7) o22_13 rfl rfl dX8_screen_188 (fun h13 => ?_)
        refine r_aload_n (pc := 189) 1 dX8_screen_189 rfl rfl ?_
        refine g_X8_s (pc := 190)  lf_RX8_34 dX8_screen_190 ?_
        refine r_bipush (pc := 193) dX8_screen_193 kc_bipush_14 ?_
        refine r_iload_n (pc := 195) 2 dX8_screen_195 rfl rfl ?_
        refine r_iadd (pc := 196) dX8_screen_196 ?_
        refine r_iload_n (pc := 197) 2 dX8_screen_197 rfl rfl ?_
        refine r_iast (pc := 198) (n := 22) o22_14 rfl rfl dX8_screen_198 (fun h14 => ?_)
        refine r_iinc (pc := 199) 2 [(2, .int (v2 + (1 : Int32))), (3, .int (0 : Int32)), (0, .ref (ad en 21 0 0))] dX8_screen_199 rfl rfl (by decide) rfl ?_
        refine r_goto (pc := 202) 52 dX8_screen_202 (by decide) ?_
        exact r_sub [2, 0] rfl (ih (v2 + (1 : Int32)) (uI (uI (uI (uI (uI (uI σ 22 11 0 v2.toNatClampNeg (0 : Int32)) 22 14 0 ((0 : Int32) + v2).toNatClampNeg (0 : Int32)) 22 14 0 ((7 : Int32) + v2).toNatClampNeg (0 : Int32)) 22 12 0 v2.toNatClampNeg (0 : Int32)) 22 13 0 v2.toNatClampNeg (0 : Int32)) 22 14 0 ((14 : Int32) + v2).toNatClampNeg v2))
      · refine r_iconst (pc := 66) dX8_screen_66 kc_iconst_1 ?_
        refine r_goto (pc := 67) 71 dX8_screen_67 (by decide) ?_
        refine r_istore_n (pc := 71) [(3, .int (1 : Int32)), (0, .ref (ad en 21 0 0)), (2, .int v2)] dX8_screen_71 rfl (by decide) rfl ?_
        refine r_aload_n (pc := 72) 1 dX8_screen_72 rfl rfl ?_
        refine g_X8_kind (pc := 73)  lf_RX8_25 dX8_screen_73 ?_
        refine r_iload_n (pc := 76) 2 dX8_screen_76 rfl rfl ?_
        refine r_iload_n (pc := 77) 0 dX8_screen_77 rfl rfl ?_
        refine r_if_eq_f (pc := 78) 90 dX8_screen_78 (by decide) (by decide) ?_
        refine r_aload_n (pc := 81) 1 dX8_screen_81 rfl rfl ?_
        refine g_X8_told (pc := 82)  lf_RX8_71 dX8_screen_82 ?_
        refine r_iload_n (pc := 85) 2 dX8_screen_85 rfl rfl ?_
        refine r_iald (pc := 86) (n := 35) o22_31 rfl dX8_screen_86 (fun h15 => ?_)
        refine r_goto (pc := 87) 91 dX8_screen_87 (by decide) ?_
        refine r_iast (pc := 91) (n := 7) o22_11 rfl rfl dX8_screen_91 (fun h16 => ?_)
        refine r_aload_n (pc := 92) 1 dX8_screen_92 rfl rfl ?_
        refine g_X8_s (pc := 93)  lf_RX8_34 dX8_screen_93 ?_
        refine r_iconst (pc := 96) dX8_screen_96 kc_iconst_0 ?_
        refine r_iload_n (pc := 97) 2 dX8_screen_97 rfl rfl ?_
        refine r_iadd (pc := 98) dX8_screen_98 ?_
        refine r_iload_n (pc := 99) 0 dX8_screen_99 rfl rfl ?_
        refine r_if_eq_f (pc := 100) 115 dX8_screen_100 (by decide) (by decide) ?_
        refine r_aload_n (pc := 103) 1 dX8_screen_103 rfl rfl ?_
        refine g_X8_told (pc := 104)  lf_RX8_71 dX8_screen_104 ?_
        refine r_bipush (pc := 107) dX8_screen_107 kc_bipush_7 ?_
        refine r_iload_n (pc := 109) 2 dX8_screen_109 rfl rfl ?_
        refine r_iadd (pc := 110) dX8_screen_110 ?_
        refine r_iald (pc := 111) (n := 35) o22_31 rfl dX8_screen_111 (fun h17 => ?_)
        refine r_goto (pc := 112) 116 dX8_screen_112 (by decide) ?_
        refine r_iast (pc := 116) (n := 22) o22_14 rfl rfl dX8_screen_116 (fun h18 => ?_)
        refine r_aload_n (pc := 117) 1 dX8_screen_117 rfl rfl ?_
        refine g_X8_s (pc := 118)  lf_RX8_34 dX8_screen_118 ?_
        refine r_bipush (pc := 121) dX8_screen_121 kc_bipush_7 ?_
        refine r_iload_n (pc := 123) 2 dX8_screen_123 rfl rfl ?_
        refine r_iadd (pc := 124) dX8_screen_124 ?_
        refine r_iload_n (pc := 125) 0 dX8_screen_125 rfl rfl ?_
        refine r_if_eq_f (pc := 126) 141 dX8_screen_126 (by decide) (by decide) ?_
        refine r_aload_n (pc := 129) 1 dX8_screen_129 rfl rfl ?_
        refine g_X8_told (pc := 130)  lf_RX8_71 dX8_screen_130 ?_
        refine r_bipush (pc := 133) dX8_screen_133 kc_bipush_14 ?_
        refine r_iload_n (pc := 135) 2 dX8_screen_135 rfl rfl ?_
        refine r_iadd (pc := 136) dX8_screen_136 ?_
        refine r_iald (pc := 137) (n := 35) o22_31 rfl dX8_screen_137 (fun h19 => ?_)
        refine r_goto (pc := 138) 142 dX8_screen_138 (by decide) ?_
        refine r_iast (pc := 142) (n := 22) o22_14 rfl rfl dX8_screen_142 (fun h20 => ?_)
        refine r_aload_n (pc := 143) 1 dX8_screen_143 rfl rfl ?_
        refine g_X8_wide (pc := 144)  lf_RX8_28 dX8_screen_144 ?_
        refine r_iload_n (pc := 147) 2 dX8_screen_147 rfl rfl ?_
        refine r_iload_n (pc := 148) 0 dX8_screen_148 rfl rfl ?_
        refine r_if_eq_f (pc := 149) 164 dX8_screen_149 (by decide) (by decide) ?_
        refine r_aload_n (pc := 152) 1 dX8_screen_152 rfl rfl ?_
        refine g_X8_told (pc := 153)  lf_RX8_71 dX8_screen_153 ?_
        refine r_bipush (pc := 156) dX8_screen_156 kc_bipush_21 ?_
        refine r_iload_n (pc := 158) 2 dX8_screen_158 rfl rfl ?_
        refine r_iadd (pc := 159) dX8_screen_159 ?_
        refine r_iald (pc := 160) (n := 35) o22_31 rfl dX8_screen_160 (fun h21 => ?_)
        refine r_goto (pc := 161) 165 dX8_screen_161 (by decide) ?_
        refine r_iast (pc := 165) (n := 7) o22_12 rfl rfl dX8_screen_165 (fun h22 => ?_)
        refine r_aload_n (pc := 166) 1 dX8_screen_166 rfl rfl ?_
        refine g_X8_high (pc := 167)  lf_RX8_31 dX8_screen_167 ?_
        refine r_iload_n (pc := 170) 2 dX8_screen_170 rfl rfl ?_
        refine r_iload_n (pc := 171) 0 dX8_screen_171 rfl rfl ?_
        refine r_if_eq_f (pc := 172) 187 dX8_screen_172 (by decide) (by decide) ?_
        refine r_aload_n (pc := 175) 1 dX8_screen_175 rfl rfl ?_
        refine g_X8_told (pc := 176)  lf_RX8_71 dX8_screen_176 ?_
        refine r_bipush (pc := 179) dX8_screen_179 kc_bipush_28 ?_
        refine r_iload_n (pc := 181) 2 dX8_screen_181 rfl rfl ?_
        refine r_iadd (pc := 182) dX8_screen_182 ?_
        refine r_iald (pc := 183) (n := 35) o22_31 rfl dX8_screen_183 (fun h23 => ?_)
        refine r_goto (pc := 184) 188 dX8_screen_184 (by decide) ?_
        refine r_iast (pc := 188) (n := 7) o22_13 rfl rfl dX8_screen_188 (fun h24 => ?_)
        refine r_aload_n (pc := 189) 1 dX8_screen_189 rfl rfl ?_
        refine g_X8_s (pc := 190)  lf_RX8_34 dX8_screen_190 ?_
        refine r_bipush (pc := 193) dX8_screen_193 kc_bipush_14 ?_
        refine r_iload_n (pc := 195) 2 dX8_screen_195 rfl rfl ?_
        refine r_iadd (pc := 196) dX8_screen_196 ?_
        refine r_iload_n (pc := 197) 2 dX8_screen_197 rfl rfl ?_
        refine r_iast (pc := 198) (n := 22) o22_14 rfl rfl dX8_screen_198 (fun h25 => ?_)
        refine r_iinc (pc := 199) 2 [(2, .int (v2 + (1 : Int32))), (3, .int (1 : Int32)), (0, .ref (ad en 21 0 0))] dX8_screen_199 rfl rfl (by decide) rfl ?_
        refine r_goto (pc := 202) 52 dX8_screen_202 (by decide) ?_
        exact r_sub [2, 0] rfl (ih (v2 + (1 : Int32)) (uI (uI (uI (uI (uI (uI σ 22 11 0 v2.toNatClampNeg (rI σ 22 31 0 v2.toNatClampNeg)) 22 14 0 ((0 : Int32) + v2).toNatClampNeg (rI (uI σ 22 11 0 v2.toNatClampNeg (rI σ 22 31 0 v2.toNatClampNeg)) 22 31 0 ((7 : Int32) + v2).toNatClampNeg)) 22 14 0 ((7 : Int32) + v2).toNatClampNeg (rI (uI (uI σ 22 11 0 v2.toNatClampNeg (rI σ 22 31 0 v2.toNatClampNeg)) 22 14 0 ((0 : Int32) + v2).toNatClampNeg (rI (uI σ 22 11 0 v2.toNatClampNeg (rI σ 22 31 0 v2.toNatClampNeg)) 22 31 0 ((7 : Int32) + v2).toNatClampNeg)) 22 31 0 ((14 : Int32) + v2).toNatClampNeg)) 22 12 0 v2.toNatClampNeg (rI (uI (uI (uI σ 22 11 0 v2.toNatClampNeg (rI σ 22 31 0 v2.toNatClampNeg)) 22 14 0 ((0 : Int32) + v2).toNatClampNeg (rI (uI σ 22 11 0 v2.toNatClampNeg (rI σ 22 31 0 v2.toNatClampNeg)) 22 31 0 ((7 : Int32) + v2).toNatClampNeg)) 22 14 0 ((7 : Int32) + v2).toNatClampNeg (rI (uI (uI σ 22 11 0 v2.toNatClampNeg (rI σ 22 31 0 v2.toNatClampNeg)) 22 14 0 ((0 : Int32) + v2).toNatClampNeg (rI (uI σ 22 11 0 v2.toNatClampNeg (rI σ 22 31 0 v2.toNatClampNeg)) 22 31 0 ((7 : Int32) + v2).toNatClampNeg)) 22 31 0 ((14 : Int32) + v2).toNatClampNeg)) 22 31 0 ((21 : Int32) + v2).toNatClampNeg)) 22 13 0 v2.toNatClampNeg (rI (uI (uI (uI (uI σ 22 11 0 v2.toNatClampNeg (rI σ 22 31 0 v2.toNatClampNeg)) 22 14 0 ((0 : Int32) + v2).toNatClampNeg (rI (uI σ 22 11 0 v2.toNatClampNeg (rI σ 22 31 0 v2.toNatClampNeg)) 22 31 0 ((7 : Int32) + v2).toNatClampNeg)) 22 14 0 ((7 : Int32) + v2).toNatClampNeg (rI (uI (uI σ 22 11 0 v2.toNatClampNeg (rI σ 22 31 0 v2.toNatClampNeg)) 22 14 0 ((0 : Int32) + v2).toNatClampNeg (rI (uI σ 22 11 0 v2.toNatClampNeg (rI σ 22 31 0 v2.toNatClampNeg)) 22 31 0 ((7 : Int32) + v2).toNatClampNeg)) 22 31 0 ((14 : Int32) + v2).toNatClampNeg)) 22 12 0 v2.toNatClampNeg (rI (uI (uI (uI σ 22 11 0 v2.toNatClampNeg (rI σ 22 31 0 v2.toNatClampNeg)) 22 14 0 ((0 : Int32) + v2).toNatClampNeg (rI (uI σ 22 11 0 v2.toNatClampNeg (rI σ 22 31 0 v2.toNatClampNeg)) 22 31 0 ((7 : Int32) + v2).toNatClampNeg)) 22 14 0 ((7 : Int32) + v2).toNatClampNeg (rI (uI (uI σ 22 11 0 v2.toNatClampNeg (rI σ 22 31 0 v2.toNatClampNeg)) 22 14 0 ((0 : Int32) + v2).toNatClampNeg (rI (uI σ 22 11 0 v2.toNatClampNeg (rI σ 22 31 0 v2.toNatClampNeg)) 22 31 0 ((7 : Int32) + v2).toNatClampNeg)) 22 31 0 ((14 : Int32) + v2).toNatClampNeg)) 22 31 0 ((21 : Int32) + v2).toNatClampNeg)) 22 31 0 ((28 : Int32) + v2).toNatClampNeg)) 22 14 0 ((14 : Int32) + v2).toNatClampNeg v2))
set_option maxHeartbeats 4000000 in
theorem RL_X8_screen_227 (en : En) (N : Nat) {k : Int32 → Sg → Option (Int32 × Sg)}   (hk : ∀ (v2 : Int32) (σ : Sg), RR en ExT mi_X8_screen evI 245 [(0, .ref (ad en 21 0 0))] [] σ (k v2 σ)) : ∀ (n : Nat) (v2 : Int32) (σ : Sg), RR en ExT mi_X8_screen evI 227 [(0, .ref (ad en 21 0 0)), (2, .int v2)] [] σ (L_X8_screen_227 N k  n v2 σ) := by
  intro n
  induction n with
  | zero => intro v2 σ; exact r_none
  | succ n ih =>
    intro v2 σ
    rw [L_X8_screen_227_s]
    refine r_iload_n (pc := 227) 1 dX8_screen_227 rfl rfl ?_
    refine r_iconst (pc := 228) dX8_screen_228 kc_iconst_3 ?_
    refine r_icmp_ge (pc := 229) 245 dX8_screen_229 (by decide) (fun h27 => ?_) (fun h27 => ?_)
    · exact r_sub [0] rfl (hk v2 σ)
    · refine r_aload_n (pc := 232) 0 dX8_screen_232 rfl rfl ?_
      refine g_X8_keptDeeds (pc := 233)  lf_RX8_46 dX8_screen_233 ?_
      refine r_iload_n (pc := 236) 1 dX8_screen_236 rfl rfl ?_
      refine r_iconst (pc := 237) dX8_screen_237 kc_iconst_m1 ?_
      refine r_iast (pc := 238) (n := 3) o22_19 rfl rfl dX8_screen_238 (fun h28 => ?_)
      refine r_iinc (pc := 239) 1 [(2, .int (v2 + (1 : Int32))), (0, .ref (ad en 21 0 0))] dX8_screen_239 rfl rfl (by decide) rfl ?_
      refine r_goto (pc := 242) 227 dX8_screen_242 (by decide) ?_
      exact r_sub [1, 0] rfl (ih (v2 + (1 : Int32)) (uI σ 22 19 0 v2.toNatClampNeg (-1 : Int32)))
set_option maxHeartbeats 4000000 in
theorem R_X8_screen (en : En) (N : Nat) (p0 : Int32)  (σ : Sg) : RR en ExT mi_X8_screen evI 0 [(0, .ref (ad en 21 0 0)), (1, .int p0)] [] σ (f_X8_screen N p0 σ) := by
  unfold f_X8_screen
  refine r_aload_n (pc := 0) 0 dX8_screen_0 rfl rfl ?_
  refine r_iconst (pc := 1) dX8_screen_1 kc_iconst_0 ?_
  refine p_X8_thrown (pc := 2)  lf_RX8_81 dX8_screen_2 ?_
  refine r_iload_n (pc := 5) 1 dX8_screen_5 rfl rfl ?_
  refine k_X8_isText (pc := 6) lm_RX8_113  (by decide) (Nat.le_of_ble_eq_true rfl) dX8_screen_6 (fun w1 h1 => ?_)
  refine r_if_ne (pc := 9) 14 dX8_screen_9 (by decide) (fun h2 => ?_) (fun h2 => ?_)
  · refine r_iconst (pc := 12) dX8_screen_12 kc_iconst_m1 ?_
    exact r_iret (pc := 13) rfl dX8_screen_13
  · refine r_aload_n (pc := 14) 0 dX8_screen_14 rfl rfl ?_
    refine g_X8_byteSize (pc := 15)  lf_RX8_22 dX8_screen_15 ?_
    refine r_iload_n (pc := 18) 1 dX8_screen_18 rfl rfl ?_
    refine r_iald (pc := 19) (n := 4) o22_9 rfl dX8_screen_19 (fun h3 => ?_)
    refine r_if_ge (pc := 20) 29 dX8_screen_20 (by decide) (fun h4 => ?_) (fun h4 => ?_)
    · refine r_aload_n (pc := 29) 0 dX8_screen_29 rfl rfl ?_
      refine r_iload_n (pc := 30) 1 dX8_screen_30 rfl rfl ?_
      refine k_X8_reads (pc := 31) lm_RX8_140  (by decide) (Nat.le_of_ble_eq_true rfl) dX8_screen_31 (fun w2 h5 => ?_)
      refine r_bipush (pc := 34) dX8_screen_34 kc_bipush_m9 ?_
      refine r_icmp_eq (pc := 36) 42 dX8_screen_36 (by decide) (fun h6 => ?_) (fun h6 => ?_)
      · refine r_aload_n (pc := 42) 0 dX8_screen_42 rfl rfl ?_
        refine r_aload_n (pc := 43) 0 dX8_screen_43 rfl rfl ?_
        refine g_X8_manyTold (pc := 44)  lf_RX8_128 dX8_screen_44 ?_
        refine p_X8_panes (pc := 47)  lf_RX8_143 dX8_screen_47 ?_
        refine r_iconst (pc := 50) dX8_screen_50 kc_iconst_0 ?_
        refine r_istore_n (pc := 51) [(2, .int (0 : Int32)), (0, .ref (ad en 21 0 0)), (1, .int p0)] dX8_screen_51 rfl (by decide) rfl ?_
        refine r_sub [1, 0] rfl (RL_X8_screen_52 en N   (fun v2_3 σ_3 => ?_) N (0 : Int32) (uI w2.2 21 0 0 10 (rI w2.2 21 0 0 30)))
        refine r_aload_n (pc := 205) 0 dX8_screen_205 rfl rfl ?_
        refine g_X8_s (pc := 206)  lf_RX8_34 dX8_screen_206 ?_
        refine r_bipush (pc := 209) dX8_screen_209 kc_bipush_21 ?_
        refine r_iconst (pc := 211) dX8_screen_211 kc_iconst_1 ?_
        refine r_aload_n (pc := 212) 0 dX8_screen_212 rfl rfl ?_
        refine g_X8_panes (pc := 213)  lf_RX8_143 dX8_screen_213 ?_
        refine r_ishl (pc := 216) dX8_screen_216 ?_
        refine r_iconst (pc := 217) dX8_screen_217 kc_iconst_1 ?_
        refine r_isub (pc := 218) dX8_screen_218 ?_
        refine r_iast (pc := 219) (n := 22) o22_14 rfl rfl dX8_screen_219 (fun h26 => ?_)
        refine r_aload_n (pc := 220) 0 dX8_screen_220 rfl rfl ?_
        refine r_iconst (pc := 221) dX8_screen_221 kc_iconst_0 ?_
        refine p_X8_deeds (pc := 222)  lf_RX8_146 dX8_screen_222 ?_
        refine r_iconst (pc := 225) dX8_screen_225 kc_iconst_0 ?_
        refine r_istore_n (pc := 226) [(2, .int (0 : Int32)), (0, .ref (ad en 21 0 0))] dX8_screen_226 rfl (by decide) rfl ?_
        refine r_sub [1, 0] rfl (RL_X8_screen_227 en N   (fun v2_4 σ_4 => ?_) N (0 : Int32) (uI (uI σ_3 22 14 0 (21 : Int32).toNatClampNeg (((1 : Int32) <<< ((rI σ_3 21 0 0 10) &&& 31)) - (1 : Int32))) 21 0 0 16 (0 : Int32)))
        refine r_aload_n (pc := 245) 0 dX8_screen_245 rfl rfl ?_
        refine g_X8_panes (pc := 246)  lf_RX8_143 dX8_screen_246 ?_
        exact r_iret (pc := 249) rfl dX8_screen_249
      · refine r_bipush (pc := 39) dX8_screen_39 kc_bipush_m4 ?_
        exact r_iret (pc := 41) rfl dX8_screen_41
    · refine r_aload_n (pc := 23) 0 dX8_screen_23 rfl rfl ?_
      refine r_iconst (pc := 24) dX8_screen_24 kc_iconst_1 ?_
      refine k_X8_found (pc := 25) lm_RX8_99  (by decide) (Nat.le_of_ble_eq_true rfl) dX8_screen_25 (fun w5 h29 => ?_)
      exact r_iret (pc := 28) rfl dX8_screen_28
theorem ok_X8_screen : yOk yX8_screen cX8_screen 4 (some .int) := ⟨in_lwG (by decide +kernel) rfl, in_lwG (by decide +kernel) rfl, by decide, by decide, by decide⟩
theorem k_X8_screen {en : En} {Ex : (Nat → Prop) → State → Prop} {mi : Mi} {α : Type} {ev : α → Option Value × Sg} {pc index : Nat} {lv : List (Nat × Value)} {rest : List Value} {σ : Sg} {N : Nat} {k : (Int32 × Sg) → Option α} {p0 : Int32} (hlink : Cond.methodLink mi.1 index yX8_screen ∈ lwG) (hroom : 4 + 1 ≤ mi.2.2.2.2) (hcat : (rest.map fun v => v.category).sum ≤ 8) (hd : decode mi.2.1 pc = .ok (.invokevirtual index, 3))  (h : ∀ w : Int32 × Sg, f_X8_screen N p0 σ = some w → RR en Ex mi ev (pc + 3) lv (.int w.1 :: rest) w.2 (k w)) : RR en Ex mi ev pc lv (.int p0 :: .ref (ad en 21 0 0) :: rest) σ ((f_X8_screen N p0 σ).bind k) :=
  r_callV (n := 1) [.int p0] ok_X8_screen hlink (in_lwG (by decide +kernel) rfl) (in_lwG (by decide +kernel) rfl) (by decide +kernel) rfl hroom (by decide) o21 rfl rfl hcat (R_X8_screen en N p0  σ) (Nat.le_of_ble_eq_true rfl) hd h
set_option maxHeartbeats 4000000 in
theorem RL_X8_seen_39 (en : En) (N : Nat) {k : Int32 → Int32 → Sg → Option (Int32 × Sg)} (a1 : Int32) (a2 : Int32)  (hk : ∀ (v3 : Int32) (v4 : Int32) (σ : Sg), RR en ExT mi_X8_seen evI 87 [(0, .ref (ad en 21 0 0)), (2, .int a2), (3, .int v3)] [] σ (k v3 v4 σ)) : ∀ (n : Nat) (v3 : Int32) (v4 : Int32) (σ : Sg), RR en ExT mi_X8_seen evI 39 [(0, .ref (ad en 21 0 0)), (1, .int a1), (2, .int a2), (3, .int v3), (4, .int v4)] [] σ (L_X8_seen_39 N k a1 a2 n v3 v4 σ) := by
  intro n
  induction n with
  | zero => intro v3 v4 σ; exact r_none
  | succ n ih =>
    intro v3 v4 σ
    rw [L_X8_seen_39_s]
    refine r_iload (pc := 39) 4 dX8_seen_39 rfl ?_
    refine r_aload_n (pc := 41) 0 dX8_seen_41 rfl rfl ?_
    refine g_X8_panes (pc := 42)  lf_RX8_143 dX8_seen_42 ?_
    refine r_icmp_ge (pc := 45) 87 dX8_seen_45 (by decide) (fun h6 => ?_) (fun h6 => ?_)
    · exact r_sub [0, 2, 3] rfl (hk v3 v4 σ)
    · refine r_iload_n (pc := 48) 3 dX8_seen_48 rfl rfl ?_
      refine r_aload_n (pc := 49) 0 dX8_seen_49 rfl rfl ?_
      refine g_X8_s (pc := 50)  lf_RX8_34 dX8_seen_50 ?_
      refine r_bipush (pc := 53) dX8_seen_53 kc_bipush_21 ?_
      refine r_iald (pc := 55) (n := 22) o22_14 rfl dX8_seen_55 (fun h7 => ?_)
      refine r_iload (pc := 56) 4 dX8_seen_56 rfl ?_
      refine k_X8_has (pc := 58) lm_RX8_157  (by decide) (Nat.le_of_ble_eq_true rfl) dX8_seen_58 (fun w4 h8 => ?_)
      refine r_if_eq (pc := 61) 78 dX8_seen_61 (by decide) (fun h9 => ?_) (fun h9 => ?_)
      · refine r_iconst (pc := 78) dX8_seen_78 kc_iconst_0 ?_
        refine r_iadd (pc := 79) dX8_seen_79 ?_
        refine r_istore_n (pc := 80) [(3, .int (v3 + (0 : Int32))), (0, .ref (ad en 21 0 0)), (1, .int a1), (2, .int a2), (4, .int v4)] dX8_seen_80 rfl (by decide) rfl ?_
        refine r_iinc (pc := 81) 4 [(4, .int (v4 + (1 : Int32))), (3, .int (v3 + (0 : Int32))), (0, .ref (ad en 21 0 0)), (1, .int a1), (2, .int a2)] dX8_seen_81 rfl rfl (by decide) rfl ?_
        refine r_goto (pc := 84) 39 dX8_seen_84 (by decide) ?_
        exact r_sub [2, 3, 4, 1, 0] rfl (ih (v3 + (0 : Int32)) (v4 + (1 : Int32)) w4.2)
      · refine r_aload_n (pc := 64) 0 dX8_seen_64 rfl rfl ?_
        refine r_iload (pc := 65) 4 dX8_seen_65 rfl ?_
        refine r_iload_n (pc := 67) 1 dX8_seen_67 rfl rfl ?_
        refine k_X8_isCoverAt (pc := 68) lm_RX8_216  (by decide) (Nat.le_of_ble_eq_true rfl) dX8_seen_68 (fun w5 h10 => ?_)
        refine r_if_eq (pc := 71) 78 dX8_seen_71 (by decide) (fun h11 => ?_) (fun h11 => ?_)
        · refine r_iconst (pc := 78) dX8_seen_78 kc_iconst_0 ?_
          refine r_iadd (pc := 79) dX8_seen_79 ?_
          refine r_istore_n (pc := 80) [(3, .int (v3 + (0 : Int32))), (0, .ref (ad en 21 0 0)), (1, .int a1), (2, .int a2), (4, .int v4)] dX8_seen_80 rfl (by decide) rfl ?_
          refine r_iinc (pc := 81) 4 [(4, .int (v4 + (1 : Int32))), (3, .int (v3 + (0 : Int32))), (0, .ref (ad en 21 0 0)), (1, .int a1), (2, .int a2)] dX8_seen_81 rfl rfl (by decide) rfl ?_
          refine r_goto (pc := 84) 39 dX8_seen_84 (by decide) ?_
          exact r_sub [2, 3, 4, 1, 0] rfl (ih (v3 + (0 : Int32)) (v4 + (1 : Int32)) w5.2)
        · refine r_iconst (pc := 74) dX8_seen_74 kc_iconst_1 ?_
          refine r_goto (pc := 75) 79 dX8_seen_75 (by decide) ?_
          refine r_iadd (pc := 79) dX8_seen_79 ?_
          refine r_istore_n (pc := 80) [(3, .int (v3 + (1 : Int32))), (0, .ref (ad en 21 0 0)), (1, .int a1), (2, .int a2), (4, .int v4)] dX8_seen_80 rfl (by decide) rfl ?_
          refine r_iinc (pc := 81) 4 [(4, .int (v4 + (1 : Int32))), (3, .int (v3 + (1 : Int32))), (0, .ref (ad en 21 0 0)), (1, .int a1), (2, .int a2)] dX8_seen_81 rfl rfl (by decide) rfl ?_
          refine r_goto (pc := 84) 39 dX8_seen_84 (by decide) ?_
          exact r_sub [2, 3, 4, 1, 0] rfl (ih (v3 + (1 : Int32)) (v4 + (1 : Int32)) w5.2)
set_option maxHeartbeats 4000000 in
theorem R_X8_seen (en : En) (N : Nat) (p0 : Int32)  (σ : Sg) : RR en ExT mi_X8_seen evI 0 [(0, .ref (ad en 21 0 0)), (1, .int p0)] [] σ (f_X8_seen N p0 σ) := by
  unfold f_X8_seen
  refine r_aload_n (pc := 0) 0 dX8_seen_0 rfl rfl ?_
  refine r_iconst (pc := 1) dX8_seen_1 kc_iconst_0 ?_
  refine p_X8_thrown (pc := 2)  lf_RX8_81 dX8_seen_2 ?_
  refine r_iload_n (pc := 5) 1 dX8_seen_5 rfl rfl ?_
  refine r_iconst (pc := 6) dX8_seen_6 kc_iconst_0 ?_
  refine r_bipush (pc := 7) dX8_seen_7 kc_bipush_95 ?_
  refine k_X8_in (pc := 9) lm_RX8_91  (by decide) (Nat.le_of_ble_eq_true rfl) dX8_seen_9 (fun w1 h1 => ?_)
  refine r_if_ne (pc := 12) 17 dX8_seen_12 (by decide) (fun h2 => ?_) (fun h2 => ?_)
  · refine r_iconst (pc := 15) dX8_seen_15 kc_iconst_m1 ?_
    exact r_iret (pc := 16) rfl dX8_seen_16
  · refine r_aload_n (pc := 17) 0 dX8_seen_17 rfl rfl ?_
    refine k_X8_sees (pc := 18) lm_RX8_182  (by decide) (Nat.le_of_ble_eq_true rfl) dX8_seen_18 (fun w2 h3 => ?_)
    refine r_aload_n (pc := 21) 0 dX8_seen_21 rfl rfl ?_
    refine r_iload_n (pc := 22) 1 dX8_seen_22 rfl rfl ?_
    refine k_X8_whoAt (pc := 23) lm_RX8_213  (by decide) (Nat.le_of_ble_eq_true rfl) dX8_seen_23 (fun w3 h4 => ?_)
    refine r_istore_n (pc := 26) [(2, .int w3.1), (0, .ref (ad en 21 0 0)), (1, .int p0)] dX8_seen_26 rfl (by decide) rfl ?_
    refine r_iload_n (pc := 27) 0 dX8_seen_27 rfl rfl ?_
    refine r_if_ge (pc := 28) 34 dX8_seen_28 (by decide) (fun h5 => ?_) (fun h5 => ?_)
    · refine r_iconst (pc := 34) dX8_seen_34 kc_iconst_0 ?_
      refine r_istore_n (pc := 35) [(3, .int (0 : Int32)), (2, .int w3.1), (0, .ref (ad en 21 0 0)), (1, .int p0)] dX8_seen_35 rfl (by decide) rfl ?_
      refine r_iconst (pc := 36) dX8_seen_36 kc_iconst_0 ?_
      refine r_istore (pc := 37) [(4, .int (0 : Int32)), (3, .int (0 : Int32)), (2, .int w3.1), (0, .ref (ad en 21 0 0)), (1, .int p0)] dX8_seen_37 (by decide) rfl ?_
      refine r_sub [3, 4, 2, 1, 0] rfl (RL_X8_seen_39 en N p0 w3.1  (fun v3_6 v4_6 σ_6 => ?_) N (0 : Int32) (0 : Int32) w3.2)
      refine r_aload_n (pc := 87) 0 dX8_seen_87 rfl rfl ?_
      refine r_iload_n (pc := 88) 1 dX8_seen_88 rfl rfl ?_
      refine r_iload_n (pc := 89) 2 dX8_seen_89 rfl rfl ?_
      refine k_X8_tells (pc := 90) lm_RX8_107  (by decide) (Nat.le_of_ble_eq_true rfl) dX8_seen_90 (fun w7 h12 => ?_)
      exact r_iret (pc := 93) rfl dX8_seen_93
    · refine r_bipush (pc := 31) dX8_seen_31 kc_bipush_m9 ?_
      exact r_iret (pc := 33) rfl dX8_seen_33
theorem ok_X8_seen : yOk yX8_seen cX8_seen 5 (some .int) := ⟨in_lwG (by decide +kernel) rfl, in_lwG (by decide +kernel) rfl, by decide, by decide, by decide⟩
theorem k_X8_seen {en : En} {Ex : (Nat → Prop) → State → Prop} {mi : Mi} {α : Type} {ev : α → Option Value × Sg} {pc index : Nat} {lv : List (Nat × Value)} {rest : List Value} {σ : Sg} {N : Nat} {k : (Int32 × Sg) → Option α} {p0 : Int32} (hlink : Cond.methodLink mi.1 index yX8_seen ∈ lwG) (hroom : 6 + 1 ≤ mi.2.2.2.2) (hcat : (rest.map fun v => v.category).sum ≤ 8) (hd : decode mi.2.1 pc = .ok (.invokevirtual index, 3))  (h : ∀ w : Int32 × Sg, f_X8_seen N p0 σ = some w → RR en Ex mi ev (pc + 3) lv (.int w.1 :: rest) w.2 (k w)) : RR en Ex mi ev pc lv (.int p0 :: .ref (ad en 21 0 0) :: rest) σ ((f_X8_seen N p0 σ).bind k) :=
  r_callV (n := 1) [.int p0] ok_X8_seen hlink (in_lwG (by decide +kernel) rfl) (in_lwG (by decide +kernel) rfl) (by decide +kernel) rfl hroom (by decide) o21 rfl rfl hcat (R_X8_seen en N p0  σ) (Nat.le_of_ble_eq_true rfl) hd h
set_option maxHeartbeats 4000000 in
theorem RL_X8_shift_45 (en : En) (N : Nat) {k : Int32 → Int32 → Int32 → Sg → Option (Int32 × Sg)} (a1 : Int32) (a5 : Int32)  (hk : ∀ (v3 : Int32) (v4 : Int32) (v6 : Int32) (σ : Sg), RR en ExT mi_X8_shift evI 167 [(0, .ref (ad en 21 0 0)), (1, .int a1), (3, .int v3), (4, .int v4), (5, .int a5)] [] σ (k v3 v4 v6 σ)) : ∀ (n : Nat) (v3 : Int32) (v4 : Int32) (v6 : Int32) (σ : Sg), RR en ExT mi_X8_shift evI 45 [(0, .ref (ad en 21 0 0)), (1, .int a1), (3, .int v3), (4, .int v4), (5, .int a5), (6, .int v6)] [] σ (L_X8_shift_45 N k a1 a5 n v3 v4 v6 σ) := by
  intro n
  induction n with
  | zero => intro v3 v4 v6 σ; exact r_none
  | succ n ih =>
    intro v3 v4 v6 σ
    rw [L_X8_shift_45_s]
    refine r_iload (pc := 45) 5 dX8_shift_45 rfl ?_
    refine r_iconst (pc := 47) dX8_shift_47 kc_iconst_4 ?_
    refine r_icmp_ge (pc := 48) 167 dX8_shift_48 (by decide) (fun h6 => ?_) (fun h6 => ?_)
    · exact r_sub [0, 1, 2, 3, 4] rfl (hk v3 v4 v6 σ)
    · refine r_aload_n (pc := 51) 0 dX8_shift_51 rfl rfl ?_
      refine r_iload_n (pc := 52) 1 dX8_shift_52 rfl rfl ?_
      refine r_iload (pc := 53) 4 dX8_shift_53 rfl ?_
      refine r_iload (pc := 55) 5 dX8_shift_55 rfl ?_
      refine k_X8_isOn (pc := 57) lm_RX8_210  (by decide) (Nat.le_of_ble_eq_true rfl) dX8_shift_57 (fun w4 h7 => ?_)
      refine r_if_eq (pc := 60) 161 dX8_shift_60 (by decide) (fun h8 => ?_) (fun h8 => ?_)
      · refine r_iinc (pc := 161) 5 [(6, .int (v6 + (1 : Int32))), (0, .ref (ad en 21 0 0)), (1, .int a1), (3, .int v3), (4, .int v4), (5, .int a5)] dX8_shift_161 rfl rfl (by decide) rfl ?_
        refine r_goto (pc := 164) 45 dX8_shift_164 (by decide) ?_
        exact r_sub [1, 2, 3, 4, 5, 0] rfl (ih v3 v4 (v6 + (1 : Int32)) w4.2)
      · refine r_aload_n (pc := 63) 0 dX8_shift_63 rfl rfl ?_
        refine g_X8_w (pc := 64)  lf_RX8_52 dX8_shift_64 ?_
        refine r_iconst (pc := 67) dX8_shift_67 kc_iconst_0 ?_
        refine r_iload_n (pc := 68) 1 dX8_shift_68 rfl rfl ?_
        refine r_iadd (pc := 69) dX8_shift_69 ?_
        refine r_aload_n (pc := 70) 0 dX8_shift_70 rfl rfl ?_
        refine g_X8_s (pc := 71)  lf_RX8_34 dX8_shift_71 ?_
        refine r_iconst (pc := 74) dX8_shift_74 kc_iconst_0 ?_
        refine r_iload_n (pc := 75) 1 dX8_shift_75 rfl rfl ?_
        refine r_iadd (pc := 76) dX8_shift_76 ?_
        refine r_iald (pc := 77) (n := 22) o22_14 rfl dX8_shift_77 (fun h9 => ?_)
        refine r_iload (pc := 78) 4 dX8_shift_78 rfl ?_
        refine r_iadd (pc := 80) dX8_shift_80 ?_
        refine r_iast (pc := 81) (n := 22) o22_21 rfl rfl dX8_shift_81 (fun h10 => ?_)
        refine r_aload_n (pc := 82) 0 dX8_shift_82 rfl rfl ?_
        refine g_X8_w (pc := 83)  lf_RX8_52 dX8_shift_83 ?_
        refine r_bipush (pc := 86) dX8_shift_86 kc_bipush_7 ?_
        refine r_iload_n (pc := 88) 1 dX8_shift_88 rfl rfl ?_
        refine r_iadd (pc := 89) dX8_shift_89 ?_
        refine r_aload_n (pc := 90) 0 dX8_shift_90 rfl rfl ?_
        refine g_X8_s (pc := 91)  lf_RX8_34 dX8_shift_91 ?_
        refine r_bipush (pc := 94) dX8_shift_94 kc_bipush_7 ?_
        refine r_iload_n (pc := 96) 1 dX8_shift_96 rfl rfl ?_
        refine r_iadd (pc := 97) dX8_shift_97 ?_
        refine r_iald (pc := 98) (n := 22) o22_14 rfl dX8_shift_98 (fun h11 => ?_)
        refine r_iload (pc := 99) 5 dX8_shift_99 rfl ?_
        refine r_iadd (pc := 101) dX8_shift_101 ?_
        refine r_iast (pc := 102) (n := 22) o22_21 rfl rfl dX8_shift_102 (fun h12 => ?_)
        refine r_aload_n (pc := 103) 0 dX8_shift_103 rfl rfl ?_
        refine r_iload_n (pc := 104) 1 dX8_shift_104 rfl rfl ?_
        refine k_X8_covering (pc := 105) lm_RX8_153  (by decide) (Nat.le_of_ble_eq_true rfl) dX8_shift_105 (fun w5 h13 => ?_)
        refine r_aload_n (pc := 108) 0 dX8_shift_108 rfl rfl ?_
        refine k_X8_seeing (pc := 109) lm_RX8_169  (by decide) (Nat.le_of_ble_eq_true rfl) dX8_shift_109 (fun w6 h14 => ?_)
        refine r_aload_n (pc := 112) 0 dX8_shift_112 rfl rfl ?_
        refine r_iload_n (pc := 113) 1 dX8_shift_113 rfl rfl ?_
        refine k_X8_cellsOf (pc := 114) lm_RX8_185  (by decide) (Nat.le_of_ble_eq_true rfl) dX8_shift_114 (fun w7 h15 => ?_)
        refine r_iload (pc := 117) 3 dX8_shift_117 rfl ?_
        refine r_icmp_le (pc := 119) 137 dX8_shift_119 (by decide) (fun h16 => ?_) (fun h16 => ?_)
        · refine r_iload_n (pc := 137) 2 dX8_shift_137 rfl rfl ?_
          refine r_istore_n (pc := 138) [(3, .int v3), (0, .ref (ad en 21 0 0)), (1, .int a1), (4, .int v4), (5, .int a5), (6, .int v6)] dX8_shift_138 rfl (by decide) rfl ?_
          refine r_aload_n (pc := 139) 1 dX8_shift_139 rfl rfl ?_
          refine r_iload_n (pc := 140) 2 dX8_shift_140 rfl rfl ?_
          refine k_X8_cellsOf (pc := 141) lm_RX8_185  (by decide) (Nat.le_of_ble_eq_true rfl) dX8_shift_141 (fun w8 h17 => ?_)
          refine r_iload (pc := 144) 3 dX8_shift_144 rfl ?_
          refine r_icmp_le (pc := 146) 157 dX8_shift_146 (by decide) (fun h18 => ?_) (fun h18 => ?_)
          · refine r_iload (pc := 157) 3 dX8_shift_157 rfl ?_
            refine r_istore (pc := 159) [(4, .int v4), (3, .int v3), (0, .ref (ad en 21 0 0)), (1, .int a1), (5, .int a5), (6, .int v6)] dX8_shift_159 (by decide) rfl ?_
            refine r_iinc (pc := 161) 5 [(6, .int (v6 + (1 : Int32))), (4, .int v4), (3, .int v3), (0, .ref (ad en 21 0 0)), (1, .int a1), (5, .int a5)] dX8_shift_161 rfl rfl (by decide) rfl ?_
            refine r_goto (pc := 164) 45 dX8_shift_164 (by decide) ?_
            exact r_sub [3, 4, 2, 1, 5, 0] rfl (ih v3 v4 (v6 + (1 : Int32)) w8.2)
          · refine r_aload_n (pc := 149) 1 dX8_shift_149 rfl rfl ?_
            refine r_iload_n (pc := 150) 2 dX8_shift_150 rfl rfl ?_
            refine k_X8_cellsOf (pc := 151) lm_RX8_185  (by decide) (Nat.le_of_ble_eq_true rfl) dX8_shift_151 (fun w9 h19 => ?_)
            refine r_goto (pc := 154) 159 dX8_shift_154 (by decide) ?_
            refine r_istore (pc := 159) [(4, .int w9.1), (3, .int v3), (0, .ref (ad en 21 0 0)), (1, .int a1), (5, .int a5), (6, .int v6)] dX8_shift_159 (by decide) rfl ?_
            refine r_iinc (pc := 161) 5 [(6, .int (v6 + (1 : Int32))), (4, .int w9.1), (3, .int v3), (0, .ref (ad en 21 0 0)), (1, .int a1), (5, .int a5)] dX8_shift_161 rfl rfl (by decide) rfl ?_
            refine r_goto (pc := 164) 45 dX8_shift_164 (by decide) ?_
            exact r_sub [3, 4, 2, 1, 5, 0] rfl (ih v3 w9.1 (v6 + (1 : Int32)) w9.2)
        · refine r_bipush (pc := 122) dX8_shift_122 kc_bipush_10 ?_
          refine r_iconst (pc := 124) dX8_shift_124 kc_iconst_3 ?_
          refine r_iload (pc := 125) 4 dX8_shift_125 rfl ?_
          refine r_iadd (pc := 127) dX8_shift_127 ?_
          refine r_imul (pc := 128) dX8_shift_128 ?_
          refine r_iconst (pc := 129) dX8_shift_129 kc_iconst_3 ?_
          refine r_iadd (pc := 130) dX8_shift_130 ?_
          refine r_iload (pc := 131) 5 dX8_shift_131 rfl ?_
          refine r_iadd (pc := 133) dX8_shift_133 ?_
          refine r_goto (pc := 134) 138 dX8_shift_134 (by decide) ?_
          refine r_istore_n (pc := 138) [(3, .int ((((10 : Int32) * ((3 : Int32) + a5)) + (3 : Int32)) + v6)), (0, .ref (ad en 21 0 0)), (1, .int a1), (4, .int v4), (5, .int a5), (6, .int v6)] dX8_shift_138 rfl (by decide) rfl ?_
          refine r_aload_n (pc := 139) 1 dX8_shift_139 rfl rfl ?_
          refine r_iload_n (pc := 140) 2 dX8_shift_140 rfl rfl ?_
          refine k_X8_cellsOf (pc := 141) lm_RX8_185  (by decide) (Nat.le_of_ble_eq_true rfl) dX8_shift_141 (fun w10 h20 => ?_)
          refine r_iload (pc := 144) 3 dX8_shift_144 rfl ?_
          refine r_icmp_le (pc := 146) 157 dX8_shift_146 (by decide) (fun h21 => ?_) (fun h21 => ?_)
          · refine r_iload (pc := 157) 3 dX8_shift_157 rfl ?_
            refine r_istore (pc := 159) [(4, .int v4), (3, .int ((((10 : Int32) * ((3 : Int32) + a5)) + (3 : Int32)) + v6)), (0, .ref (ad en 21 0 0)), (1, .int a1), (5, .int a5), (6, .int v6)] dX8_shift_159 (by decide) rfl ?_
            refine r_iinc (pc := 161) 5 [(6, .int (v6 + (1 : Int32))), (4, .int v4), (3, .int ((((10 : Int32) * ((3 : Int32) + a5)) + (3 : Int32)) + v6)), (0, .ref (ad en 21 0 0)), (1, .int a1), (5, .int a5)] dX8_shift_161 rfl rfl (by decide) rfl ?_
            refine r_goto (pc := 164) 45 dX8_shift_164 (by decide) ?_
            exact r_sub [3, 4, 2, 1, 5, 0] rfl (ih ((((10 : Int32) * ((3 : Int32) + a5)) + (3 : Int32)) + v6) v4 (v6 + (1 : Int32)) w10.2)
          · refine r_aload_n (pc := 149) 1 dX8_shift_149 rfl rfl ?_
            refine r_iload_n (pc := 150) 2 dX8_shift_150 rfl rfl ?_
            refine k_X8_cellsOf (pc := 151) lm_RX8_185  (by decide) (Nat.le_of_ble_eq_true rfl) dX8_shift_151 (fun w11 h22 => ?_)
            refine r_goto (pc := 154) 159 dX8_shift_154 (by decide) ?_
            refine r_istore (pc := 159) [(4, .int w11.1), (3, .int ((((10 : Int32) * ((3 : Int32) + a5)) + (3 : Int32)) + v6)), (0, .ref (ad en 21 0 0)), (1, .int a1), (5, .int a5), (6, .int v6)] dX8_shift_159 (by decide) rfl ?_
            refine r_iinc (pc := 161) 5 [(6, .int (v6 + (1 : Int32))), (4, .int w11.1), (3, .int ((((10 : Int32) * ((3 : Int32) + a5)) + (3 : Int32)) + v6)), (0, .ref (ad en 21 0 0)), (1, .int a1), (5, .int a5)] dX8_shift_161 rfl rfl (by decide) rfl ?_
            refine r_goto (pc := 164) 45 dX8_shift_164 (by decide) ?_
            exact r_sub [3, 4, 2, 1, 5, 0] rfl (ih ((((10 : Int32) * ((3 : Int32) + a5)) + (3 : Int32)) + v6) w11.1 (v6 + (1 : Int32)) w11.2)
set_option maxHeartbeats 4000000 in
theorem RL_X8_shift_35 (en : En) (N : Nat) {k : Int32 → Int32 → Int32 → Sg → Option (Int32 × Sg)} (a1 : Int32)  (hk : ∀ (v3 : Int32) (v4 : Int32) (v5 : Int32) (σ : Sg), RR en ExT mi_X8_shift evI 173 [(0, .ref (ad en 21 0 0)), (3, .int v3), (4, .int v4)] [] σ (k v3 v4 v5 σ)) : ∀ (n : Nat) (v3 : Int32) (v4 : Int32) (v5 : Int32) (σ : Sg), RR en ExT mi_X8_shift evI 35 [(0, .ref (ad en 21 0 0)), (1, .int a1), (3, .int v3), (4, .int v4), (5, .int v5)] [] σ (L_X8_shift_35 N k a1 n v3 v4 v5 σ) := by
  intro n
  induction n with
  | zero => intro v3 v4 v5 σ; exact r_none
  | succ n ih =>
    intro v3 v4 v5 σ
    rw [L_X8_shift_35_s]
    refine r_iload (pc := 35) 4 dX8_shift_35 rfl ?_
    refine r_iconst (pc := 37) dX8_shift_37 kc_iconst_4 ?_
    refine r_icmp_ge (pc := 38) 173 dX8_shift_38 (by decide) (fun h5 => ?_) (fun h5 => ?_)
    · exact r_sub [0, 2, 3] rfl (hk v3 v4 v5 σ)
    · refine r_bipush (pc := 41) dX8_shift_41 kc_bipush_m3 ?_
      refine r_istore (pc := 43) [(6, .int (-3 : Int32)), (0, .ref (ad en 21 0 0)), (1, .int a1), (3, .int v3), (4, .int v4), (5, .int v5)] dX8_shift_43 (by decide) rfl ?_
      refine r_sub [1, 2, 3, 4, 5, 0] rfl (RL_X8_shift_45 en N a1 v5  (fun v3_12 v4_12 v6_12 σ_12 => ?_) N v3 v4 (-3 : Int32) σ)
      refine r_iinc (pc := 167) 4 [(5, .int (v5 + (1 : Int32))), (0, .ref (ad en 21 0 0)), (1, .int a1), (3, .int v3_12), (4, .int v4_12)] dX8_shift_167 rfl rfl (by decide) rfl ?_
      refine r_goto (pc := 170) 35 dX8_shift_170 (by decide) ?_
      exact r_sub [1, 2, 3, 4, 0] rfl (ih v3_12 v4_12 (v5 + (1 : Int32)) σ_12)
set_option maxHeartbeats 4000000 in
theorem R_X8_shift (en : En) (N : Nat) (p0 : Int32)  (σ : Sg) : RR en ExT mi_X8_shift evI 0 [(0, .ref (ad en 21 0 0)), (1, .int p0)] [] σ (f_X8_shift N p0 σ) := by
  unfold f_X8_shift
  refine r_aload_n (pc := 0) 0 dX8_shift_0 rfl rfl ?_
  refine r_iconst (pc := 1) dX8_shift_1 kc_iconst_0 ?_
  refine p_X8_thrown (pc := 2)  lf_RX8_81 dX8_shift_2 ?_
  refine r_aload_n (pc := 5) 0 dX8_shift_5 rfl rfl ?_
  refine r_iload_n (pc := 6) 1 dX8_shift_6 rfl rfl ?_
  refine k_X8_againstOpen (pc := 7) lm_RX8_226  (by decide) (Nat.le_of_ble_eq_true rfl) dX8_shift_7 (fun w1 h1 => ?_)
  refine r_istore_n (pc := 10) [(2, .int w1.1), (0, .ref (ad en 21 0 0)), (1, .int p0)] dX8_shift_10 rfl (by decide) rfl ?_
  refine r_iload_n (pc := 11) 0 dX8_shift_11 rfl rfl ?_
  refine r_if_eq (pc := 12) 17 dX8_shift_12 (by decide) (fun h2 => ?_) (fun h2 => ?_)
  · refine r_aload_n (pc := 17) 1 dX8_shift_17 rfl rfl ?_
    refine k_X8_asNow (pc := 18) lm_RX8_163  (by decide) (Nat.le_of_ble_eq_true rfl) dX8_shift_18 (fun w2 h3 => ?_)
    refine r_aload_n (pc := 21) 1 dX8_shift_21 rfl rfl ?_
    refine k_X8_coveringAll (pc := 22) lm_RX8_166  (by decide) (Nat.le_of_ble_eq_true rfl) dX8_shift_22 (fun w3 h4 => ?_)
    refine r_bipush (pc := 25) dX8_shift_25 kc_bipush_m9 ?_
    refine r_istore_n (pc := 27) [(3, .int (-9 : Int32)), (2, .int w1.1), (0, .ref (ad en 21 0 0)), (1, .int p0)] dX8_shift_27 rfl (by decide) rfl ?_
    refine r_iconst (pc := 28) dX8_shift_28 kc_iconst_m1 ?_
    refine r_istore (pc := 29) [(4, .int (-1 : Int32)), (3, .int (-9 : Int32)), (2, .int w1.1), (0, .ref (ad en 21 0 0)), (1, .int p0)] dX8_shift_29 (by decide) rfl ?_
    refine r_bipush (pc := 31) dX8_shift_31 kc_bipush_m3 ?_
    refine r_istore (pc := 33) [(5, .int (-3 : Int32)), (4, .int (-1 : Int32)), (3, .int (-9 : Int32)), (2, .int w1.1), (0, .ref (ad en 21 0 0)), (1, .int p0)] dX8_shift_33 (by decide) rfl ?_
    refine r_sub [4, 5, 2, 1, 0] rfl (RL_X8_shift_35 en N p0  (fun v3_13 v4_13 v5_13 σ_13 => ?_) N (-9 : Int32) (-1 : Int32) (-3 : Int32) w3)
    refine r_aload_n (pc := 173) 0 dX8_shift_173 rfl rfl ?_
    refine r_iload_n (pc := 174) 1 dX8_shift_174 rfl rfl ?_
    refine r_iload (pc := 175) 2 dX8_shift_175 rfl ?_
    refine k_X8_tells (pc := 177) lm_RX8_107  (by decide) (Nat.le_of_ble_eq_true rfl) dX8_shift_177 (fun w14 h23 => ?_)
    exact r_iret (pc := 180) rfl dX8_shift_180
  · refine r_iload_n (pc := 15) 0 dX8_shift_15 rfl rfl ?_
    exact r_iret (pc := 16) rfl dX8_shift_16
theorem ok_X8_shift : yOk yX8_shift cX8_shift 7 (some .int) := ⟨in_lwG (by decide +kernel) rfl, in_lwG (by decide +kernel) rfl, by decide, by decide, by decide⟩
theorem k_X8_shift {en : En} {Ex : (Nat → Prop) → State → Prop} {mi : Mi} {α : Type} {ev : α → Option Value × Sg} {pc index : Nat} {lv : List (Nat × Value)} {rest : List Value} {σ : Sg} {N : Nat} {k : (Int32 × Sg) → Option α} {p0 : Int32} (hlink : Cond.methodLink mi.1 index yX8_shift ∈ lwG) (hroom : 5 + 1 ≤ mi.2.2.2.2) (hcat : (rest.map fun v => v.category).sum ≤ 8) (hd : decode mi.2.1 pc = .ok (.invokevirtual index, 3))  (h : ∀ w : Int32 × Sg, f_X8_shift N p0 σ = some w → RR en Ex mi ev (pc + 3) lv (.int w.1 :: rest) w.2 (k w)) : RR en Ex mi ev pc lv (.int p0 :: .ref (ad en 21 0 0) :: rest) σ ((f_X8_shift N p0 σ).bind k) :=
  r_callV (n := 1) [.int p0] ok_X8_shift hlink (in_lwG (by decide +kernel) rfl) (in_lwG (by decide +kernel) rfl) (by decide +kernel) rfl hroom (by decide) o21 rfl rfl hcat (R_X8_shift en N p0  σ) (Nat.le_of_ble_eq_true rfl) hd h
set_option maxHeartbeats 4000000 in
theorem R_X8_shut (en : En) (N : Nat) (p0 : Int32)  (σ : Sg) : RR en ExT mi_X8_shut evI 0 [(0, .ref (ad en 21 0 0)), (1, .int p0)] [] σ (f_X8_shut N p0 σ) := by
  unfold f_X8_shut
  refine r_aload_n (pc := 0) 0 dX8_shut_0 rfl rfl ?_
  refine r_iconst (pc := 1) dX8_shut_1 kc_iconst_0 ?_
  refine p_X8_thrown (pc := 2)  lf_RX8_81 dX8_shut_2 ?_
  refine r_aload_n (pc := 5) 0 dX8_shut_5 rfl rfl ?_
  refine r_iload_n (pc := 6) 1 dX8_shut_6 rfl rfl ?_
  refine k_X8_isPane (pc := 7) lm_RX8_188  (by decide) (Nat.le_of_ble_eq_true rfl) dX8_shut_7 (fun w1 h1 => ?_)
  refine r_if_ne (pc := 10) 15 dX8_shut_10 (by decide) (fun h2 => ?_) (fun h2 => ?_)
  · refine r_iconst (pc := 13) dX8_shut_13 kc_iconst_m1 ?_
    exact r_iret (pc := 14) rfl dX8_shut_14
  · refine r_aload_n (pc := 15) 0 dX8_shut_15 rfl rfl ?_
    refine g_X8_deeds (pc := 16)  lf_RX8_146 dX8_shut_16 ?_
    refine r_bipush (pc := 19) dX8_shut_19 kc_bipush_40 ?_
    refine r_icmp_ne (pc := 21) 27 dX8_shut_21 (by decide) (fun h3 => ?_) (fun h3 => ?_)
    · refine r_bipush (pc := 24) dX8_shut_24 kc_bipush_m2 ?_
      exact r_iret (pc := 26) rfl dX8_shut_26
    · refine r_aload_n (pc := 27) 0 dX8_shut_27 rfl rfl ?_
      refine k_X8_notes (pc := 28) lm_RX8_200  (by decide) (Nat.le_of_ble_eq_true rfl) dX8_shut_28 (fun w2 h4 => ?_)
      refine r_aload_n (pc := 31) 0 dX8_shut_31 rfl rfl ?_
      refine g_X8_s (pc := 32)  lf_RX8_34 dX8_shut_32 ?_
      refine r_bipush (pc := 35) dX8_shut_35 kc_bipush_21 ?_
      refine r_dup2 (pc := 37) dX8_shut_37 rfl rfl ?_
      refine r_iald (pc := 38) (n := 22) o22_14 rfl dX8_shut_38 (fun h5 => ?_)
      refine r_iconst (pc := 39) dX8_shut_39 kc_iconst_1 ?_
      refine r_iload_n (pc := 40) 1 dX8_shut_40 rfl rfl ?_
      refine r_ishl (pc := 41) dX8_shut_41 ?_
      refine r_ixor (pc := 42) dX8_shut_42 ?_
      refine r_iast (pc := 43) (n := 22) o22_14 rfl rfl dX8_shut_43 (fun h6 => ?_)
      refine r_aload_n (pc := 44) 0 dX8_shut_44 rfl rfl ?_
      refine g_X8_s (pc := 45)  lf_RX8_34 dX8_shut_45 ?_
      refine r_bipush (pc := 48) dX8_shut_48 kc_bipush_21 ?_
      refine r_iald (pc := 50) (n := 22) o22_14 rfl dX8_shut_50 (fun h7 => ?_)
      refine r_i2l (pc := 51) dX8_shut_51 ?_
      refine k_X8_ones (pc := 52) lm_RX8_172  (by decide) (Nat.le_of_ble_eq_true rfl) dX8_shut_52 (fun w3 h8 => ?_)
      exact r_iret (pc := 55) rfl dX8_shut_55
theorem ok_X8_shut : yOk yX8_shut cX8_shut 2 (some .int) := ⟨in_lwG (by decide +kernel) rfl, in_lwG (by decide +kernel) rfl, by decide, by decide, by decide⟩
theorem k_X8_shut {en : En} {Ex : (Nat → Prop) → State → Prop} {mi : Mi} {α : Type} {ev : α → Option Value × Sg} {pc index : Nat} {lv : List (Nat × Value)} {rest : List Value} {σ : Sg} {N : Nat} {k : (Int32 × Sg) → Option α} {p0 : Int32} (hlink : Cond.methodLink mi.1 index yX8_shut ∈ lwG) (hroom : 3 + 1 ≤ mi.2.2.2.2) (hcat : (rest.map fun v => v.category).sum ≤ 8) (hd : decode mi.2.1 pc = .ok (.invokevirtual index, 3))  (h : ∀ w : Int32 × Sg, f_X8_shut N p0 σ = some w → RR en Ex mi ev (pc + 3) lv (.int w.1 :: rest) w.2 (k w)) : RR en Ex mi ev pc lv (.int p0 :: .ref (ad en 21 0 0) :: rest) σ ((f_X8_shut N p0 σ).bind k) :=
  r_callV (n := 1) [.int p0] ok_X8_shut hlink (in_lwG (by decide +kernel) rfl) (in_lwG (by decide +kernel) rfl) (by decide +kernel) rfl hroom (by decide) o21 rfl rfl hcat (R_X8_shut en N p0  σ) (Nat.le_of_ble_eq_true rfl) hd h
set_option maxHeartbeats 4000000 in
theorem R_X8_sink (en : En) (N : Nat) (p0 : Int32)  (σ : Sg) : RR en ExT mi_X8_sink evI 0 [(0, .ref (ad en 21 0 0)), (1, .int p0)] [] σ (f_X8_sink N p0 σ) := by
  unfold f_X8_sink
  refine r_aload_n (pc := 0) 0 dX8_sink_0 rfl rfl ?_
  refine r_iconst (pc := 1) dX8_sink_1 kc_iconst_0 ?_
  refine p_X8_thrown (pc := 2)  lf_RX8_81 dX8_sink_2 ?_
  refine r_aload_n (pc := 5) 0 dX8_sink_5 rfl rfl ?_
  refine r_iload_n (pc := 6) 1 dX8_sink_6 rfl rfl ?_
  refine r_iconst (pc := 7) dX8_sink_7 kc_iconst_0 ?_
  refine k_X8_shifts (pc := 8) lm_RX8_207  (by decide) (Nat.le_of_ble_eq_true rfl) dX8_sink_8 (fun w1 h1 => ?_)
  exact r_iret (pc := 11) rfl dX8_sink_11
theorem ok_X8_sink : yOk yX8_sink cX8_sink 2 (some .int) := ⟨in_lwG (by decide +kernel) rfl, in_lwG (by decide +kernel) rfl, by decide, by decide, by decide⟩
theorem k_X8_sink {en : En} {Ex : (Nat → Prop) → State → Prop} {mi : Mi} {α : Type} {ev : α → Option Value × Sg} {pc index : Nat} {lv : List (Nat × Value)} {rest : List Value} {σ : Sg} {N : Nat} {k : (Int32 × Sg) → Option α} {p0 : Int32} (hlink : Cond.methodLink mi.1 index yX8_sink ∈ lwG) (hroom : 4 + 1 ≤ mi.2.2.2.2) (hcat : (rest.map fun v => v.category).sum ≤ 8) (hd : decode mi.2.1 pc = .ok (.invokevirtual index, 3))  (h : ∀ w : Int32 × Sg, f_X8_sink N p0 σ = some w → RR en Ex mi ev (pc + 3) lv (.int w.1 :: rest) w.2 (k w)) : RR en Ex mi ev pc lv (.int p0 :: .ref (ad en 21 0 0) :: rest) σ ((f_X8_sink N p0 σ).bind k) :=
  r_callV (n := 1) [.int p0] ok_X8_sink hlink (in_lwG (by decide +kernel) rfl) (in_lwG (by decide +kernel) rfl) (by decide +kernel) rfl hroom (by decide) o21 rfl rfl hcat (R_X8_sink en N p0  σ) (Nat.le_of_ble_eq_true rfl) hd h
set_option maxHeartbeats 4000000 in
theorem R_X8_tear (en : En) (N : Nat) (p0 : Int32)  (σ : Sg) : RR en ExT mi_X8_tear evI 0 [(0, .ref (ad en 21 0 0)), (1, .int p0)] [] σ (f_X8_tear N p0 σ) := by
  unfold f_X8_tear
  refine r_aload_n (pc := 0) 0 dX8_tear_0 rfl rfl ?_
  refine r_iconst (pc := 1) dX8_tear_1 kc_iconst_0 ?_
  refine p_X8_thrown (pc := 2)  lf_RX8_81 dX8_tear_2 ?_
  refine r_iload_n (pc := 5) 1 dX8_tear_5 rfl rfl ?_
  refine k_X8_isRow (pc := 6) lm_RX8_95  (by decide) (Nat.le_of_ble_eq_true rfl) dX8_tear_6 (fun w1 h1 => ?_)
  refine r_if_ne (pc := 9) 14 dX8_tear_9 (by decide) (fun h2 => ?_) (fun h2 => ?_)
  · refine r_iconst (pc := 12) dX8_tear_12 kc_iconst_m1 ?_
    exact r_iret (pc := 13) rfl dX8_tear_13
  · refine r_aload_n (pc := 14) 0 dX8_tear_14 rfl rfl ?_
    refine g_X8_rowSize (pc := 15)  lf_RX8_16 dX8_tear_15 ?_
    refine r_iload_n (pc := 18) 1 dX8_tear_18 rfl rfl ?_
    refine r_iald (pc := 19) (n := 6) o22_7 rfl dX8_tear_19 (fun h3 => ?_)
    refine r_if_ge (pc := 20) 29 dX8_tear_20 (by decide) (fun h4 => ?_) (fun h4 => ?_)
    · refine r_aload_n (pc := 29) 0 dX8_tear_29 rfl rfl ?_
      refine g_X8_rowSize (pc := 30)  lf_RX8_16 dX8_tear_30 ?_
      refine r_iload_n (pc := 33) 1 dX8_tear_33 rfl rfl ?_
      refine r_iconst (pc := 34) dX8_tear_34 kc_iconst_m1 ?_
      refine r_iast (pc := 35) (n := 6) o22_7 rfl rfl dX8_tear_35 (fun h5 => ?_)
      refine r_iconst (pc := 36) dX8_tear_36 kc_iconst_1 ?_
      exact r_iret (pc := 37) rfl dX8_tear_37
    · refine r_aload_n (pc := 23) 0 dX8_tear_23 rfl rfl ?_
      refine r_iconst (pc := 24) dX8_tear_24 kc_iconst_1 ?_
      refine k_X8_found (pc := 25) lm_RX8_99  (by decide) (Nat.le_of_ble_eq_true rfl) dX8_tear_25 (fun w2 h6 => ?_)
      exact r_iret (pc := 28) rfl dX8_tear_28
theorem ok_X8_tear : yOk yX8_tear cX8_tear 2 (some .int) := ⟨in_lwG (by decide +kernel) rfl, in_lwG (by decide +kernel) rfl, by decide, by decide, by decide⟩
theorem k_X8_tear {en : En} {Ex : (Nat → Prop) → State → Prop} {mi : Mi} {α : Type} {ev : α → Option Value × Sg} {pc index : Nat} {lv : List (Nat × Value)} {rest : List Value} {σ : Sg} {N : Nat} {k : (Int32 × Sg) → Option α} {p0 : Int32} (hlink : Cond.methodLink mi.1 index yX8_tear ∈ lwG) (hroom : 3 + 1 ≤ mi.2.2.2.2) (hcat : (rest.map fun v => v.category).sum ≤ 8) (hd : decode mi.2.1 pc = .ok (.invokevirtual index, 3))  (h : ∀ w : Int32 × Sg, f_X8_tear N p0 σ = some w → RR en Ex mi ev (pc + 3) lv (.int w.1 :: rest) w.2 (k w)) : RR en Ex mi ev pc lv (.int p0 :: .ref (ad en 21 0 0) :: rest) σ ((f_X8_tear N p0 σ).bind k) :=
  r_callV (n := 1) [.int p0] ok_X8_tear hlink (in_lwG (by decide +kernel) rfl) (in_lwG (by decide +kernel) rfl) (by decide +kernel) rfl hroom (by decide) o21 rfl rfl hcat (R_X8_tear en N p0  σ) (Nat.le_of_ble_eq_true rfl) hd h
set_option maxHeartbeats 4000000 in
theorem RL_X8_test_64 (en : En) (N : Nat) {k : Int32 → Sg → Option (Int32 × Sg)} (a1 : Int32) (a4 : Int32) (a5 : Int32)  (hk : ∀ (v6 : Int32) (σ : Sg), RR en ExT mi_X8_test evI 96 [(0, .ref (ad en 21 0 0)), (1, .int a1), (4, .int a4), (5, .int a5)] [] σ (k v6 σ)) : ∀ (n : Nat) (v6 : Int32) (σ : Sg), RR en ExT mi_X8_test evI 64 [(0, .ref (ad en 21 0 0)), (1, .int a1), (4, .int a4), (5, .int a5), (6, .int v6)] [] σ (L_X8_test_64 N k a1 a4 a5 n v6 σ) := by
  intro n
  induction n with
  | zero => intro v6 σ; exact r_none
  | succ n ih =>
    intro v6 σ
    rw [L_X8_test_64_s]
    refine r_iload (pc := 64) 4 dX8_test_64 rfl ?_
    refine r_bipush (pc := 66) dX8_test_66 kc_bipush_96 ?_
    refine r_icmp_ge (pc := 68) 96 dX8_test_68 (by decide) (fun h9 => ?_) (fun h9 => ?_)
    · exact r_sub [0, 1, 2, 3] rfl (hk v6 σ)
    · refine r_aload_n (pc := 71) 0 dX8_test_71 rfl rfl ?_
      refine g_X8_whoBy (pc := 72)  lf_RX8_74 dX8_test_72 ?_
      refine r_bipush (pc := 75) dX8_test_75 kc_bipush_96 ?_
      refine r_iload (pc := 77) 3 dX8_test_77 rfl ?_
      refine r_imul (pc := 79) dX8_test_79 ?_
      refine r_iload (pc := 80) 4 dX8_test_80 rfl ?_
      refine r_iadd (pc := 82) dX8_test_82 ?_
      refine r_aload_n (pc := 83) 0 dX8_test_83 rfl rfl ?_
      refine r_iload (pc := 84) 4 dX8_test_84 rfl ?_
      refine k_X8_whoAt (pc := 86) lm_RX8_213  (by decide) (Nat.le_of_ble_eq_true rfl) dX8_test_86 (fun w5 h10 => ?_)
      refine r_iast (pc := 89) (n := 576) o22_32 rfl rfl dX8_test_89 (fun h11 => ?_)
      refine r_iinc (pc := 90) 4 [(6, .int (v6 + (1 : Int32))), (0, .ref (ad en 21 0 0)), (1, .int a1), (4, .int a4), (5, .int a5)] dX8_test_90 rfl rfl (by decide) rfl ?_
      refine r_goto (pc := 93) 64 dX8_test_93 (by decide) ?_
      exact r_sub [1, 2, 3, 4, 0] rfl (ih (v6 + (1 : Int32)) (uI w5.2 22 32 0 (((96 : Int32) * a5) + v6).toNatClampNeg w5.1))
set_option maxHeartbeats 4000000 in
theorem RL_X8_test_37 (en : En) (N : Nat) {k : Int32 → Sg → Option (Int32 × Sg)} (a1 : Int32) (a4 : Int32)  (hk : ∀ (v5 : Int32) (σ : Sg), RR en ExT mi_X8_test evI 102 [(0, .ref (ad en 21 0 0)), (4, .int a4)] [] σ (k v5 σ)) : ∀ (n : Nat) (v5 : Int32) (σ : Sg), RR en ExT mi_X8_test evI 37 [(0, .ref (ad en 21 0 0)), (1, .int a1), (4, .int a4), (5, .int v5)] [] σ (L_X8_test_37 N k a1 a4 n v5 σ) := by
  intro n
  induction n with
  | zero => intro v5 σ; exact r_none
  | succ n ih =>
    intro v5 σ
    rw [L_X8_test_37_s]
    refine r_iload (pc := 37) 3 dX8_test_37 rfl ?_
    refine r_bipush (pc := 39) dX8_test_39 kc_bipush_6 ?_
    refine r_icmp_ge (pc := 41) 102 dX8_test_41 (by decide) (fun h5 => ?_) (fun h5 => ?_)
    · exact r_sub [0, 2] rfl (hk v5 σ)
    · refine r_aload_n (pc := 44) 0 dX8_test_44 rfl rfl ?_
      refine g_X8_kindIf (pc := 45)  lf_RX8_49 dX8_test_45 ?_
      refine r_iload_n (pc := 48) 1 dX8_test_48 rfl rfl ?_
      refine r_iload (pc := 49) 3 dX8_test_49 rfl ?_
      refine r_iast (pc := 51) (n := 7) o22_20 rfl rfl dX8_test_51 (fun h6 => ?_)
      refine r_aload_n (pc := 52) 0 dX8_test_52 rfl rfl ?_
      refine r_iload_n (pc := 53) 1 dX8_test_53 rfl rfl ?_
      refine k_X8_covering (pc := 54) lm_RX8_153  (by decide) (Nat.le_of_ble_eq_true rfl) dX8_test_54 (fun w3 h7 => ?_)
      refine r_aload_n (pc := 57) 0 dX8_test_57 rfl rfl ?_
      refine k_X8_seeing (pc := 58) lm_RX8_169  (by decide) (Nat.le_of_ble_eq_true rfl) dX8_test_58 (fun w4 h8 => ?_)
      refine r_iconst (pc := 61) dX8_test_61 kc_iconst_0 ?_
      refine r_istore (pc := 62) [(6, .int (0 : Int32)), (0, .ref (ad en 21 0 0)), (1, .int a1), (4, .int a4), (5, .int v5)] dX8_test_62 (by decide) rfl ?_
      refine r_sub [1, 2, 3, 4, 0] rfl (RL_X8_test_64 en N a1 a4 v5  (fun v6_6 σ_6 => ?_) N (0 : Int32) w4)
      refine r_iinc (pc := 96) 3 [(5, .int (v5 + (1 : Int32))), (0, .ref (ad en 21 0 0)), (1, .int a1), (4, .int a4)] dX8_test_96 rfl rfl (by decide) rfl ?_
      refine r_goto (pc := 99) 37 dX8_test_99 (by decide) ?_
      exact r_sub [1, 2, 3, 0] rfl (ih (v5 + (1 : Int32)) σ_6)
set_option maxHeartbeats 4000000 in
theorem RL_X8_test_139 (en : En) (N : Nat) {k : Int32 → Int32 → Sg → Option (Int32 × Sg)} (a4 : Int32) (a5 : Int32) (a6 : Int32) (a7 : Int32) (a8 : Int32) (a9 : Int32)  (hk : ∀ (v10 : Int32) (v11 : Int32) (σ : Sg), RR en ExT mi_X8_test evI 211 [(0, .ref (ad en 21 0 0)), (4, .int a4), (5, .int a5), (6, .int a6), (7, .int a7), (8, .int a8), (9, .int a9), (10, .int v10)] [] σ (k v10 v11 σ)) : ∀ (n : Nat) (v10 : Int32) (v11 : Int32) (σ : Sg), RR en ExT mi_X8_test evI 139 [(0, .ref (ad en 21 0 0)), (4, .int a4), (5, .int a5), (6, .int a6), (7, .int a7), (8, .int a8), (9, .int a9), (10, .int v10), (11, .int v11)] [] σ (L_X8_test_139 N k a4 a5 a6 a7 a8 a9 n v10 v11 σ) := by
  intro n
  induction n with
  | zero => intro v10 v11 σ; exact r_none
  | succ n ih =>
    intro v10 v11 σ
    rw [L_X8_test_139_s]
    refine r_iload (pc := 139) 8 dX8_test_139 rfl ?_
    refine r_bipush (pc := 141) dX8_test_141 kc_bipush_6 ?_
    refine r_icmp_ge (pc := 143) 211 dX8_test_143 (by decide) (fun h14 => ?_) (fun h14 => ?_)
    · exact r_sub [0, 1, 2, 3, 4, 5, 6, 7] rfl (hk v10 v11 σ)
    · refine r_iload (pc := 146) 7 dX8_test_146 rfl ?_
      refine r_iload (pc := 148) 1 dX8_test_148 rfl ?_
      refine r_iload (pc := 150) 6 dX8_test_150 rfl ?_
      refine k_X8_has (pc := 152) lm_RX8_157  (by decide) (Nat.le_of_ble_eq_true rfl) dX8_test_152 (fun w8 h15 => ?_)
      refine r_if_eq (pc := 155) 201 dX8_test_155 (by decide) (fun h16 => ?_) (fun h16 => ?_)
      · refine r_iconst (pc := 201) dX8_test_201 kc_iconst_0 ?_
        refine r_iadd (pc := 202) dX8_test_202 ?_
        refine r_istore (pc := 203) [(10, .int (v10 + (0 : Int32))), (0, .ref (ad en 21 0 0)), (4, .int a4), (5, .int a5), (6, .int a6), (7, .int a7), (8, .int a8), (9, .int a9), (11, .int v11)] dX8_test_203 (by decide) rfl ?_
        refine r_iinc (pc := 205) 8 [(11, .int (v11 + (1 : Int32))), (10, .int (v10 + (0 : Int32))), (0, .ref (ad en 21 0 0)), (4, .int a4), (5, .int a5), (6, .int a6), (7, .int a7), (8, .int a8), (9, .int a9)] dX8_test_205 rfl rfl (by decide) rfl ?_
        refine r_goto (pc := 208) 139 dX8_test_208 (by decide) ?_
        exact r_sub [2, 3, 4, 5, 6, 7, 8, 1, 0] rfl (ih (v10 + (0 : Int32)) (v11 + (1 : Int32)) w8.2)
      · refine r_iload (pc := 158) 1 dX8_test_158 rfl ?_
        refine r_iload (pc := 160) 8 dX8_test_160 rfl ?_
        refine k_X8_has (pc := 162) lm_RX8_157  (by decide) (Nat.le_of_ble_eq_true rfl) dX8_test_162 (fun w9 h17 => ?_)
        refine r_if_eq (pc := 165) 201 dX8_test_165 (by decide) (fun h18 => ?_) (fun h18 => ?_)
        · refine r_iconst (pc := 201) dX8_test_201 kc_iconst_0 ?_
          refine r_iadd (pc := 202) dX8_test_202 ?_
          refine r_istore (pc := 203) [(10, .int (v10 + (0 : Int32))), (0, .ref (ad en 21 0 0)), (4, .int a4), (5, .int a5), (6, .int a6), (7, .int a7), (8, .int a8), (9, .int a9), (11, .int v11)] dX8_test_203 (by decide) rfl ?_
          refine r_iinc (pc := 205) 8 [(11, .int (v11 + (1 : Int32))), (10, .int (v10 + (0 : Int32))), (0, .ref (ad en 21 0 0)), (4, .int a4), (5, .int a5), (6, .int a6), (7, .int a7), (8, .int a8), (9, .int a9)] dX8_test_205 rfl rfl (by decide) rfl ?_
          refine r_goto (pc := 208) 139 dX8_test_208 (by decide) ?_
          exact r_sub [2, 3, 4, 5, 6, 7, 8, 1, 0] rfl (ih (v10 + (0 : Int32)) (v11 + (1 : Int32)) w9.2)
        · refine r_aload_n (pc := 168) 0 dX8_test_168 rfl rfl ?_
          refine g_X8_whoBy (pc := 169)  lf_RX8_74 dX8_test_169 ?_
          refine r_bipush (pc := 172) dX8_test_172 kc_bipush_96 ?_
          refine r_iload (pc := 174) 6 dX8_test_174 rfl ?_
          refine r_imul (pc := 176) dX8_test_176 ?_
          refine r_iload (pc := 177) 4 dX8_test_177 rfl ?_
          refine r_iadd (pc := 179) dX8_test_179 ?_
          refine r_iald (pc := 180) (n := 576) o22_32 rfl dX8_test_180 (fun h19 => ?_)
          refine r_aload_n (pc := 181) 0 dX8_test_181 rfl rfl ?_
          refine g_X8_whoBy (pc := 182)  lf_RX8_74 dX8_test_182 ?_
          refine r_bipush (pc := 185) dX8_test_185 kc_bipush_96 ?_
          refine r_iload (pc := 187) 8 dX8_test_187 rfl ?_
          refine r_imul (pc := 189) dX8_test_189 ?_
          refine r_iload (pc := 190) 4 dX8_test_190 rfl ?_
          refine r_iadd (pc := 192) dX8_test_192 ?_
          refine r_iald (pc := 193) (n := 576) o22_32 rfl dX8_test_193 (fun h20 => ?_)
          refine r_icmp_ne (pc := 194) 201 dX8_test_194 (by decide) (fun h21 => ?_) (fun h21 => ?_)
          · refine r_iconst (pc := 197) dX8_test_197 kc_iconst_1 ?_
            refine r_goto (pc := 198) 202 dX8_test_198 (by decide) ?_
            refine r_iadd (pc := 202) dX8_test_202 ?_
            refine r_istore (pc := 203) [(10, .int (v10 + (1 : Int32))), (0, .ref (ad en 21 0 0)), (4, .int a4), (5, .int a5), (6, .int a6), (7, .int a7), (8, .int a8), (9, .int a9), (11, .int v11)] dX8_test_203 (by decide) rfl ?_
            refine r_iinc (pc := 205) 8 [(11, .int (v11 + (1 : Int32))), (10, .int (v10 + (1 : Int32))), (0, .ref (ad en 21 0 0)), (4, .int a4), (5, .int a5), (6, .int a6), (7, .int a7), (8, .int a8), (9, .int a9)] dX8_test_205 rfl rfl (by decide) rfl ?_
            refine r_goto (pc := 208) 139 dX8_test_208 (by decide) ?_
            exact r_sub [2, 3, 4, 5, 6, 7, 8, 1, 0] rfl (ih (v10 + (1 : Int32)) (v11 + (1 : Int32)) w9.2)
          · refine r_iconst (pc := 201) dX8_test_201 kc_iconst_0 ?_
            refine r_iadd (pc := 202) dX8_test_202 ?_
            refine r_istore (pc := 203) [(10, .int (v10 + (0 : Int32))), (0, .ref (ad en 21 0 0)), (4, .int a4), (5, .int a5), (6, .int a6), (7, .int a7), (8, .int a8), (9, .int a9), (11, .int v11)] dX8_test_203 (by decide) rfl ?_
            refine r_iinc (pc := 205) 8 [(11, .int (v11 + (1 : Int32))), (10, .int (v10 + (0 : Int32))), (0, .ref (ad en 21 0 0)), (4, .int a4), (5, .int a5), (6, .int a6), (7, .int a7), (8, .int a8), (9, .int a9)] dX8_test_205 rfl rfl (by decide) rfl ?_
            refine r_goto (pc := 208) 139 dX8_test_208 (by decide) ?_
            exact r_sub [2, 3, 4, 5, 6, 7, 8, 1, 0] rfl (ih (v10 + (0 : Int32)) (v11 + (1 : Int32)) w9.2)
set_option maxHeartbeats 4000000 in
theorem RL_X8_test_126 (en : En) (N : Nat) {k : Int32 → Int32 → Sg → Option (Int32 × Sg)} (a4 : Int32) (a5 : Int32) (a6 : Int32) (a7 : Int32)  (hk : ∀ (v8 : Int32) (v9 : Int32) (σ : Sg), RR en ExT mi_X8_test evI 233 [(0, .ref (ad en 21 0 0)), (4, .int a4), (5, .int a5), (6, .int a6), (7, .int a7), (8, .int v8)] [] σ (k v8 v9 σ)) : ∀ (n : Nat) (v8 : Int32) (v9 : Int32) (σ : Sg), RR en ExT mi_X8_test evI 126 [(0, .ref (ad en 21 0 0)), (4, .int a4), (5, .int a5), (6, .int a6), (7, .int a7), (8, .int v8), (9, .int v9)] [] σ (L_X8_test_126 N k a4 a5 a6 a7 n v8 v9 σ) := by
  intro n
  induction n with
  | zero => intro v8 v9 σ; exact r_none
  | succ n ih =>
    intro v8 v9 σ
    rw [L_X8_test_126_s]
    refine r_iload (pc := 126) 6 dX8_test_126 rfl ?_
    refine r_bipush (pc := 128) dX8_test_128 kc_bipush_6 ?_
    refine r_icmp_ge (pc := 130) 233 dX8_test_130 (by decide) (fun h13 => ?_) (fun h13 => ?_)
    · exact r_sub [0, 1, 2, 3, 4, 5] rfl (hk v8 v9 σ)
    · refine r_iconst (pc := 133) dX8_test_133 kc_iconst_0 ?_
      refine r_istore (pc := 134) [(10, .int (0 : Int32)), (0, .ref (ad en 21 0 0)), (4, .int a4), (5, .int a5), (6, .int a6), (7, .int a7), (8, .int v8), (9, .int v9)] dX8_test_134 (by decide) rfl ?_
      refine r_iconst (pc := 136) dX8_test_136 kc_iconst_0 ?_
      refine r_istore (pc := 137) [(11, .int (0 : Int32)), (10, .int (0 : Int32)), (0, .ref (ad en 21 0 0)), (4, .int a4), (5, .int a5), (6, .int a6), (7, .int a7), (8, .int v8), (9, .int v9)] dX8_test_137 (by decide) rfl ?_
      refine r_sub [2, 3, 4, 5, 6, 7, 8, 1, 0] rfl (RL_X8_test_139 en N a4 a5 a6 a7 v8 v9  (fun v10_10 v11_10 σ_10 => ?_) N (0 : Int32) (0 : Int32) σ)
      refine r_iload (pc := 211) 7 dX8_test_211 rfl ?_
      refine r_iload (pc := 213) 5 dX8_test_213 rfl ?_
      refine r_icmp_le (pc := 215) 223 dX8_test_215 (by decide) (fun h22 => ?_) (fun h22 => ?_)
      · refine r_iload (pc := 223) 5 dX8_test_223 rfl ?_
        refine r_istore (pc := 225) [(8, .int v8), (0, .ref (ad en 21 0 0)), (4, .int a4), (5, .int a5), (6, .int a6), (7, .int a7), (9, .int v9), (10, .int v10_10)] dX8_test_225 (by decide) rfl ?_
        refine r_iinc (pc := 227) 6 [(9, .int (v9 + (1 : Int32))), (8, .int v8), (0, .ref (ad en 21 0 0)), (4, .int a4), (5, .int a5), (6, .int a6), (7, .int a7), (10, .int v10_10)] dX8_test_227 rfl rfl (by decide) rfl ?_
        refine r_goto (pc := 230) 126 dX8_test_230 (by decide) ?_
        exact r_sub [2, 3, 4, 5, 6, 1, 0] rfl (ih v8 (v9 + (1 : Int32)) σ_10)
      · refine r_iload (pc := 218) 7 dX8_test_218 rfl ?_
        refine r_goto (pc := 220) 225 dX8_test_220 (by decide) ?_
        refine r_istore (pc := 225) [(8, .int v10_10), (0, .ref (ad en 21 0 0)), (4, .int a4), (5, .int a5), (6, .int a6), (7, .int a7), (9, .int v9), (10, .int v10_10)] dX8_test_225 (by decide) rfl ?_
        refine r_iinc (pc := 227) 6 [(9, .int (v9 + (1 : Int32))), (8, .int v10_10), (0, .ref (ad en 21 0 0)), (4, .int a4), (5, .int a5), (6, .int a6), (7, .int a7), (10, .int v10_10)] dX8_test_227 rfl rfl (by decide) rfl ?_
        refine r_goto (pc := 230) 126 dX8_test_230 (by decide) ?_
        exact r_sub [2, 3, 4, 5, 6, 1, 0] rfl (ih v10_10 (v9 + (1 : Int32)) σ_10)
set_option maxHeartbeats 4000000 in
theorem RL_X8_test_113 (en : En) (N : Nat) {k : Int32 → Int32 → Int32 → Sg → Option (Int32 × Sg)} (a4 : Int32)  (hk : ∀ (v5 : Int32) (v6 : Int32) (v7 : Int32) (σ : Sg), RR en ExT mi_X8_test evI 271 [(0, .ref (ad en 21 0 0)), (5, .int v5), (6, .int v6)] [] σ (k v5 v6 v7 σ)) : ∀ (n : Nat) (v5 : Int32) (v6 : Int32) (v7 : Int32) (σ : Sg), RR en ExT mi_X8_test evI 113 [(0, .ref (ad en 21 0 0)), (4, .int a4), (5, .int v5), (6, .int v6), (7, .int v7)] [] σ (L_X8_test_113 N k a4 n v5 v6 v7 σ) := by
  intro n
  induction n with
  | zero => intro v5 v6 v7 σ; exact r_none
  | succ n ih =>
    intro v5 v6 v7 σ
    rw [L_X8_test_113_s]
    refine r_iload (pc := 113) 4 dX8_test_113 rfl ?_
    refine r_bipush (pc := 115) dX8_test_115 kc_bipush_96 ?_
    refine r_icmp_ge (pc := 117) 271 dX8_test_117 (by decide) (fun h12 => ?_) (fun h12 => ?_)
    · exact r_sub [0, 2, 3] rfl (hk v5 v6 v7 σ)
    · refine r_iconst (pc := 120) dX8_test_120 kc_iconst_0 ?_
      refine r_istore (pc := 121) [(8, .int (0 : Int32)), (0, .ref (ad en 21 0 0)), (4, .int a4), (5, .int v5), (6, .int v6), (7, .int v7)] dX8_test_121 (by decide) rfl ?_
      refine r_iconst (pc := 123) dX8_test_123 kc_iconst_0 ?_
      refine r_istore (pc := 124) [(9, .int (0 : Int32)), (8, .int (0 : Int32)), (0, .ref (ad en 21 0 0)), (4, .int a4), (5, .int v5), (6, .int v6), (7, .int v7)] dX8_test_124 (by decide) rfl ?_
      refine r_sub [2, 3, 4, 5, 6, 1, 0] rfl (RL_X8_test_126 en N a4 v5 v6 v7  (fun v8_11 v9_11 σ_11 => ?_) N (0 : Int32) (0 : Int32) σ)
      refine r_iload (pc := 233) 5 dX8_test_233 rfl ?_
      refine r_iload (pc := 235) 3 dX8_test_235 rfl ?_
      refine r_icmp_ge (pc := 237) 245 dX8_test_237 (by decide) (fun h23 => ?_) (fun h23 => ?_)
      · refine r_iload (pc := 245) 2 dX8_test_245 rfl ?_
        refine r_istore (pc := 247) [(5, .int v5), (0, .ref (ad en 21 0 0)), (4, .int a4), (6, .int v6), (7, .int v7), (8, .int v8_11)] dX8_test_247 (by decide) rfl ?_
        refine r_iload (pc := 249) 5 dX8_test_249 rfl ?_
        refine r_iload (pc := 251) 3 dX8_test_251 rfl ?_
        refine r_icmp_ge_t (pc := 253) 261 dX8_test_253 (by decide) h23 ?_
        refine r_iload (pc := 261) 3 dX8_test_261 rfl ?_
        refine r_istore (pc := 263) [(6, .int v6), (5, .int v5), (0, .ref (ad en 21 0 0)), (4, .int a4), (7, .int v7), (8, .int v8_11)] dX8_test_263 (by decide) rfl ?_
        refine r_iinc (pc := 265) 4 [(7, .int (v7 + (1 : Int32))), (6, .int v6), (5, .int v5), (0, .ref (ad en 21 0 0)), (4, .int a4), (8, .int v8_11)] dX8_test_265 rfl rfl (by decide) rfl ?_
        refine r_goto (pc := 268) 113 dX8_test_268 (by decide) ?_
        exact r_sub [3, 4, 2, 1, 0] rfl (ih v5 v6 (v7 + (1 : Int32)) σ_11)
      · refine r_iload (pc := 240) 4 dX8_test_240 rfl ?_
        refine r_goto (pc := 242) 247 dX8_test_242 (by decide) ?_
        refine r_istore (pc := 247) [(5, .int v7), (0, .ref (ad en 21 0 0)), (4, .int a4), (6, .int v6), (7, .int v7), (8, .int v8_11)] dX8_test_247 (by decide) rfl ?_
        refine r_iload (pc := 249) 5 dX8_test_249 rfl ?_
        refine r_iload (pc := 251) 3 dX8_test_251 rfl ?_
        refine r_icmp_ge_f (pc := 253) 261 dX8_test_253 (by decide) h23 ?_
        refine r_iload (pc := 256) 5 dX8_test_256 rfl ?_
        refine r_goto (pc := 258) 263 dX8_test_258 (by decide) ?_
        refine r_istore (pc := 263) [(6, .int v8_11), (5, .int v7), (0, .ref (ad en 21 0 0)), (4, .int a4), (7, .int v7), (8, .int v8_11)] dX8_test_263 (by decide) rfl ?_
        refine r_iinc (pc := 265) 4 [(7, .int (v7 + (1 : Int32))), (6, .int v8_11), (5, .int v7), (0, .ref (ad en 21 0 0)), (4, .int a4), (8, .int v8_11)] dX8_test_265 rfl rfl (by decide) rfl ?_
        refine r_goto (pc := 268) 113 dX8_test_268 (by decide) ?_
        exact r_sub [3, 4, 2, 1, 0] rfl (ih v7 v8_11 (v7 + (1 : Int32)) σ_11)
set_option maxHeartbeats 4000000 in
theorem R_X8_test (en : En) (N : Nat) (p0 : Int32) (p1 : Int32)  (σ : Sg) : RR en ExT mi_X8_test evI 0 [(0, .ref (ad en 21 0 0)), (1, .int p0), (2, .int p1)] [] σ (f_X8_test N p0 p1 σ) := by
  unfold f_X8_test
  refine r_aload_n (pc := 0) 0 dX8_test_0 rfl rfl ?_
  refine r_iconst (pc := 1) dX8_test_1 kc_iconst_0 ?_
  refine p_X8_thrown (pc := 2)  lf_RX8_81 dX8_test_2 ?_
  refine r_aload_n (pc := 5) 0 dX8_test_5 rfl rfl ?_
  refine r_iload_n (pc := 6) 1 dX8_test_6 rfl rfl ?_
  refine r_iload_n (pc := 7) 2 dX8_test_7 rfl rfl ?_
  refine k_X8_againstPairs (pc := 8) lm_RX8_246  (by decide) (Nat.le_of_ble_eq_true rfl) dX8_test_8 (fun w1 h1 => ?_)
  refine r_istore_n (pc := 11) [(3, .int w1.1), (0, .ref (ad en 21 0 0)), (1, .int p0), (2, .int p1)] dX8_test_11 rfl (by decide) rfl ?_
  refine r_iload_n (pc := 12) 0 dX8_test_12 rfl rfl ?_
  refine r_if_eq (pc := 13) 18 dX8_test_13 (by decide) (fun h2 => ?_) (fun h2 => ?_)
  · refine r_aload_n (pc := 18) 1 dX8_test_18 rfl rfl ?_
    refine r_iload_n (pc := 19) 2 dX8_test_19 rfl rfl ?_
    refine r_iload_n (pc := 20) 3 dX8_test_20 rfl rfl ?_
    refine k_X8_kindsOf (pc := 21) lm_RX8_249  (by decide) (Nat.le_of_ble_eq_true rfl) dX8_test_21 (fun w2 h3 => ?_)
    refine r_istore (pc := 24) [(4, .int w2.1), (3, .int w1.1), (0, .ref (ad en 21 0 0)), (1, .int p0), (2, .int p1)] dX8_test_24 (by decide) rfl ?_
    refine r_iload (pc := 26) 0 dX8_test_26 rfl ?_
    refine r_if_ne (pc := 28) 34 dX8_test_28 (by decide) (fun h4 => ?_) (fun h4 => ?_)
    · refine r_bipush (pc := 31) dX8_test_31 kc_bipush_m9 ?_
      exact r_iret (pc := 33) rfl dX8_test_33
    · refine r_iconst (pc := 34) dX8_test_34 kc_iconst_0 ?_
      refine r_istore (pc := 35) [(5, .int (0 : Int32)), (4, .int w2.1), (3, .int w1.1), (0, .ref (ad en 21 0 0)), (1, .int p0), (2, .int p1)] dX8_test_35 (by decide) rfl ?_
      refine r_sub [3, 4, 1, 0] rfl (RL_X8_test_37 en N p0 w2.1  (fun v5_7 σ_7 => ?_) N (0 : Int32) w2.2)
      refine r_bipush (pc := 102) dX8_test_102 kc_bipush_m9 ?_
      refine r_istore (pc := 104) [(5, .int (-9 : Int32)), (0, .ref (ad en 21 0 0)), (4, .int w2.1)] dX8_test_104 (by decide) rfl ?_
      refine r_bipush (pc := 106) dX8_test_106 kc_bipush_99 ?_
      refine r_istore (pc := 108) [(6, .int (99 : Int32)), (5, .int (-9 : Int32)), (0, .ref (ad en 21 0 0)), (4, .int w2.1)] dX8_test_108 (by decide) rfl ?_
      refine r_iconst (pc := 110) dX8_test_110 kc_iconst_0 ?_
      refine r_istore (pc := 111) [(7, .int (0 : Int32)), (6, .int (99 : Int32)), (5, .int (-9 : Int32)), (0, .ref (ad en 21 0 0)), (4, .int w2.1)] dX8_test_111 (by decide) rfl ?_
      refine r_sub [3, 4, 2, 1, 0] rfl (RL_X8_test_113 en N w2.1  (fun v5_12 v6_12 v7_12 σ_12 => ?_) N (-9 : Int32) (99 : Int32) (0 : Int32) σ_7)
      refine r_aload_n (pc := 271) 0 dX8_test_271 rfl rfl ?_
      refine r_iload (pc := 272) 1 dX8_test_272 rfl ?_
      refine r_iload (pc := 274) 2 dX8_test_274 rfl ?_
      refine k_X8_tells (pc := 276) lm_RX8_107  (by decide) (Nat.le_of_ble_eq_true rfl) dX8_test_276 (fun w13 h24 => ?_)
      exact r_iret (pc := 279) rfl dX8_test_279
  · refine r_iload_n (pc := 16) 0 dX8_test_16 rfl rfl ?_
    exact r_iret (pc := 17) rfl dX8_test_17
theorem ok_X8_test : yOk yX8_test cX8_test 12 (some .int) := ⟨in_lwG (by decide +kernel) rfl, in_lwG (by decide +kernel) rfl, by decide, by decide, by decide⟩
theorem k_X8_test {en : En} {Ex : (Nat → Prop) → State → Prop} {mi : Mi} {α : Type} {ev : α → Option Value × Sg} {pc index : Nat} {lv : List (Nat × Value)} {rest : List Value} {σ : Sg} {N : Nat} {k : (Int32 × Sg) → Option α} {p0 : Int32} {p1 : Int32} (hlink : Cond.methodLink mi.1 index yX8_test ∈ lwG) (hroom : 6 + 1 ≤ mi.2.2.2.2) (hcat : (rest.map fun v => v.category).sum ≤ 8) (hd : decode mi.2.1 pc = .ok (.invokevirtual index, 3))  (h : ∀ w : Int32 × Sg, f_X8_test N p0 p1 σ = some w → RR en Ex mi ev (pc + 3) lv (.int w.1 :: rest) w.2 (k w)) : RR en Ex mi ev pc lv (.int p1 :: .int p0 :: .ref (ad en 21 0 0) :: rest) σ ((f_X8_test N p0 p1 σ).bind k) :=
  r_callV (n := 2) [.int p0, .int p1] ok_X8_test hlink (in_lwG (by decide +kernel) rfl) (in_lwG (by decide +kernel) rfl) (by decide +kernel) rfl hroom (by decide) o21 rfl rfl hcat (R_X8_test en N p0 p1  σ) (Nat.le_of_ble_eq_true rfl) hd h
set_option maxHeartbeats 4000000 in
theorem RL_X8_text_39 (en : En) (N : Nat) {k : Int32 → Sg → Option (Int32 × Sg)} (a1 : Int32) (a2 : Int32)  (hk : ∀ (v3 : Int32) (σ : Sg), RR en ExT mi_X8_text evI 63 [(2, .int a2)] [] σ (k v3 σ)) : ∀ (n : Nat) (v3 : Int32) (σ : Sg), RR en ExT mi_X8_text evI 39 [(0, .ref (ad en 21 0 0)), (1, .int a1), (2, .int a2), (3, .int v3)] [] σ (L_X8_text_39 N k a1 a2 n v3 σ) := by
  intro n
  induction n with
  | zero => intro v3 σ; exact r_none
  | succ n ih =>
    intro v3 σ
    rw [L_X8_text_39_s]
    refine r_iload_n (pc := 39) 3 dX8_text_39 rfl rfl ?_
    refine r_iload_n (pc := 40) 2 dX8_text_40 rfl rfl ?_
    refine r_icmp_ge (pc := 41) 63 dX8_text_41 (by decide) (fun h6 => ?_) (fun h6 => ?_)
    · exact r_sub [2] rfl (hk v3 σ)
    · refine r_aload_n (pc := 44) 0 dX8_text_44 rfl rfl ?_
      refine g_X8_bytes (pc := 45)  lf_RX8_19 dX8_text_45 ?_
      refine r_bipush (pc := 48) dX8_text_48 kc_bipush_60 ?_
      refine r_iload_n (pc := 50) 1 dX8_text_50 rfl rfl ?_
      refine r_imul (pc := 51) dX8_text_51 ?_
      refine r_iload_n (pc := 52) 3 dX8_text_52 rfl rfl ?_
      refine r_iadd (pc := 53) dX8_text_53 ?_
      refine r_bipush (pc := 54) dX8_text_54 kc_bipush_32 ?_
      refine r_iast (pc := 56) (n := 240) o22_8 rfl rfl dX8_text_56 (fun h7 => ?_)
      refine r_iinc (pc := 57) 3 [(3, .int (v3 + (1 : Int32))), (0, .ref (ad en 21 0 0)), (1, .int a1), (2, .int a2)] dX8_text_57 rfl rfl (by decide) rfl ?_
      refine r_goto (pc := 60) 39 dX8_text_60 (by decide) ?_
      exact r_sub [1, 2, 3, 0] rfl (ih (v3 + (1 : Int32)) (uI σ 22 8 0 (((60 : Int32) * a1) + v3).toNatClampNeg (32 : Int32)))
set_option maxHeartbeats 4000000 in
theorem R_X8_text (en : En) (N : Nat) (p0 : Int32) (p1 : Int32)  (σ : Sg) : RR en ExT mi_X8_text evI 0 [(0, .ref (ad en 21 0 0)), (1, .int p0), (2, .int p1)] [] σ (f_X8_text N p0 p1 σ) := by
  unfold f_X8_text
  refine r_aload_n (pc := 0) 0 dX8_text_0 rfl rfl ?_
  refine r_iconst (pc := 1) dX8_text_1 kc_iconst_0 ?_
  refine p_X8_thrown (pc := 2)  lf_RX8_81 dX8_text_2 ?_
  refine r_iload_n (pc := 5) 1 dX8_text_5 rfl rfl ?_
  refine k_X8_isText (pc := 6) lm_RX8_113  (by decide) (Nat.le_of_ble_eq_true rfl) dX8_text_6 (fun w1 h1 => ?_)
  refine r_if_eq (pc := 9) 18 dX8_text_9 (by decide) (fun h2 => ?_) (fun h2 => ?_)
  · refine r_iconst (pc := 18) dX8_text_18 kc_iconst_m1 ?_
    exact r_iret (pc := 19) rfl dX8_text_19
  · refine r_iload_n (pc := 12) 2 dX8_text_12 rfl rfl ?_
    refine r_bipush (pc := 13) dX8_text_13 kc_bipush_60 ?_
    refine r_icmp_le (pc := 15) 20 dX8_text_15 (by decide) (fun h3 => ?_) (fun h3 => ?_)
    · refine r_iload_n (pc := 20) 2 dX8_text_20 rfl rfl ?_
      refine r_if_ge (pc := 21) 30 dX8_text_21 (by decide) (fun h4 => ?_) (fun h4 => ?_)
      · refine r_aload_n (pc := 30) 0 dX8_text_30 rfl rfl ?_
        refine g_X8_byteSize (pc := 31)  lf_RX8_22 dX8_text_31 ?_
        refine r_iload_n (pc := 34) 1 dX8_text_34 rfl rfl ?_
        refine r_iload_n (pc := 35) 2 dX8_text_35 rfl rfl ?_
        refine r_iast (pc := 36) (n := 4) o22_9 rfl rfl dX8_text_36 (fun h5 => ?_)
        refine r_iconst (pc := 37) dX8_text_37 kc_iconst_0 ?_
        refine r_istore_n (pc := 38) [(3, .int (0 : Int32)), (0, .ref (ad en 21 0 0)), (1, .int p0), (2, .int p1)] dX8_text_38 rfl (by decide) rfl ?_
        refine r_sub [1, 2, 3, 0] rfl (RL_X8_text_39 en N p0 p1  (fun v3_2 σ_2 => ?_) N (0 : Int32) (uI w1.2 22 9 0 p0.toNatClampNeg p1))
        refine r_iload_n (pc := 63) 0 dX8_text_63 rfl rfl ?_
        exact r_iret (pc := 64) rfl dX8_text_64
      · refine r_aload_n (pc := 24) 0 dX8_text_24 rfl rfl ?_
        refine r_iconst (pc := 25) dX8_text_25 kc_iconst_5 ?_
        refine k_X8_found (pc := 26) lm_RX8_99  (by decide) (Nat.le_of_ble_eq_true rfl) dX8_text_26 (fun w3 h8 => ?_)
        exact r_iret (pc := 29) rfl dX8_text_29
    · refine r_iconst (pc := 18) dX8_text_18 kc_iconst_m1 ?_
      exact r_iret (pc := 19) rfl dX8_text_19
theorem ok_X8_text : yOk yX8_text cX8_text 4 (some .int) := ⟨in_lwG (by decide +kernel) rfl, in_lwG (by decide +kernel) rfl, by decide, by decide, by decide⟩
theorem k_X8_text {en : En} {Ex : (Nat → Prop) → State → Prop} {mi : Mi} {α : Type} {ev : α → Option Value × Sg} {pc index : Nat} {lv : List (Nat × Value)} {rest : List Value} {σ : Sg} {N : Nat} {k : (Int32 × Sg) → Option α} {p0 : Int32} {p1 : Int32} (hlink : Cond.methodLink mi.1 index yX8_text ∈ lwG) (hroom : 3 + 1 ≤ mi.2.2.2.2) (hcat : (rest.map fun v => v.category).sum ≤ 8) (hd : decode mi.2.1 pc = .ok (.invokevirtual index, 3))  (h : ∀ w : Int32 × Sg, f_X8_text N p0 p1 σ = some w → RR en Ex mi ev (pc + 3) lv (.int w.1 :: rest) w.2 (k w)) : RR en Ex mi ev pc lv (.int p1 :: .int p0 :: .ref (ad en 21 0 0) :: rest) σ ((f_X8_text N p0 p1 σ).bind k) :=
  r_callV (n := 2) [.int p0, .int p1] ok_X8_text hlink (in_lwG (by decide +kernel) rfl) (in_lwG (by decide +kernel) rfl) (by decide +kernel) rfl hroom (by decide) o21 rfl rfl hcat (R_X8_text en N p0 p1  σ) (Nat.le_of_ble_eq_true rfl) hd h
set_option maxHeartbeats 4000000 in
theorem RL_X8_undo_28 (en : En) (N : Nat) {k : Int32 → Sg → Option (Int32 × Sg)} (a1 : Int32) (a2 : Int32)  (hk : ∀ (v3 : Int32) (σ : Sg), RR en ExT mi_X8_undo evI 61 [(0, .ref (ad en 21 0 0)), (1, .int a1), (2, .int a2)] [] σ (k v3 σ)) : ∀ (n : Nat) (v3 : Int32) (σ : Sg), RR en ExT mi_X8_undo evI 28 [(0, .ref (ad en 21 0 0)), (1, .int a1), (2, .int a2), (3, .int v3)] [] σ (L_X8_undo_28 N k a1 a2 n v3 σ) := by
  intro n
  induction n with
  | zero => intro v3 σ; exact r_none
  | succ n ih =>
    intro v3 σ
    rw [L_X8_undo_28_s]
    refine r_iload_n (pc := 28) 3 dX8_undo_28 rfl rfl ?_
    refine r_bipush (pc := 29) dX8_undo_29 kc_bipush_22 ?_
    refine r_icmp_ge (pc := 31) 61 dX8_undo_31 (by decide) (fun h3 => ?_) (fun h3 => ?_)
    · exact r_sub [0, 1, 2] rfl (hk v3 σ)
    · refine r_iload_n (pc := 34) 2 dX8_undo_34 rfl rfl ?_
      refine r_if_le (pc := 35) 61 dX8_undo_35 (by decide) (fun h4 => ?_) (fun h4 => ?_)
      · exact r_sub [0, 1, 2] rfl (hk v3 σ)
      · refine r_aload_n (pc := 38) 0 dX8_undo_38 rfl rfl ?_
        refine g_X8_s (pc := 39)  lf_RX8_34 dX8_undo_39 ?_
        refine r_iload_n (pc := 42) 3 dX8_undo_42 rfl rfl ?_
        refine r_aload_n (pc := 43) 0 dX8_undo_43 rfl rfl ?_
        refine g_X8_ahead (pc := 44)  lf_RX8_37 dX8_undo_44 ?_
        refine r_bipush (pc := 47) dX8_undo_47 kc_bipush_22 ?_
        refine r_iload_n (pc := 49) 1 dX8_undo_49 rfl rfl ?_
        refine r_imul (pc := 50) dX8_undo_50 ?_
        refine r_iload_n (pc := 51) 3 dX8_undo_51 rfl rfl ?_
        refine r_iadd (pc := 52) dX8_undo_52 ?_
        refine r_iald (pc := 53) (n := 880) o22_15 rfl dX8_undo_53 (fun h5 => ?_)
        refine r_iast (pc := 54) (n := 22) o22_14 rfl rfl dX8_undo_54 (fun h6 => ?_)
        refine r_iinc (pc := 55) 3 [(3, .int (v3 + (1 : Int32))), (0, .ref (ad en 21 0 0)), (1, .int a1), (2, .int a2)] dX8_undo_55 rfl rfl (by decide) rfl ?_
        refine r_goto (pc := 58) 28 dX8_undo_58 (by decide) ?_
        exact r_sub [1, 2, 3, 0] rfl (ih (v3 + (1 : Int32)) (uI σ 22 14 0 v3.toNatClampNeg (rI σ 22 15 0 (((22 : Int32) * a1) + v3).toNatClampNeg)))
set_option maxHeartbeats 4000000 in
theorem R_X8_undo (en : En) (N : Nat) (p0 : Int32)  (σ : Sg) : RR en ExT mi_X8_undo evI 0 [(0, .ref (ad en 21 0 0)), (1, .int p0)] [] σ (f_X8_undo N p0 σ) := by
  unfold f_X8_undo
  refine r_aload_n (pc := 0) 0 dX8_undo_0 rfl rfl ?_
  refine r_iconst (pc := 1) dX8_undo_1 kc_iconst_0 ?_
  refine p_X8_thrown (pc := 2)  lf_RX8_81 dX8_undo_2 ?_
  refine r_iload_n (pc := 5) 1 dX8_undo_5 rfl rfl ?_
  refine r_iconst (pc := 6) dX8_undo_6 kc_iconst_0 ?_
  refine r_aload_n (pc := 7) 0 dX8_undo_7 rfl rfl ?_
  refine g_X8_deeds (pc := 8)  lf_RX8_146 dX8_undo_8 ?_
  refine k_X8_in (pc := 11) lm_RX8_91  (by decide) (Nat.le_of_ble_eq_true rfl) dX8_undo_11 (fun w1 h1 => ?_)
  refine r_if_ne (pc := 14) 19 dX8_undo_14 (by decide) (fun h2 => ?_) (fun h2 => ?_)
  · refine r_iconst (pc := 17) dX8_undo_17 kc_iconst_m1 ?_
    exact r_iret (pc := 18) rfl dX8_undo_18
  · refine r_aload_n (pc := 19) 0 dX8_undo_19 rfl rfl ?_
    refine g_X8_deeds (pc := 20)  lf_RX8_146 dX8_undo_20 ?_
    refine r_iload_n (pc := 23) 1 dX8_undo_23 rfl rfl ?_
    refine r_isub (pc := 24) dX8_undo_24 ?_
    refine r_istore_n (pc := 25) [(2, .int ((rI w1.2 21 0 0 16) - p0)), (0, .ref (ad en 21 0 0)), (1, .int p0)] dX8_undo_25 rfl (by decide) rfl ?_
    refine r_iconst (pc := 26) dX8_undo_26 kc_iconst_0 ?_
    refine r_istore_n (pc := 27) [(3, .int (0 : Int32)), (2, .int ((rI w1.2 21 0 0 16) - p0)), (0, .ref (ad en 21 0 0)), (1, .int p0)] dX8_undo_27 rfl (by decide) rfl ?_
    refine r_sub [2, 3, 1, 0] rfl (RL_X8_undo_28 en N p0 ((rI w1.2 21 0 0 16) - p0)  (fun v3_2 σ_2 => ?_) N (0 : Int32) w1.2)
    refine r_aload_n (pc := 61) 0 dX8_undo_61 rfl rfl ?_
    refine r_iload_n (pc := 62) 1 dX8_undo_62 rfl rfl ?_
    refine p_X8_deeds (pc := 63)  lf_RX8_146 dX8_undo_63 ?_
    refine r_iload_n (pc := 66) 2 dX8_undo_66 rfl rfl ?_
    exact r_iret (pc := 67) rfl dX8_undo_67
theorem ok_X8_undo : yOk yX8_undo cX8_undo 4 (some .int) := ⟨in_lwG (by decide +kernel) rfl, in_lwG (by decide +kernel) rfl, by decide, by decide, by decide⟩
theorem k_X8_undo {en : En} {Ex : (Nat → Prop) → State → Prop} {mi : Mi} {α : Type} {ev : α → Option Value × Sg} {pc index : Nat} {lv : List (Nat × Value)} {rest : List Value} {σ : Sg} {N : Nat} {k : (Int32 × Sg) → Option α} {p0 : Int32} (hlink : Cond.methodLink mi.1 index yX8_undo ∈ lwG) (hroom : 2 + 1 ≤ mi.2.2.2.2) (hcat : (rest.map fun v => v.category).sum ≤ 8) (hd : decode mi.2.1 pc = .ok (.invokevirtual index, 3))  (h : ∀ w : Int32 × Sg, f_X8_undo N p0 σ = some w → RR en Ex mi ev (pc + 3) lv (.int w.1 :: rest) w.2 (k w)) : RR en Ex mi ev pc lv (.int p0 :: .ref (ad en 21 0 0) :: rest) σ ((f_X8_undo N p0 σ).bind k) :=
  r_callV (n := 1) [.int p0] ok_X8_undo hlink (in_lwG (by decide +kernel) rfl) (in_lwG (by decide +kernel) rfl) (by decide +kernel) rfl hroom (by decide) o21 rfl rfl hcat (R_X8_undo en N p0  σ) (Nat.le_of_ble_eq_true rfl) hd h
set_option maxHeartbeats 4000000 in
theorem R_X8_upper (en : En) (N : Nat)  (σ : Sg) : RR en ExT mi_X8_upper evL 0 [(0, .ref (ad en 21 0 0))] [] σ (f_X8_upper N σ) := by
  unfold f_X8_upper
  refine r_aload_n (pc := 0) 0 dX8_upper_0 rfl rfl ?_
  refine r_iconst (pc := 1) dX8_upper_1 kc_iconst_0 ?_
  refine p_X8_thrown (pc := 2)  lf_RX8_81 dX8_upper_2 ?_
  refine r_aload_n (pc := 5) 0 dX8_upper_5 rfl rfl ?_
  refine g_X8_above (pc := 6)  lf_RX8_259 dX8_upper_6 ?_
  exact r_lret (pc := 9) rfl dX8_upper_9
theorem ok_X8_upper : yOk yX8_upper cX8_upper 1 (some .long) := ⟨in_lwG (by decide +kernel) rfl, in_lwG (by decide +kernel) rfl, by decide, by decide, by decide⟩
theorem k_X8_upper {en : En} {Ex : (Nat → Prop) → State → Prop} {mi : Mi} {α : Type} {ev : α → Option Value × Sg} {pc index : Nat} {lv : List (Nat × Value)} {rest : List Value} {σ : Sg} {N : Nat} {k : (Int64 × Sg) → Option α}  (hlink : Cond.methodLink mi.1 index yX8_upper ∈ lwG) (hroom : 1 + 1 ≤ mi.2.2.2.2) (hcat : (rest.map fun v => v.category).sum ≤ 8) (hd : decode mi.2.1 pc = .ok (.invokevirtual index, 3))  (h : ∀ w : Int64 × Sg, f_X8_upper N  σ = some w → RR en Ex mi ev (pc + 3) lv (.long w.1 :: rest) w.2 (k w)) : RR en Ex mi ev pc lv (.ref (ad en 21 0 0) :: rest) σ ((f_X8_upper N  σ).bind k) :=
  r_callV (n := 0) [] ok_X8_upper hlink (in_lwG (by decide +kernel) rfl) (in_lwG (by decide +kernel) rfl) (by decide +kernel) rfl hroom (by decide) o21 rfl rfl hcat (R_X8_upper en N   σ) (Nat.le_of_ble_eq_true rfl) hd h
