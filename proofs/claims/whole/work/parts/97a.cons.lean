/-! what the constructors make -/
abbrev pnC : va_E := .inr (2, [.int 0, .int 0, .int 0, .int 1, .int 1, .int 0, .int 1, .long 0, .long 0])
abbrev z40 (cyf : Nat → ClassId) : va_E := .inl (cyf 0, 40, .inl (fun _ => 0))
abbrev z128 (cyf : Nat → ClassId) : va_E := .inl (cyf 0, 128, .inl (fun _ => 0))
def rowL (cyf : Nat → ClassId) (q u : Nat) : va_W := [(q, .inr (3, [.ref u, .int (-1)])), (u, z40 cyf)]
def txtL (cyf : Nat → ClassId) (q u : Nat) : va_W := [(q, .inr (5, [.ref u, .int (-1)])), (u, .inl (cyf 1, 60, .inl (fun _ => 0)))]
def scrL (cyf : Nat → ClassId) (q : Nat) (u : Nat → Nat) : va_W := [(q, .inr (4, [.ref (u 0), .int 0])), (u 0, .inl (cyf 7, mref 7 (fun k => u (k + 1)))), (u 1, pnC), (u 2, pnC), (u 3, pnC), (u 4, pnC), (u 5, pnC), (u 6, pnC), (u 7, pnC)]
def dedL (cyf : Nat → ClassId) (q : Nat) (u : Nat → Nat) (x : Int32) : va_W := [(q, .inr (1, [.ref (u 0), .ref (u 1), .ref (u 2), .ref (u 3), .int x])), (u 0, z40 cyf), (u 1, z40 cyf), (u 2, z40 cyf), (u 3, z40 cyf)]
def besL (cyf : Nat → ClassId) (q : Nat) (u : Nat → Nat) : va_W := [(q, .inr (0, [.ref (u 0), .ref (u 1)])), (u 0, z128 cyf), (u 1, z128 cyf)]
def turL (cyf : Nat → ClassId) (q u : Nat) : va_W := [(q, .inr (6, [.ref u])), (u, z128 cyf)]
theorem cellq_cong {cA : ClassId} {n : Nat} {f : Nat → Option Nat} {g : Nat → Nat} (h : ∀ j, j < n → f j = some (g j)) : vp_cell cA (n, .inr (.inr (.inr (.inr f)))) = vp_cell cA (mref n g) := by
  show arrV cA n (fun j => va_rf (f j)) = arrV cA n (fun j => va_rf (some (g j)))
  exact arrV_cong (fun j hj => by rw [h j hj])
theorem celli_cong {cA : ClassId} {n : Nat} {f g : Nat → Int32} (h : ∀ j, j < n → f j = g j) : vp_cell cA (n, .inl f) = vp_cell cA (n, .inl g) := by
  show arrV cA n (fun j => .int (f j)) = arrV cA n (fun j => .int (g j))
  exact arrV_cong (fun j hj => by rw [h j hj])
def pick (a : List Nat) (i : Nat) : Nat := a.getD i 0
theorem oi1 : Cond.instanceMethod Lib.objectInit ∈ lwG := in_lwG (by decide +kernel) rfl
theorem oi2 : Cond.code Lib.objectInit ⟨#[0xb1]⟩ 1 none ∈ lwG := in_lwG (by decide +kernel) rfl
theorem acI : Cond.arrayClass .int ∈ lwG := in_lwG (by decide +kernel) rfl
theorem acB : Cond.arrayClass .byte ∈ lwG := in_lwG (by decide +kernel) rfl
theorem acJ : Cond.arrayClass .long ∈ lwG := in_lwG (by decide +kernel) rfl
def prtL (cyf : Nat → ClassId) (q : Nat) : va_W := (q, .inl (cyf 8, mref 8 (fun j => q + 1 + j))) :: (List.range 8).map (fun j => (q + 1 + j, (Sum.inl (cyf 0, 96, .inl (fun _ => 0)) : va_E)))
theorem g_aald {l : Launch} {D : va_G} {cyf : Nat → ClassId} {mi : Ki} {C S : Nat} {Φ : va_W → Prop} {pc : Nat} {lv : List (Nat × Value)} {rest : List Value} {ws : va_W} {cu su : Nat} (q0 t0 v : Nat) {C0 : String} {a n : Nat} {f : Nat → Option Nat} {i : Int32} (ha : ws[q0]? = some (a, .inl (cyf t0, n, .inr (.inr (.inr (.inr f)))))) (ht : (tysC cyf)[t0]? = some (cyf t0, .object C0)) (hf : f i.toNatClampNeg = some v) (hin : vp_in i n) (hd : decode mi.2.1 pc = .ok (.aaload, 1)) (h : GG l D cyf mi C S Φ (pc + 1) lv (.ref v :: rest) ws cu su) : GG l D cyf mi C S Φ pc lv (.int i :: .ref a :: rest) ws cu su := by
  intro p e Rm s m args below meth c A Q K H locs ls hP hD hS hl kr
  refine va_aldq K.1 K.2.1 K.2.2.2.2.2.2.2.1 hP q0 t0 ha ht hin hd ?_
  rw [hf]
  exact h p e Rm s m args below meth c A Q K H locs ls hP hD hS hl kr
theorem ol_X0 : Cond.methodLink RX0 3 Lib.objectInit ∈ lwG := in_lwG (by decide +kernel) rfl
theorem ck_X0 : cOk yX0_init cX0_init 1 2 := ⟨in_lwG (by decide +kernel) rfl, in_lwG (by decide +kernel) rfl, by decide +kernel, ⟨by decide +kernel, by decide +kernel⟩, rfl, in_lwG (by decide +kernel) rfl, in_lwG (by decide +kernel) rfl, by decide +kernel⟩
theorem df_X0 : ∀ j, j < 2 → defaultValue (tyX0 j) = vp_V [.null, .null] j := by
  intro j hj
  rcases (show j = 0 ∨ j = 1 by omega) with rfl | rfl <;> rfl
theorem ol_X1 : Cond.methodLink RX1 3 Lib.objectInit ∈ lwG := in_lwG (by decide +kernel) rfl
theorem ck_X1 : cOk yX1_init cX1_init 1 5 := ⟨in_lwG (by decide +kernel) rfl, in_lwG (by decide +kernel) rfl, by decide +kernel, ⟨by decide +kernel, by decide +kernel⟩, rfl, in_lwG (by decide +kernel) rfl, in_lwG (by decide +kernel) rfl, by decide +kernel⟩
theorem df_X1 : ∀ j, j < 5 → defaultValue (tyX1 j) = vp_V [.null, .null, .null, .null, .int 0] j := by
  intro j hj
  rcases (show j = 0 ∨ j = 1 ∨ j = 2 ∨ j = 3 ∨ j = 4 by omega) with rfl | rfl | rfl | rfl | rfl <;> rfl
theorem ol_X2 : Cond.methodLink RX2 3 Lib.objectInit ∈ lwG := in_lwG (by decide +kernel) rfl
theorem ck_X2 : cOk yX2_init cX2_init 1 9 := ⟨in_lwG (by decide +kernel) rfl, in_lwG (by decide +kernel) rfl, by decide +kernel, ⟨by decide +kernel, by decide +kernel⟩, rfl, in_lwG (by decide +kernel) rfl, in_lwG (by decide +kernel) rfl, by decide +kernel⟩
theorem df_X2 : ∀ j, j < 9 → defaultValue (tyX2 j) = vp_V [.int 0, .int 0, .int 0, .int 0, .int 0, .int 0, .int 0, .long 0, .long 0] j := by
  intro j hj
  rcases (show j = 0 ∨ j = 1 ∨ j = 2 ∨ j = 3 ∨ j = 4 ∨ j = 5 ∨ j = 6 ∨ j = 7 ∨ j = 8 by omega) with rfl | rfl | rfl | rfl | rfl | rfl | rfl | rfl | rfl <;> rfl
theorem ol_X3 : Cond.methodLink RX3 3 Lib.objectInit ∈ lwG := in_lwG (by decide +kernel) rfl
theorem ck_X3 : cOk yX3_init cX3_init 1 2 := ⟨in_lwG (by decide +kernel) rfl, in_lwG (by decide +kernel) rfl, by decide +kernel, ⟨by decide +kernel, by decide +kernel⟩, rfl, in_lwG (by decide +kernel) rfl, in_lwG (by decide +kernel) rfl, by decide +kernel⟩
theorem df_X3 : ∀ j, j < 2 → defaultValue (tyX3 j) = vp_V [.null, .int 0] j := by
  intro j hj
  rcases (show j = 0 ∨ j = 1 by omega) with rfl | rfl <;> rfl
theorem ol_X4 : Cond.methodLink RX4 3 Lib.objectInit ∈ lwG := in_lwG (by decide +kernel) rfl
theorem ck_X4 : cOk yX4_init cX4_init 2 2 := ⟨in_lwG (by decide +kernel) rfl, in_lwG (by decide +kernel) rfl, by decide +kernel, ⟨by decide +kernel, by decide +kernel⟩, rfl, in_lwG (by decide +kernel) rfl, in_lwG (by decide +kernel) rfl, by decide +kernel⟩
theorem df_X4 : ∀ j, j < 2 → defaultValue (tyX4 j) = vp_V [.null, .int 0] j := by
  intro j hj
  rcases (show j = 0 ∨ j = 1 by omega) with rfl | rfl <;> rfl
theorem ol_X5 : Cond.methodLink RX5 3 Lib.objectInit ∈ lwG := in_lwG (by decide +kernel) rfl
theorem ck_X5 : cOk yX5_init cX5_init 1 2 := ⟨in_lwG (by decide +kernel) rfl, in_lwG (by decide +kernel) rfl, by decide +kernel, ⟨by decide +kernel, by decide +kernel⟩, rfl, in_lwG (by decide +kernel) rfl, in_lwG (by decide +kernel) rfl, by decide +kernel⟩
theorem df_X5 : ∀ j, j < 2 → defaultValue (tyX5 j) = vp_V [.null, .int 0] j := by
  intro j hj
  rcases (show j = 0 ∨ j = 1 by omega) with rfl | rfl <;> rfl
theorem ol_X6 : Cond.methodLink RX6 3 Lib.objectInit ∈ lwG := in_lwG (by decide +kernel) rfl
theorem ck_X6 : cOk yX6_init cX6_init 1 1 := ⟨in_lwG (by decide +kernel) rfl, in_lwG (by decide +kernel) rfl, by decide +kernel, ⟨by decide +kernel, by decide +kernel⟩, rfl, in_lwG (by decide +kernel) rfl, in_lwG (by decide +kernel) rfl, by decide +kernel⟩
theorem df_X6 : ∀ j, j < 1 → defaultValue (tyX6 j) = vp_V [.null] j := by
  intro j hj
  rcases (show j = 0 by omega) with rfl <;> rfl
theorem ol_X7 : Cond.methodLink RX7 1 Lib.objectInit ∈ lwG := in_lwG (by decide +kernel) rfl
theorem ck_X7 : cOk yX7_init cX7_init 2 15 := ⟨in_lwG (by decide +kernel) rfl, in_lwG (by decide +kernel) rfl, by decide +kernel, ⟨by decide +kernel, by decide +kernel⟩, rfl, in_lwG (by decide +kernel) rfl, in_lwG (by decide +kernel) rfl, by decide +kernel⟩
theorem df_X7 : ∀ j, j < 15 → defaultValue (tyX7 j) = vp_V [.null, .null, .null, .null, .null, .null, .null, .null, .null, .null, .null, .int 0, .int 0, .long 0, .long 0] j := by
  intro j hj
  rcases (show j = 0 ∨ j = 1 ∨ j = 2 ∨ j = 3 ∨ j = 4 ∨ j = 5 ∨ j = 6 ∨ j = 7 ∨ j = 8 ∨ j = 9 ∨ j = 10 ∨ j = 11 ∨ j = 12 ∨ j = 13 ∨ j = 14 by omega) with rfl | rfl | rfl | rfl | rfl | rfl | rfl | rfl | rfl | rfl | rfl | rfl | rfl | rfl | rfl <;> rfl
theorem ol_X8 : Cond.methodLink RX8 1 Lib.objectInit ∈ lwG := in_lwG (by decide +kernel) rfl
theorem ck_X8 : cOk yX8_init cX8_init 2 33 := ⟨in_lwG (by decide +kernel) rfl, in_lwG (by decide +kernel) rfl, by decide +kernel, ⟨by decide +kernel, by decide +kernel⟩, rfl, in_lwG (by decide +kernel) rfl, in_lwG (by decide +kernel) rfl, by decide +kernel⟩
theorem df_X8 : ∀ j, j < 33 → defaultValue (tyX8 j) = vp_V [.int 0, .int 0, .long 0, .long 0, .int 0, .null, .null, .null, .null, .null, .int 0, .null, .null, .null, .null, .null, .int 0, .null, .null, .null, .null, .null, .null, .null, .null, .null, .null, .int 0, .int 0, .int 0, .int 0, .null, .null] j := by
  intro j hj
  rcases (show j = 0 ∨ j = 1 ∨ j = 2 ∨ j = 3 ∨ j = 4 ∨ j = 5 ∨ j = 6 ∨ j = 7 ∨ j = 8 ∨ j = 9 ∨ j = 10 ∨ j = 11 ∨ j = 12 ∨ j = 13 ∨ j = 14 ∨ j = 15 ∨ j = 16 ∨ j = 17 ∨ j = 18 ∨ j = 19 ∨ j = 20 ∨ j = 21 ∨ j = 22 ∨ j = 23 ∨ j = 24 ∨ j = 25 ∨ j = 26 ∨ j = 27 ∨ j = 28 ∨ j = 29 ∨ j = 30 ∨ j = 31 ∨ j = 32 by omega) with rfl | rfl | rfl | rfl | rfl | rfl | rfl | rfl | rfl | rfl | rfl | rfl | rfl | rfl | rfl | rfl | rfl | rfl | rfl | rfl | rfl | rfl | rfl | rfl | rfl | rfl | rfl | rfl | rfl | rfl | rfl | rfl | rfl <;> rfl
theorem cl_RX4_9 : Cond.classLink RX4 9 RX2 ∈ lwG := in_lwG (by decide +kernel) rfl
theorem cl_RX7_9 : Cond.classLink RX7 9 RX3 ∈ lwG := in_lwG (by decide +kernel) rfl
theorem cl_RX7_15 : Cond.classLink RX7 15 RX5 ∈ lwG := in_lwG (by decide +kernel) rfl
theorem cl_RX7_21 : Cond.classLink RX7 21 RX4 ∈ lwG := in_lwG (by decide +kernel) rfl
theorem cl_RX7_28 : Cond.classLink RX7 28 RX1 ∈ lwG := in_lwG (by decide +kernel) rfl
theorem cl_RX7_46 : Cond.classLink RX7 46 RX0 ∈ lwG := in_lwG (by decide +kernel) rfl
theorem cl_RX7_53 : Cond.classLink RX7 53 RX6 ∈ lwG := in_lwG (by decide +kernel) rfl
theorem cl_RX7_60 : Cond.classLink RX7 60 "[[I" ∈ lwG := in_lwG (by decide +kernel) rfl
theorem ml_RX7_23 : Cond.methodLink RX7 23 yX4_init ∈ lwG := in_lwG (by decide +kernel) rfl

set_option maxRecDepth 8000 in
set_option maxHeartbeats 8000000 in
theorem gc_X2 (l : Launch) (D : va_G) (cyf : Nat → ClassId) (h : Nat) : GG l D cyf (RX2, cX2_init, 1, 1) 0 0 (fun wn => wn = [(h, pnC)]) 0 [(0, .ref h)] [] [(h, .inr (2, [.int 0, .int 0, .int 0, .int 0, .int 0, .int 0, .int 0, .long 0, .long 0]))] 0 0 := by
  refine g_aload 0 dX2_init_0 rfl rfl ?_
  refine g_obj ol_X2 oi1 oi2 (by decide) dX2_init_1 ?_
  refine g_aload 0 dX2_init_4 rfl rfl ?_
  refine g_iconst (0 : Int32) dX2_init_5 (by decide) ?_
  refine g_put (ty0 := tyX2) 0 0 ((h, .inr (2, [.int (0 : Int32), .int 0, .int 0, .int 0, .int 0, .int 0, .int 0, .long 0, .long 0])) :: ([] : va_W)) rfl rfl inG2 tyX2_ok nmX2 (by decide) lf_RX2_9 rfl (tyX2_ok 0 (by decide)) rfl rfl (Nat.le_of_ble_eq_true rfl) rfl dX2_init_6 ?_
  refine g_aload 0 dX2_init_9 rfl rfl ?_
  refine g_iconst (0 : Int32) dX2_init_10 (by decide) ?_
  refine g_put (ty0 := tyX2) 0 1 ((h, .inr (2, [.int (0 : Int32), .int (0 : Int32), .int 0, .int 0, .int 0, .int 0, .int 0, .long 0, .long 0])) :: ([] : va_W)) rfl rfl inG2 tyX2_ok nmX2 (by decide) lf_RX2_15 rfl (tyX2_ok 1 (by decide)) rfl rfl (Nat.le_of_ble_eq_true rfl) rfl dX2_init_11 ?_
  refine g_aload 0 dX2_init_14 rfl rfl ?_
  refine g_iconst (0 : Int32) dX2_init_15 (by decide) ?_
  refine g_put (ty0 := tyX2) 0 2 ((h, .inr (2, [.int (0 : Int32), .int (0 : Int32), .int (0 : Int32), .int 0, .int 0, .int 0, .int 0, .long 0, .long 0])) :: ([] : va_W)) rfl rfl inG2 tyX2_ok nmX2 (by decide) lf_RX2_18 rfl (tyX2_ok 2 (by decide)) rfl rfl (Nat.le_of_ble_eq_true rfl) rfl dX2_init_16 ?_
  refine g_aload 0 dX2_init_19 rfl rfl ?_
  refine g_iconst (1 : Int32) dX2_init_20 (by decide) ?_
  refine g_put (ty0 := tyX2) 0 3 ((h, .inr (2, [.int (0 : Int32), .int (0 : Int32), .int (0 : Int32), .int (1 : Int32), .int 0, .int 0, .int 0, .long 0, .long 0])) :: ([] : va_W)) rfl rfl inG2 tyX2_ok nmX2 (by decide) lf_RX2_21 rfl (tyX2_ok 3 (by decide)) rfl rfl (Nat.le_of_ble_eq_true rfl) rfl dX2_init_21 ?_
  refine g_aload 0 dX2_init_24 rfl rfl ?_
  refine g_iconst (1 : Int32) dX2_init_25 (by decide) ?_
  refine g_put (ty0 := tyX2) 0 4 ((h, .inr (2, [.int (0 : Int32), .int (0 : Int32), .int (0 : Int32), .int (1 : Int32), .int (1 : Int32), .int 0, .int 0, .long 0, .long 0])) :: ([] : va_W)) rfl rfl inG2 tyX2_ok nmX2 (by decide) lf_RX2_24 rfl (tyX2_ok 4 (by decide)) rfl rfl (Nat.le_of_ble_eq_true rfl) rfl dX2_init_26 ?_
  refine g_aload 0 dX2_init_29 rfl rfl ?_
  refine g_iconst (0 : Int32) dX2_init_30 (by decide) ?_
  refine g_put (ty0 := tyX2) 0 5 ((h, .inr (2, [.int (0 : Int32), .int (0 : Int32), .int (0 : Int32), .int (1 : Int32), .int (1 : Int32), .int (0 : Int32), .int 0, .long 0, .long 0])) :: ([] : va_W)) rfl rfl inG2 tyX2_ok nmX2 (by decide) lf_RX2_27 rfl (tyX2_ok 5 (by decide)) rfl rfl (Nat.le_of_ble_eq_true rfl) rfl dX2_init_31 ?_
  refine g_aload 0 dX2_init_34 rfl rfl ?_
  refine g_iconst (1 : Int32) dX2_init_35 (by decide) ?_
  refine g_put (ty0 := tyX2) 0 6 ((h, .inr (2, [.int (0 : Int32), .int (0 : Int32), .int (0 : Int32), .int (1 : Int32), .int (1 : Int32), .int (0 : Int32), .int (1 : Int32), .long 0, .long 0])) :: ([] : va_W)) rfl rfl inG2 tyX2_ok nmX2 (by decide) lf_RX2_30 rfl (tyX2_ok 6 (by decide)) rfl rfl (Nat.le_of_ble_eq_true rfl) rfl dX2_init_36 ?_
  refine g_aload 0 dX2_init_39 rfl rfl ?_
  refine g_lconst (0 : Int64) dX2_init_40 (by decide) ?_
  refine g_put (ty0 := tyX2) 0 7 ((h, .inr (2, [.int (0 : Int32), .int (0 : Int32), .int (0 : Int32), .int (1 : Int32), .int (1 : Int32), .int (0 : Int32), .int (1 : Int32), .long (0 : Int64), .long 0])) :: ([] : va_W)) rfl rfl inG2 tyX2_ok nmX2 (by decide) lf_RX2_34 rfl (tyX2_ok 7 (by decide)) rfl rfl (Nat.le_of_ble_eq_true rfl) rfl dX2_init_41 ?_
  refine g_aload 0 dX2_init_44 rfl rfl ?_
  refine g_lconst (0 : Int64) dX2_init_45 (by decide) ?_
  refine g_put (ty0 := tyX2) 0 8 ((h, .inr (2, [.int (0 : Int32), .int (0 : Int32), .int (0 : Int32), .int (1 : Int32), .int (1 : Int32), .int (0 : Int32), .int (1 : Int32), .long (0 : Int64), .long (0 : Int64)])) :: ([] : va_W)) rfl rfl inG2 tyX2_ok nmX2 (by decide) lf_RX2_38 rfl (tyX2_ok 8 (by decide)) rfl rfl (Nat.le_of_ble_eq_true rfl) rfl dX2_init_46 ?_
  exact g_ret dX2_init_49 rfl
set_option maxRecDepth 8000 in
set_option maxHeartbeats 8000000 in
theorem gc_X3 (l : Launch) (D : va_G) (cyf : Nat → ClassId) (h : Nat) : GG l D cyf (RX3, cX3_init, 1, 1) 1 40 (fun wn => ∃ u, wn = rowL cyf h u) 0 [(0, .ref h)] [] [(h, .inr (3, [.null, .int 0]))] 0 0 := by
  refine g_aload 0 dX3_init_0 rfl rfl ?_
  refine g_obj ol_X3 oi1 oi2 (by decide) dX3_init_1 ?_
  refine g_aload 0 dX3_init_4 rfl rfl ?_
  refine g_bipush (40 : Int32) dX3_init_5 (by decide) ?_
  refine g_newa (atype := .int) (N' := 40) (a0 := (40, .inl (fun _ => 0))) 0 rfl rfl acI (fun _ => rfl) (by decide) (by decide) (Nat.le_of_ble_eq_true rfl) 1 40 rfl rfl (Nat.le_of_ble_eq_true rfl) (Nat.le_of_ble_eq_true rfl) dX3_init_7 (fun a1 => ?_)
  refine g_ws ((h, .inr (3, [.null, .int 0])) :: ((a1, .inl (cyf 0, 40, .inl (fun _ => 0))) :: ([] : va_W))) rfl ?_
  refine g_putF (ty0 := tyX3) 0 0 ((h, .inr (3, [.ref a1, .int 0])) :: ((a1, .inl (cyf 0, 40, .inl (fun _ => 0))) :: ([] : va_W))) rfl rfl inG3 tyX3_ok nmX3 (by decide) lf_RX3_9 rfl rfl (tyX3_ok 0 (by decide)) rfl rfl (Nat.le_of_ble_eq_true rfl) rfl dX3_init_9 ?_
  refine g_aload 0 dX3_init_12 rfl rfl ?_
  refine g_iconst (-1 : Int32) dX3_init_13 (by decide) ?_
  refine g_put (ty0 := tyX3) 0 1 ((h, .inr (3, [.ref a1, .int (-1 : Int32)])) :: ((a1, .inl (cyf 0, 40, .inl (fun _ => 0))) :: ([] : va_W))) rfl rfl inG3 tyX3_ok nmX3 (by decide) lf_RX3_15 rfl (tyX3_ok 1 (by decide)) rfl rfl (Nat.le_of_ble_eq_true rfl) rfl dX3_init_14 ?_
  exact g_ret dX3_init_17 ⟨_, rfl⟩
set_option maxRecDepth 8000 in
set_option maxHeartbeats 8000000 in
theorem gc_X5 (l : Launch) (D : va_G) (cyf : Nat → ClassId) (h : Nat) : GG l D cyf (RX5, cX5_init, 1, 1) 1 60 (fun wn => ∃ u, wn = txtL cyf h u) 0 [(0, .ref h)] [] [(h, .inr (5, [.null, .int 0]))] 0 0 := by
  refine g_aload 0 dX5_init_0 rfl rfl ?_
  refine g_obj ol_X5 oi1 oi2 (by decide) dX5_init_1 ?_
  refine g_aload 0 dX5_init_4 rfl rfl ?_
  refine g_bipush (60 : Int32) dX5_init_5 (by decide) ?_
  refine g_newa (atype := .byte) (N' := 60) (a0 := (60, .inl (fun _ => 0))) 1 rfl rfl acB (fun _ => rfl) (by decide) (by decide) (Nat.le_of_ble_eq_true rfl) 1 60 rfl rfl (Nat.le_of_ble_eq_true rfl) (Nat.le_of_ble_eq_true rfl) dX5_init_7 (fun a1 => ?_)
  refine g_ws ((h, .inr (5, [.null, .int 0])) :: ((a1, .inl (cyf 1, 60, .inl (fun _ => 0))) :: ([] : va_W))) rfl ?_
  refine g_putF (ty0 := tyX5) 0 0 ((h, .inr (5, [.ref a1, .int 0])) :: ((a1, .inl (cyf 1, 60, .inl (fun _ => 0))) :: ([] : va_W))) rfl rfl inG5 tyX5_ok nmX5 (by decide) lf_RX5_9 rfl rfl (tyX5_ok 0 (by decide)) rfl rfl (Nat.le_of_ble_eq_true rfl) rfl dX5_init_9 ?_
  refine g_aload 0 dX5_init_12 rfl rfl ?_
  refine g_iconst (-1 : Int32) dX5_init_13 (by decide) ?_
  refine g_put (ty0 := tyX5) 0 1 ((h, .inr (5, [.ref a1, .int (-1 : Int32)])) :: ((a1, .inl (cyf 1, 60, .inl (fun _ => 0))) :: ([] : va_W))) rfl rfl inG5 tyX5_ok nmX5 (by decide) lf_RX5_15 rfl (tyX5_ok 1 (by decide)) rfl rfl (Nat.le_of_ble_eq_true rfl) rfl dX5_init_14 ?_
  exact g_ret dX5_init_17 ⟨_, rfl⟩
set_option maxRecDepth 8000 in
set_option maxHeartbeats 8000000 in
theorem gc_X6 (l : Launch) (D : va_G) (cyf : Nat → ClassId) (h : Nat) : GG l D cyf (RX6, cX6_init, 1, 1) 1 128 (fun wn => ∃ u, wn = turL cyf h u) 0 [(0, .ref h)] [] [(h, .inr (6, [.null]))] 0 0 := by
  refine g_aload 0 dX6_init_0 rfl rfl ?_
  refine g_obj ol_X6 oi1 oi2 (by decide) dX6_init_1 ?_
  refine g_aload 0 dX6_init_4 rfl rfl ?_
  refine g_sipush (128 : Int32) dX6_init_5 (by decide) ?_
  refine g_newa (atype := .int) (N' := 128) (a0 := (128, .inl (fun _ => 0))) 0 rfl rfl acI (fun _ => rfl) (by decide) (by decide) (Nat.le_of_ble_eq_true rfl) 1 128 rfl rfl (Nat.le_of_ble_eq_true rfl) (Nat.le_of_ble_eq_true rfl) dX6_init_8 (fun a1 => ?_)
  refine g_ws ((h, .inr (6, [.null])) :: ((a1, .inl (cyf 0, 128, .inl (fun _ => 0))) :: ([] : va_W))) rfl ?_
  refine g_putF (ty0 := tyX6) 0 0 ((h, .inr (6, [.ref a1])) :: ((a1, .inl (cyf 0, 128, .inl (fun _ => 0))) :: ([] : va_W))) rfl rfl inG6 tyX6_ok nmX6 (by decide) lf_RX6_9 rfl rfl (tyX6_ok 0 (by decide)) rfl rfl (Nat.le_of_ble_eq_true rfl) rfl dX6_init_10 ?_
  exact g_ret dX6_init_13 ⟨_, rfl⟩
set_option maxRecDepth 8000 in
set_option maxHeartbeats 8000000 in
theorem gc_X0 (l : Launch) (D : va_G) (cyf : Nat → ClassId) (h : Nat) : GG l D cyf (RX0, cX0_init, 1, 1) 2 256 (fun wn => ∃ u, wn = besL cyf h u) 0 [(0, .ref h)] [] [(h, .inr (0, [.null, .null]))] 0 0 := by
  refine g_aload 0 dX0_init_0 rfl rfl ?_
  refine g_obj ol_X0 oi1 oi2 (by decide) dX0_init_1 ?_
  refine g_aload 0 dX0_init_4 rfl rfl ?_
  refine g_sipush (128 : Int32) dX0_init_5 (by decide) ?_
  refine g_newa (atype := .int) (N' := 128) (a0 := (128, .inl (fun _ => 0))) 0 rfl rfl acI (fun _ => rfl) (by decide) (by decide) (Nat.le_of_ble_eq_true rfl) 1 128 rfl rfl (Nat.le_of_ble_eq_true rfl) (Nat.le_of_ble_eq_true rfl) dX0_init_8 (fun a1 => ?_)
  refine g_ws ((h, .inr (0, [.null, .null])) :: ((a1, .inl (cyf 0, 128, .inl (fun _ => 0))) :: ([] : va_W))) rfl ?_
  refine g_putF (ty0 := tyX0) 0 0 ((h, .inr (0, [.ref a1, .null])) :: ((a1, .inl (cyf 0, 128, .inl (fun _ => 0))) :: ([] : va_W))) rfl rfl inG0 tyX0_ok nmX0 (by decide) lf_RX0_9 rfl rfl (tyX0_ok 0 (by decide)) rfl rfl (Nat.le_of_ble_eq_true rfl) rfl dX0_init_10 ?_
  refine g_aload 0 dX0_init_13 rfl rfl ?_
  refine g_sipush (128 : Int32) dX0_init_14 (by decide) ?_
  refine g_newa (atype := .int) (N' := 128) (a0 := (128, .inl (fun _ => 0))) 0 rfl rfl acI (fun _ => rfl) (by decide) (by decide) (Nat.le_of_ble_eq_true rfl) 2 256 rfl rfl (Nat.le_of_ble_eq_true rfl) (Nat.le_of_ble_eq_true rfl) dX0_init_17 (fun a2 => ?_)
  refine g_ws ((h, .inr (0, [.ref a1, .null])) :: ((a1, .inl (cyf 0, 128, .inl (fun _ => 0))) :: ((a2, .inl (cyf 0, 128, .inl (fun _ => 0))) :: ([] : va_W)))) rfl ?_
  refine g_putF (ty0 := tyX0) 0 1 ((h, .inr (0, [.ref a1, .ref a2])) :: ((a1, .inl (cyf 0, 128, .inl (fun _ => 0))) :: ((a2, .inl (cyf 0, 128, .inl (fun _ => 0))) :: ([] : va_W)))) rfl rfl inG0 tyX0_ok nmX0 (by decide) lf_RX0_15 rfl rfl (tyX0_ok 1 (by decide)) rfl rfl (Nat.le_of_ble_eq_true rfl) rfl dX0_init_19 ?_
  exact g_ret dX0_init_22 ⟨pick [a1, a2], rfl⟩
set_option maxRecDepth 8000 in
set_option maxHeartbeats 8000000 in
theorem gc_X1 (l : Launch) (D : va_G) (cyf : Nat → ClassId) (h : Nat) : GG l D cyf (RX1, cX1_init, 1, 1) 4 160 (fun wn => ∃ u, wn = dedL cyf h u (0 : Int32)) 0 [(0, .ref h)] [] [(h, .inr (1, [.null, .null, .null, .null, .int 0]))] 0 0 := by
  refine g_aload 0 dX1_init_0 rfl rfl ?_
  refine g_obj ol_X1 oi1 oi2 (by decide) dX1_init_1 ?_
  refine g_aload 0 dX1_init_4 rfl rfl ?_
  refine g_bipush (40 : Int32) dX1_init_5 (by decide) ?_
  refine g_newa (atype := .int) (N' := 40) (a0 := (40, .inl (fun _ => 0))) 0 rfl rfl acI (fun _ => rfl) (by decide) (by decide) (Nat.le_of_ble_eq_true rfl) 1 40 rfl rfl (Nat.le_of_ble_eq_true rfl) (Nat.le_of_ble_eq_true rfl) dX1_init_7 (fun a1 => ?_)
  refine g_ws ((h, .inr (1, [.null, .null, .null, .null, .int 0])) :: ((a1, .inl (cyf 0, 40, .inl (fun _ => 0))) :: ([] : va_W))) rfl ?_
  refine g_putF (ty0 := tyX1) 0 0 ((h, .inr (1, [.ref a1, .null, .null, .null, .int 0])) :: ((a1, .inl (cyf 0, 40, .inl (fun _ => 0))) :: ([] : va_W))) rfl rfl inG1 tyX1_ok nmX1 (by decide) lf_RX1_9 rfl rfl (tyX1_ok 0 (by decide)) rfl rfl (Nat.le_of_ble_eq_true rfl) rfl dX1_init_9 ?_
  refine g_aload 0 dX1_init_12 rfl rfl ?_
  refine g_bipush (40 : Int32) dX1_init_13 (by decide) ?_
  refine g_newa (atype := .int) (N' := 40) (a0 := (40, .inl (fun _ => 0))) 0 rfl rfl acI (fun _ => rfl) (by decide) (by decide) (Nat.le_of_ble_eq_true rfl) 2 80 rfl rfl (Nat.le_of_ble_eq_true rfl) (Nat.le_of_ble_eq_true rfl) dX1_init_15 (fun a2 => ?_)
  refine g_ws ((h, .inr (1, [.ref a1, .null, .null, .null, .int 0])) :: ((a1, .inl (cyf 0, 40, .inl (fun _ => 0))) :: ((a2, .inl (cyf 0, 40, .inl (fun _ => 0))) :: ([] : va_W)))) rfl ?_
  refine g_putF (ty0 := tyX1) 0 1 ((h, .inr (1, [.ref a1, .ref a2, .null, .null, .int 0])) :: ((a1, .inl (cyf 0, 40, .inl (fun _ => 0))) :: ((a2, .inl (cyf 0, 40, .inl (fun _ => 0))) :: ([] : va_W)))) rfl rfl inG1 tyX1_ok nmX1 (by decide) lf_RX1_15 rfl rfl (tyX1_ok 1 (by decide)) rfl rfl (Nat.le_of_ble_eq_true rfl) rfl dX1_init_17 ?_
  refine g_aload 0 dX1_init_20 rfl rfl ?_
  refine g_bipush (40 : Int32) dX1_init_21 (by decide) ?_
  refine g_newa (atype := .int) (N' := 40) (a0 := (40, .inl (fun _ => 0))) 0 rfl rfl acI (fun _ => rfl) (by decide) (by decide) (Nat.le_of_ble_eq_true rfl) 3 120 rfl rfl (Nat.le_of_ble_eq_true rfl) (Nat.le_of_ble_eq_true rfl) dX1_init_23 (fun a3 => ?_)
  refine g_ws ((h, .inr (1, [.ref a1, .ref a2, .null, .null, .int 0])) :: ((a1, .inl (cyf 0, 40, .inl (fun _ => 0))) :: ((a2, .inl (cyf 0, 40, .inl (fun _ => 0))) :: ((a3, .inl (cyf 0, 40, .inl (fun _ => 0))) :: ([] : va_W))))) rfl ?_
  refine g_putF (ty0 := tyX1) 0 2 ((h, .inr (1, [.ref a1, .ref a2, .ref a3, .null, .int 0])) :: ((a1, .inl (cyf 0, 40, .inl (fun _ => 0))) :: ((a2, .inl (cyf 0, 40, .inl (fun _ => 0))) :: ((a3, .inl (cyf 0, 40, .inl (fun _ => 0))) :: ([] : va_W))))) rfl rfl inG1 tyX1_ok nmX1 (by decide) lf_RX1_18 rfl rfl (tyX1_ok 2 (by decide)) rfl rfl (Nat.le_of_ble_eq_true rfl) rfl dX1_init_25 ?_
  refine g_aload 0 dX1_init_28 rfl rfl ?_
  refine g_bipush (40 : Int32) dX1_init_29 (by decide) ?_
  refine g_newa (atype := .int) (N' := 40) (a0 := (40, .inl (fun _ => 0))) 0 rfl rfl acI (fun _ => rfl) (by decide) (by decide) (Nat.le_of_ble_eq_true rfl) 4 160 rfl rfl (Nat.le_of_ble_eq_true rfl) (Nat.le_of_ble_eq_true rfl) dX1_init_31 (fun a4 => ?_)
  refine g_ws ((h, .inr (1, [.ref a1, .ref a2, .ref a3, .null, .int 0])) :: ((a1, .inl (cyf 0, 40, .inl (fun _ => 0))) :: ((a2, .inl (cyf 0, 40, .inl (fun _ => 0))) :: ((a3, .inl (cyf 0, 40, .inl (fun _ => 0))) :: ((a4, .inl (cyf 0, 40, .inl (fun _ => 0))) :: ([] : va_W)))))) rfl ?_
  refine g_putF (ty0 := tyX1) 0 3 ((h, .inr (1, [.ref a1, .ref a2, .ref a3, .ref a4, .int 0])) :: ((a1, .inl (cyf 0, 40, .inl (fun _ => 0))) :: ((a2, .inl (cyf 0, 40, .inl (fun _ => 0))) :: ((a3, .inl (cyf 0, 40, .inl (fun _ => 0))) :: ((a4, .inl (cyf 0, 40, .inl (fun _ => 0))) :: ([] : va_W)))))) rfl rfl inG1 tyX1_ok nmX1 (by decide) lf_RX1_21 rfl rfl (tyX1_ok 3 (by decide)) rfl rfl (Nat.le_of_ble_eq_true rfl) rfl dX1_init_33 ?_
  refine g_aload 0 dX1_init_36 rfl rfl ?_
  refine g_iconst (0 : Int32) dX1_init_37 (by decide) ?_
  refine g_put (ty0 := tyX1) 0 4 ((h, .inr (1, [.ref a1, .ref a2, .ref a3, .ref a4, .int (0 : Int32)])) :: ((a1, .inl (cyf 0, 40, .inl (fun _ => 0))) :: ((a2, .inl (cyf 0, 40, .inl (fun _ => 0))) :: ((a3, .inl (cyf 0, 40, .inl (fun _ => 0))) :: ((a4, .inl (cyf 0, 40, .inl (fun _ => 0))) :: ([] : va_W)))))) rfl rfl inG1 tyX1_ok nmX1 (by decide) lf_RX1_24 rfl (tyX1_ok 4 (by decide)) rfl rfl (Nat.le_of_ble_eq_true rfl) rfl dX1_init_38 ?_
  exact g_ret dX1_init_41 ⟨pick [a1, a2, a3, a4], rfl⟩
set_option maxRecDepth 8000 in
set_option maxHeartbeats 8000000 in
theorem gc_X4 (l : Launch) (D : va_G) (cyf : Nat → ClassId) (h : Nat) : GG l D cyf (RX4, cX4_init, 2, 2) 8 70 (fun wn => ∃ u, wn = scrL cyf h u) 0 [(0, .ref h)] [] [(h, .inr (4, [.null, .int 0]))] 0 0 := by
  refine g_aload 0 dX4_init_0 rfl rfl ?_
  refine g_obj ol_X4 oi1 oi2 (by decide) dX4_init_1 ?_
  refine g_aload 0 dX4_init_4 rfl rfl ?_
  refine g_bipush (7 : Int32) dX4_init_5 (by decide) ?_
  refine g_anew 7 (C0 := RX2) rfl (by decide) cl_RX4_9 7 (by decide) (by decide) (Nat.le_of_ble_eq_true rfl) 1 7 rfl rfl (Nat.le_of_ble_eq_true rfl) (Nat.le_of_ble_eq_true rfl) dX4_init_7 (fun a1 => ?_)
  refine g_ws ((h, .inr (4, [.null, .int 0])) :: ((a1, .inl (cyf 7, 7, .inr (.inr (.inr (.inr (fun _ => none)))))) :: ([] : va_W))) rfl ?_
  refine g_putF (ty0 := tyX4) 0 0 ((h, .inr (4, [.ref a1, .int 0])) :: ((a1, .inl (cyf 7, 7, .inr (.inr (.inr (.inr (fun _ => none)))))) :: ([] : va_W))) rfl rfl inG4 tyX4_ok nmX4 (by decide) lf_RX4_11 rfl rfl (tyX4_ok 0 (by decide)) rfl rfl (Nat.le_of_ble_eq_true rfl) rfl dX4_init_10 ?_
  refine g_aload 0 dX4_init_13 rfl rfl ?_
  refine g_iconst (0 : Int32) dX4_init_14 (by decide) ?_
  refine g_put (ty0 := tyX4) 0 1 ((h, .inr (4, [.ref a1, .int (0 : Int32)])) :: ((a1, .inl (cyf 7, 7, .inr (.inr (.inr (.inr (fun _ => none)))))) :: ([] : va_W))) rfl rfl inG4 tyX4_ok nmX4 (by decide) lf_RX4_17 rfl (tyX4_ok 1 (by decide)) rfl rfl (Nat.le_of_ble_eq_true rfl) rfl dX4_init_15 ?_
  refine g_iconst (0 : Int32) dX4_init_18 (by decide) ?_
  refine g_istore [(1, .int (0 : Int32)), (0, .ref h)] dX4_init_19 rfl (by decide) rfl ?_
  refine g_iload 0 dX4_init_20 rfl rfl ?_
  refine g_bipush (7 : Int32) dX4_init_21 (by decide) ?_
  refine g_ge_f 45 dX4_init_23 (by decide) (by decide) ?_
  refine g_aload 1 dX4_init_26 rfl rfl ?_
  refine g_get 0 0 rfl rfl inG4 (by decide) lf_RX4_11 rfl dX4_init_27 ?_
  refine g_iload 0 dX4_init_30 rfl rfl ?_
  refine g_make (gc_X2 l D cyf) ck_X2 (Or.inr (by decide +kernel)) cl_RX4_9 rfl inG2 tyX2_ok df_X2 ⟨by decide, by decide⟩ (Nat.le_of_ble_eq_true rfl) (by decide) 2 16 rfl rfl (Nat.le_of_ble_eq_true rfl) (Nat.le_of_ble_eq_true rfl) dX4_init_31 dX4_init_34 dX4_init_35 (fun q2 wn hq => ?_)
  subst hq
  refine g_ws ((h, .inr (4, [.ref a1, .int (0 : Int32)])) :: ((a1, .inl (cyf 7, 7, .inr (.inr (.inr (.inr (fun _ => none)))))) :: ([(q2, pnC)] ++ ([] : va_W)))) rfl ?_
  refine g_aast 1 7 2 2 ((h, .inr (4, [.ref a1, .int (0 : Int32)])) :: ((a1, .inl (cyf 7, 7, .inr (.inr (.inr (.inr (va_up (fun _ => none) 0 (some q2))))))) :: ([(q2, pnC)] ++ ([] : va_W)))) rfl rfl rfl rfl (ib_in rfl) rfl dX4_init_38 ?_
  refine g_iinc 0 (1 : Int32) [(1, .int (1 : Int32)), (0, .ref h)] dX4_init_39 rfl (by decide) (by decide) rfl ?_
  refine g_goto 20 dX4_init_42 (by decide) ?_
  refine g_iload 0 dX4_init_20 rfl rfl ?_
  refine g_bipush (7 : Int32) dX4_init_21 (by decide) ?_
  refine g_ge_f 45 dX4_init_23 (by decide) (by decide) ?_
  refine g_aload 1 dX4_init_26 rfl rfl ?_
  refine g_get 0 0 rfl rfl inG4 (by decide) lf_RX4_11 rfl dX4_init_27 ?_
  refine g_iload 0 dX4_init_30 rfl rfl ?_
  refine g_make (gc_X2 l D cyf) ck_X2 (Or.inr (by decide +kernel)) cl_RX4_9 rfl inG2 tyX2_ok df_X2 ⟨by decide, by decide⟩ (Nat.le_of_ble_eq_true rfl) (by decide) 3 25 rfl rfl (Nat.le_of_ble_eq_true rfl) (Nat.le_of_ble_eq_true rfl) dX4_init_31 dX4_init_34 dX4_init_35 (fun q3 wn hq => ?_)
  subst hq
  refine g_ws ((h, .inr (4, [.ref a1, .int (0 : Int32)])) :: ((a1, .inl (cyf 7, 7, .inr (.inr (.inr (.inr (va_up (fun _ => none) 0 (some q2))))))) :: ([(q2, pnC)] ++ ([(q3, pnC)] ++ ([] : va_W))))) rfl ?_
  refine g_aast 1 7 3 2 ((h, .inr (4, [.ref a1, .int (0 : Int32)])) :: ((a1, .inl (cyf 7, 7, .inr (.inr (.inr (.inr (va_up (va_up (fun _ => none) 0 (some q2)) 1 (some q3))))))) :: ([(q2, pnC)] ++ ([(q3, pnC)] ++ ([] : va_W))))) rfl rfl rfl rfl (ib_in rfl) rfl dX4_init_38 ?_
  refine g_iinc 0 (2 : Int32) [(1, .int (2 : Int32)), (0, .ref h)] dX4_init_39 rfl (by decide) (by decide) rfl ?_
  refine g_goto 20 dX4_init_42 (by decide) ?_
  refine g_iload 0 dX4_init_20 rfl rfl ?_
  refine g_bipush (7 : Int32) dX4_init_21 (by decide) ?_
  refine g_ge_f 45 dX4_init_23 (by decide) (by decide) ?_
  refine g_aload 1 dX4_init_26 rfl rfl ?_
  refine g_get 0 0 rfl rfl inG4 (by decide) lf_RX4_11 rfl dX4_init_27 ?_
  refine g_iload 0 dX4_init_30 rfl rfl ?_
  refine g_make (gc_X2 l D cyf) ck_X2 (Or.inr (by decide +kernel)) cl_RX4_9 rfl inG2 tyX2_ok df_X2 ⟨by decide, by decide⟩ (Nat.le_of_ble_eq_true rfl) (by decide) 4 34 rfl rfl (Nat.le_of_ble_eq_true rfl) (Nat.le_of_ble_eq_true rfl) dX4_init_31 dX4_init_34 dX4_init_35 (fun q4 wn hq => ?_)
  subst hq
  refine g_ws ((h, .inr (4, [.ref a1, .int (0 : Int32)])) :: ((a1, .inl (cyf 7, 7, .inr (.inr (.inr (.inr (va_up (va_up (fun _ => none) 0 (some q2)) 1 (some q3))))))) :: ([(q2, pnC)] ++ ([(q3, pnC)] ++ ([(q4, pnC)] ++ ([] : va_W)))))) rfl ?_
  refine g_aast 1 7 4 2 ((h, .inr (4, [.ref a1, .int (0 : Int32)])) :: ((a1, .inl (cyf 7, 7, .inr (.inr (.inr (.inr (va_up (va_up (va_up (fun _ => none) 0 (some q2)) 1 (some q3)) 2 (some q4))))))) :: ([(q2, pnC)] ++ ([(q3, pnC)] ++ ([(q4, pnC)] ++ ([] : va_W)))))) rfl rfl rfl rfl (ib_in rfl) rfl dX4_init_38 ?_
  refine g_iinc 0 (3 : Int32) [(1, .int (3 : Int32)), (0, .ref h)] dX4_init_39 rfl (by decide) (by decide) rfl ?_
  refine g_goto 20 dX4_init_42 (by decide) ?_
  refine g_iload 0 dX4_init_20 rfl rfl ?_
  refine g_bipush (7 : Int32) dX4_init_21 (by decide) ?_
  refine g_ge_f 45 dX4_init_23 (by decide) (by decide) ?_
  refine g_aload 1 dX4_init_26 rfl rfl ?_
  refine g_get 0 0 rfl rfl inG4 (by decide) lf_RX4_11 rfl dX4_init_27 ?_
  refine g_iload 0 dX4_init_30 rfl rfl ?_
  refine g_make (gc_X2 l D cyf) ck_X2 (Or.inr (by decide +kernel)) cl_RX4_9 rfl inG2 tyX2_ok df_X2 ⟨by decide, by decide⟩ (Nat.le_of_ble_eq_true rfl) (by decide) 5 43 rfl rfl (Nat.le_of_ble_eq_true rfl) (Nat.le_of_ble_eq_true rfl) dX4_init_31 dX4_init_34 dX4_init_35 (fun q5 wn hq => ?_)
  subst hq
  refine g_ws ((h, .inr (4, [.ref a1, .int (0 : Int32)])) :: ((a1, .inl (cyf 7, 7, .inr (.inr (.inr (.inr (va_up (va_up (va_up (fun _ => none) 0 (some q2)) 1 (some q3)) 2 (some q4))))))) :: ([(q2, pnC)] ++ ([(q3, pnC)] ++ ([(q4, pnC)] ++ ([(q5, pnC)] ++ ([] : va_W))))))) rfl ?_
  refine g_aast 1 7 5 2 ((h, .inr (4, [.ref a1, .int (0 : Int32)])) :: ((a1, .inl (cyf 7, 7, .inr (.inr (.inr (.inr (va_up (va_up (va_up (va_up (fun _ => none) 0 (some q2)) 1 (some q3)) 2 (some q4)) 3 (some q5))))))) :: ([(q2, pnC)] ++ ([(q3, pnC)] ++ ([(q4, pnC)] ++ ([(q5, pnC)] ++ ([] : va_W))))))) rfl rfl rfl rfl (ib_in rfl) rfl dX4_init_38 ?_
  refine g_iinc 0 (4 : Int32) [(1, .int (4 : Int32)), (0, .ref h)] dX4_init_39 rfl (by decide) (by decide) rfl ?_
  refine g_goto 20 dX4_init_42 (by decide) ?_
  refine g_iload 0 dX4_init_20 rfl rfl ?_
  refine g_bipush (7 : Int32) dX4_init_21 (by decide) ?_
  refine g_ge_f 45 dX4_init_23 (by decide) (by decide) ?_
  refine g_aload 1 dX4_init_26 rfl rfl ?_
  refine g_get 0 0 rfl rfl inG4 (by decide) lf_RX4_11 rfl dX4_init_27 ?_
  refine g_iload 0 dX4_init_30 rfl rfl ?_
  refine g_make (gc_X2 l D cyf) ck_X2 (Or.inr (by decide +kernel)) cl_RX4_9 rfl inG2 tyX2_ok df_X2 ⟨by decide, by decide⟩ (Nat.le_of_ble_eq_true rfl) (by decide) 6 52 rfl rfl (Nat.le_of_ble_eq_true rfl) (Nat.le_of_ble_eq_true rfl) dX4_init_31 dX4_init_34 dX4_init_35 (fun q6 wn hq => ?_)
  subst hq
  refine g_ws ((h, .inr (4, [.ref a1, .int (0 : Int32)])) :: ((a1, .inl (cyf 7, 7, .inr (.inr (.inr (.inr (va_up (va_up (va_up (va_up (fun _ => none) 0 (some q2)) 1 (some q3)) 2 (some q4)) 3 (some q5))))))) :: ([(q2, pnC)] ++ ([(q3, pnC)] ++ ([(q4, pnC)] ++ ([(q5, pnC)] ++ ([(q6, pnC)] ++ ([] : va_W)))))))) rfl ?_
  refine g_aast 1 7 6 2 ((h, .inr (4, [.ref a1, .int (0 : Int32)])) :: ((a1, .inl (cyf 7, 7, .inr (.inr (.inr (.inr (va_up (va_up (va_up (va_up (va_up (fun _ => none) 0 (some q2)) 1 (some q3)) 2 (some q4)) 3 (some q5)) 4 (some q6))))))) :: ([(q2, pnC)] ++ ([(q3, pnC)] ++ ([(q4, pnC)] ++ ([(q5, pnC)] ++ ([(q6, pnC)] ++ ([] : va_W)))))))) rfl rfl rfl rfl (ib_in rfl) rfl dX4_init_38 ?_
  refine g_iinc 0 (5 : Int32) [(1, .int (5 : Int32)), (0, .ref h)] dX4_init_39 rfl (by decide) (by decide) rfl ?_
  refine g_goto 20 dX4_init_42 (by decide) ?_
  refine g_iload 0 dX4_init_20 rfl rfl ?_
  refine g_bipush (7 : Int32) dX4_init_21 (by decide) ?_
  refine g_ge_f 45 dX4_init_23 (by decide) (by decide) ?_
  refine g_aload 1 dX4_init_26 rfl rfl ?_
  refine g_get 0 0 rfl rfl inG4 (by decide) lf_RX4_11 rfl dX4_init_27 ?_
  refine g_iload 0 dX4_init_30 rfl rfl ?_
  refine g_make (gc_X2 l D cyf) ck_X2 (Or.inr (by decide +kernel)) cl_RX4_9 rfl inG2 tyX2_ok df_X2 ⟨by decide, by decide⟩ (Nat.le_of_ble_eq_true rfl) (by decide) 7 61 rfl rfl (Nat.le_of_ble_eq_true rfl) (Nat.le_of_ble_eq_true rfl) dX4_init_31 dX4_init_34 dX4_init_35 (fun q7 wn hq => ?_)
  subst hq
  refine g_ws ((h, .inr (4, [.ref a1, .int (0 : Int32)])) :: ((a1, .inl (cyf 7, 7, .inr (.inr (.inr (.inr (va_up (va_up (va_up (va_up (va_up (fun _ => none) 0 (some q2)) 1 (some q3)) 2 (some q4)) 3 (some q5)) 4 (some q6))))))) :: ([(q2, pnC)] ++ ([(q3, pnC)] ++ ([(q4, pnC)] ++ ([(q5, pnC)] ++ ([(q6, pnC)] ++ ([(q7, pnC)] ++ ([] : va_W))))))))) rfl ?_
  refine g_aast 1 7 7 2 ((h, .inr (4, [.ref a1, .int (0 : Int32)])) :: ((a1, .inl (cyf 7, 7, .inr (.inr (.inr (.inr (va_up (va_up (va_up (va_up (va_up (va_up (fun _ => none) 0 (some q2)) 1 (some q3)) 2 (some q4)) 3 (some q5)) 4 (some q6)) 5 (some q7))))))) :: ([(q2, pnC)] ++ ([(q3, pnC)] ++ ([(q4, pnC)] ++ ([(q5, pnC)] ++ ([(q6, pnC)] ++ ([(q7, pnC)] ++ ([] : va_W))))))))) rfl rfl rfl rfl (ib_in rfl) rfl dX4_init_38 ?_
  refine g_iinc 0 (6 : Int32) [(1, .int (6 : Int32)), (0, .ref h)] dX4_init_39 rfl (by decide) (by decide) rfl ?_
  refine g_goto 20 dX4_init_42 (by decide) ?_
  refine g_iload 0 dX4_init_20 rfl rfl ?_
  refine g_bipush (7 : Int32) dX4_init_21 (by decide) ?_
  refine g_ge_f 45 dX4_init_23 (by decide) (by decide) ?_
  refine g_aload 1 dX4_init_26 rfl rfl ?_
  refine g_get 0 0 rfl rfl inG4 (by decide) lf_RX4_11 rfl dX4_init_27 ?_
  refine g_iload 0 dX4_init_30 rfl rfl ?_
  refine g_make (gc_X2 l D cyf) ck_X2 (Or.inr (by decide +kernel)) cl_RX4_9 rfl inG2 tyX2_ok df_X2 ⟨by decide, by decide⟩ (Nat.le_of_ble_eq_true rfl) (by decide) 8 70 rfl rfl (Nat.le_of_ble_eq_true rfl) (Nat.le_of_ble_eq_true rfl) dX4_init_31 dX4_init_34 dX4_init_35 (fun q8 wn hq => ?_)
  subst hq
  refine g_ws ((h, .inr (4, [.ref a1, .int (0 : Int32)])) :: ((a1, .inl (cyf 7, 7, .inr (.inr (.inr (.inr (va_up (va_up (va_up (va_up (va_up (va_up (fun _ => none) 0 (some q2)) 1 (some q3)) 2 (some q4)) 3 (some q5)) 4 (some q6)) 5 (some q7))))))) :: ([(q2, pnC)] ++ ([(q3, pnC)] ++ ([(q4, pnC)] ++ ([(q5, pnC)] ++ ([(q6, pnC)] ++ ([(q7, pnC)] ++ ([(q8, pnC)] ++ ([] : va_W)))))))))) rfl ?_
  refine g_aast 1 7 8 2 ((h, .inr (4, [.ref a1, .int (0 : Int32)])) :: ((a1, .inl (cyf 7, 7, .inr (.inr (.inr (.inr (va_up (va_up (va_up (va_up (va_up (va_up (va_up (fun _ => none) 0 (some q2)) 1 (some q3)) 2 (some q4)) 3 (some q5)) 4 (some q6)) 5 (some q7)) 6 (some q8))))))) :: ([(q2, pnC)] ++ ([(q3, pnC)] ++ ([(q4, pnC)] ++ ([(q5, pnC)] ++ ([(q6, pnC)] ++ ([(q7, pnC)] ++ ([(q8, pnC)] ++ ([] : va_W)))))))))) rfl rfl rfl rfl (ib_in rfl) rfl dX4_init_38 ?_
  refine g_iinc 0 (7 : Int32) [(1, .int (7 : Int32)), (0, .ref h)] dX4_init_39 rfl (by decide) (by decide) rfl ?_
  refine g_goto 20 dX4_init_42 (by decide) ?_
  refine g_iload 0 dX4_init_20 rfl rfl ?_
  refine g_bipush (7 : Int32) dX4_init_21 (by decide) ?_
  refine g_ge_t 45 dX4_init_23 (by decide) (by decide) ?_
  refine g_cong 1 (e1 := mref 7 (fun k => pick [a1, q2, q3, q4, q5, q6, q7, q8] (k + 1))) ((h, .inr (4, [.ref a1, .int (0 : Int32)])) :: ((a1, .inl (cyf 7, mref 7 (fun k => pick [a1, q2, q3, q4, q5, q6, q7, q8] (k + 1)))) :: ([(q2, pnC)] ++ ([(q3, pnC)] ++ ([(q4, pnC)] ++ ([(q5, pnC)] ++ ([(q6, pnC)] ++ ([(q7, pnC)] ++ ([(q8, pnC)] ++ ([] : va_W)))))))))) rfl (cellq_cong (fun j hj => by rcases (show j = 0 ∨ j = 1 ∨ j = 2 ∨ j = 3 ∨ j = 4 ∨ j = 5 ∨ j = 6 by omega) with rfl | rfl | rfl | rfl | rfl | rfl | rfl <;> rfl)) rfl ?_
  exact g_ret dX4_init_45 ⟨pick [a1, q2, q3, q4, q5, q6, q7, q8], rfl⟩
