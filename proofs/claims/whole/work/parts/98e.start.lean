/-! what holds at the start -/
theorem ao_arr {args : Array Value} {s : State} {t : FieldType} (h : (Cond.arrayOver (.array t)).before args s = true) : ∃ (comp c : ClassId) (k : Class), s.vm.findClass (FieldType.array t).toString = some comp ∧ s.vm.classes[c]? = some k ∧ k.kind = .array comp (.array t) ∧ s.vm.findClass ("[" ++ (FieldType.array t).toString) = some c := by
  rw [Cond.before] at h
  simp only [Cond.holds, Cond.value, beq_iff_eq] at h
  cases hc : s.vm.findClass (FieldType.array t).toString with
  | none => rw [hc] at h; simp at h
  | some comp =>
    rw [hc] at h
    simp only [Option.bind_some, Option.bind_eq_some_iff, Option.map_eq_some_iff] at h
    obtain ⟨c, h1, k, h2, h3⟩ := h
    obtain ⟨hlt, hp, -⟩ := Array.findIdx?_eq_some_iff_getElem.mp h1
    have e1 : s.vm.classes[c] = k := (Array.getElem?_eq_some_iff.mp h2).2
    rw [e1] at hp
    cases hk : k.kind with
    | array component ty =>
      rw [hk] at h3 hp
      simp at h3 hp
      exact ⟨comp, c, k, rfl, h2, by rw [hk, hp, h3.1], h3.2⟩
    | _ => rw [hk] at h3; simp at h3
theorem ar_of {args : Array Value} {s : State} {ty : FieldType} (h : (Cond.arrayClass ty).before args s = true) : ∃ c : ClassId, ArrOfT s c ty ∧ s.vm.findClass ("[" ++ ty.toString) = some c := by
  obtain ⟨c, k, comp, h1, h2, h3⟩ := Cond.arrayClass_spec h
  exact ⟨c, fun n z => ⟨fun k h => (by cases h), k, h2, comp, h3⟩, h1⟩
theorem ao_of {args : Array Value} {s : State} {C : String} (h : (Cond.arrayOver (.object C)).before args s = true) : ∃ c : ClassId, ArrOfT s c (.object C) ∧ va_RA s c (.object C) := by
  obtain ⟨comp, c, k, h1, h2, h3, h4, h5⟩ := Cond.arrayOver_spec h
  exact ⟨c, fun n z => ⟨fun k h => (by cases h), k, h3, comp, h4⟩, k, comp, h3, h4, h1, h5⟩
theorem aos_in : ∀ C ∈ aos, Cond.arrayOver (.object C) ∈ lw_tbl := by decide +kernel
theorem nests_in : ∀ q ∈ nests, Cond.methodLinkNest q.1 q.2.1 q.2.2 RX7 ∈ lw_tbl := by decide +kernel
theorem ao_in : Cond.arrayOver (.array .int) ∈ lw_tbl := by decide +kernel
theorem nst1_in : nestIsOf ∈ lw_tbl := by decide +kernel
theorem nst2_in : nestLetters ∈ lw_tbl := by decide +kernel
theorem ls_in : Cond.laysStatic RX7 "LETTERS" "[I" ∈ lw_tbl := by decide +kernel
theorem start_K {args : Array Value} {s : State} (hts : ∀ w ∈ lw_tbl, w.before args s = true) : ∃ (D : va_G) (cyf : Nat → ClassId), va_K D vwCl (tysC cyf) s ∧ XC cyf s := by
  have hG : ∀ w ∈ lwG, w.before args s = true := fun w hw => hts w (List.mem_filter.mp hw).1
  obtain ⟨c0, i0, k0⟩ := u_known (C := RX0) (T := TX0) (N := 2) (n := 2) hG inG0 (hG _ ck_X0.2.2.2.2.2.2.1)
  obtain ⟨c1, i1, k1⟩ := u_known (C := RX1) (T := TX1) (N := 5) (n := 5) hG inG1 (hG _ ck_X1.2.2.2.2.2.2.1)
  obtain ⟨c2, i2, k2⟩ := u_known (C := RX2) (T := TX2) (N := 9) (n := 9) hG inG2 (hG _ ck_X2.2.2.2.2.2.2.1)
  obtain ⟨c3, i3, k3⟩ := u_known (C := RX3) (T := TX3) (N := 2) (n := 2) hG inG3 (hG _ ck_X3.2.2.2.2.2.2.1)
  obtain ⟨c4, i4, k4⟩ := u_known (C := RX4) (T := TX4) (N := 2) (n := 2) hG inG4 (hG _ ck_X4.2.2.2.2.2.2.1)
  obtain ⟨c5, i5, k5⟩ := u_known (C := RX5) (T := TX5) (N := 2) (n := 2) hG inG5 (hG _ ck_X5.2.2.2.2.2.2.1)
  obtain ⟨c6, i6, k6⟩ := u_known (C := RX6) (T := TX6) (N := 1) (n := 1) hG inG6 (hG _ ck_X6.2.2.2.2.2.2.1)
  obtain ⟨c7, i7, k7⟩ := u_known (C := RX7) (T := TX7) (N := 15) (n := 15) hG inG7 (hG _ ck_X7.2.2.2.2.2.2.1)
  obtain ⟨c8', i8, k8⟩ := u_known (C := RX8) (T := TX8) (N := 33) (n := 33) hG inG8 (hG _ ck_X8.2.2.2.2.2.2.1)
  obtain ⟨a0, x0, y0⟩ := ar_of (hG _ acI)
  obtain ⟨a1, x1, y1⟩ := ar_of (hG _ acB)
  obtain ⟨a2, x2, y2⟩ := ar_of (hG _ acJ)
  obtain ⟨a3, x3, y3⟩ := ao_of (C := RX3) (hts _ (aos_in RX3 (by decide)))
  obtain ⟨a4, x4, y4⟩ := ao_of (C := RX5) (hts _ (aos_in RX5 (by decide)))
  obtain ⟨a5, x5, y5⟩ := ao_of (C := RX4) (hts _ (aos_in RX4 (by decide)))
  obtain ⟨a6, x6, y6⟩ := ao_of (C := RX1) (hts _ (aos_in RX1 (by decide)))
  obtain ⟨a7, x7, y7⟩ := ao_of (C := RX2) (hts _ (aos_in RX2 (by decide)))
  obtain ⟨a8, c8, kk8, z1, z2, z3, z4⟩ := ao_arr (hts _ ao_in)
  have e8 : a8 = a0 := Option.some.inj (z1.symm.trans y0)
  subst e8
  refine ⟨(fun k => [c0, c1, c2, c3, c4, c5, c6, c7, c8'].getD k c0, fun k => [i0, i1, i2, i3, i4, i5, i6, i7, i8].getD k i0), fun k => [a8, a1, a2, a3, a4, a5, a6, a7, c8].getD k a8, ⟨fun k q hq => ?_, fun k q hq => ?_⟩, fun C hC => va_AO.of (hts _ (aos_in C hC)), ⟨kk8, z2, z3⟩, fun q hq => va_Nw.of rfl (hts _ (nests_in q hq))⟩
  · match k, hq with
    | 0, hq => cases hq; exact k0
    | 1, hq => cases hq; exact k1
    | 2, hq => cases hq; exact k2
    | 3, hq => cases hq; exact k3
    | 4, hq => cases hq; exact k4
    | 5, hq => cases hq; exact k5
    | 6, hq => cases hq; exact k6
    | 7, hq => cases hq; exact k7
    | 8, hq => cases hq; exact k8
    | k + 9, hq => cases hq
  · match k, hq with
    | 0, hq => cases hq; exact ⟨x0, y0⟩
    | 1, hq => cases hq; exact ⟨x1, y1⟩
    | 2, hq => cases hq; exact ⟨x2, y2⟩
    | 3, hq => cases hq; exact ⟨x3, y3⟩
    | 4, hq => cases hq; exact ⟨x4, y4⟩
    | 5, hq => cases hq; exact ⟨x5, y5⟩
    | 6, hq => cases hq; exact ⟨x6, y6⟩
    | 7, hq => cases hq; exact ⟨x7, y7⟩
    | 8, hq => cases hq; exact ⟨fun n z => ⟨fun k h => (by cases h), kk8, z2, a8, z3⟩, z4⟩
    | k + 9, hq => cases hq
theorem start_L {args : Array Value} {s : State} (hts : ∀ w ∈ lw_tbl, w.before args s = true) (hgv : (Jvm.Cond.and given_1 narrow_1).before args s = true) : ∃ lt : Nat, va_Z RX7 "LETTERS" "[I" (.ref lt) (fun q : Nat => s.heap.size ≤ q) s s.heap ∧ va_T .int lt 6 lettersF (fun q : Nat => s.heap.size ≤ q) s s.heap ∧ va_Nw nestIsOf s ∧ va_Nw nestLetters s := by
  have hs := flat_of_before _ hgv
  have hA : ∀ a : Nat, a < s.heap.size → ¬ (fun q : Nat => s.heap.size ≤ q) a := fun a h => Nat.not_le.mpr h
  have hini : (Cond.initialized RX7).before args s = true := hts _ (List.mem_filter.mp ck_X7.2.1).1
  have hel : ∀ j : Nat, j < 6 → (Term.elem (.static "PaneOrder" "LETTERS" "[I") (.int (Int32.ofNat j))).eval args s none [] s = some (lettersF j) := by
    intro j hj
    rcases (show j = 0 ∨ j = 1 ∨ j = 2 ∨ j = 3 ∨ j = 4 ∨ j = 5 by omega) with rfl | rfl | rfl | rfl | rfl | rfl
    · exact va_eqt (hs (.eq (.elem (.static "PaneOrder" "LETTERS" "[I") (.int 0)) (.int 112)) (by decide +kernel))
    · exact va_eqt (hs (.eq (.elem (.static "PaneOrder" "LETTERS" "[I") (.int 1)) (.int 102)) (by decide +kernel))
    · exact va_eqt (hs (.eq (.elem (.static "PaneOrder" "LETTERS" "[I") (.int 2)) (.int 103)) (by decide +kernel))
    · exact va_eqt (hs (.eq (.elem (.static "PaneOrder" "LETTERS" "[I") (.int 3)) (.int 116)) (by decide +kernel))
    · exact va_eqt (hs (.eq (.elem (.static "PaneOrder" "LETTERS" "[I") (.int 4)) (.int 104)) (by decide +kernel))
    · exact va_eqt (hs (.eq (.elem (.static "PaneOrder" "LETTERS" "[I") (.int 5)) (.int 109)) (by decide +kernel))
  obtain ⟨t, ht, hT⟩ := va_Tof (args := args) (s := s) (tm := .static "PaneOrder" "LETTERS" "[I") (ty := .int) (N := 6) (f := lettersF) (A := fun q : Nat => s.heap.size ≤ q) (by decide) (hs _ (by decide +kernel)) (va_eqt (hs (.eq (.length (.static "PaneOrder" "LETTERS" "[I")) (.int 6)) (by decide +kernel))) hel hA
  exact ⟨t, va_Zof (hts _ ls_in) hini ht hA, hT, va_Nw.of rfl (hts _ nst1_in), va_Nw.of rfl (hts _ nst2_in)⟩
theorem cl_RL_7 : Cond.classLink RL 7 RX7 ∈ lwG := in_lwG (by decide +kernel) rfl
theorem cl_RL_10 : Cond.classLink RL 10 RX8 ∈ lwG := in_lwG (by decide +kernel) rfl
theorem ml_RL_9 : Cond.methodLink RL 9 yX7_init ∈ lwG := in_lwG (by decide +kernel) rfl
theorem ml_RL_12 : Cond.methodLink RL 12 yX8_init ∈ lwG := in_lwG (by decide +kernel) rfl
set_option maxHeartbeats 8000000 in
set_option maxRecDepth 8000 in
theorem whole_start {p : Program} {e : Env} {s : State} {m : MethodId} {below : List Frame} {meth : Method} {c : Code} (l : Launch) (hflags : l.flags = flags0) {b L : Nat} {xs : Nat → Int32} (hL : L ≤ 3072) (C0 : lw_At p s m meth c b L xs) : W p l e room_1 s m #[Value.ref b] below meth c s.heap [] 0 0 (lw_Z below #[Value.ref b] s) (entryFrame m ([Value.ref b] : List Value).toArray 4) := by
  obtain ⟨hx, hb, hr, hml, hown, hts, hX, hbl, hlocks, hgv⟩ := id C0
  have hG : ∀ w ∈ lwG, w.before #[Value.ref b] s = true := fun w hw => hts w (List.mem_filter.mp hw).1
  have hown : s.vm.findClass RL = some m.cls := hown
  have hA : ∀ q : Nat, s.heap.size ≤ q → (fun q : Nat => s.heap.size ≤ q) q := fun _ h => h
  have hbA : ¬ (fun q : Nat => s.heap.size ≤ q) b := Nat.not_le.mpr hbl
  obtain ⟨D, cyf, hK, hXC⟩ := start_K hts
  obtain ⟨lt, hLT⟩ := start_L hts hgv
  have hS : va_S (fun q : Nat => s.heap.size ≤ q) s.heap s.heap [] := va_S.rf
  have hP : va_P D vwCl [] s.heap := fun k q h => by simp at h
  have hD : va_D (fun q : Nat => s.heap.size ≤ q) [] := ⟨fun i j p q h => by simp at h, fun k q h => by simp at h⟩
  have hl := lv_entry ([.ref b]) (n := 4) (Nat.le_of_ble_eq_true rfl)
  rw [lg_entry_eq]
  generalize (lg_sl ([.ref b]) ++ List.replicate (4 - (lg_sl ([.ref b])).length) Slot.unset).toArray = ls at hl ⊢
  have hl : lv_has ls 4 [(0, .ref b)] := hl
  refine e_make (own := RL) (code0 := cL_law) hx hb hml hown hG hXC hK hP hD hS hA hl ck_X7 (Or.inl ml_RL_9) cl_RL_7 rfl inG7 tyX7_ok df_X7 ⟨by decide, by decide⟩ (Nat.le_of_ble_eq_true rfl) (Nat.le_of_ble_eq_true rfl) (Nat.le_of_ble_eq_true rfl) (Nat.le_of_ble_eq_true rfl) (Nat.le_of_ble_eq_true rfl) (gc_X7 l D cyf) dL_law_0 dL_law_3 dL_law_4 (fun h7 wn H locs hq hP hD hS => ?_)
  obtain ⟨a1, a2, q3, u3, q4, u4, a5, a6, q7, u7, q8, u8, q9, u9, a10, a11, q12, u12, q13, u13, q14, u14, q15, u15, q16, u16, q17, u17, q18, u18, q19, u19, q20, u20, q21, u21, q22, u22, q23, u23, q24, u24, q25, u25, q26, u26, q27, u27, rfl⟩ := hq
  refine lv_astore_n (lv' := [(1, .ref h7), (0, .ref b)]) hx hb dL_law_7 rfl hl (by decide) rfl (fun ls hl => ?_)
  refine e_make (own := RL) (code0 := cL_law) hx hb hml hown hG hXC hK hP hD hS hA hl ck_X8 (Or.inl ml_RL_12) cl_RL_10 rfl inG8 tyX8_ok df_X8 ⟨by decide, by decide⟩ (Nat.le_of_ble_eq_true rfl) (Nat.le_of_ble_eq_true rfl) (Nat.le_of_ble_eq_true rfl) (Nat.le_of_ble_eq_true rfl) (Nat.le_of_ble_eq_true rfl) (gc_X8 l D cyf) dL_law_8 dL_law_11 dL_law_12 (fun h8 wn H locs hq hP hD hS => ?_)
  obtain ⟨b1, b2, b3, b4, b5, b6, b7, b8, b9, b10, b11, b12, b13, b14, b15, b16, b17, b18, b19, b20, b21, b22, rfl⟩ := hq
  refine lv_astore_n (lv' := [(2, .ref h8), (1, .ref h7), (0, .ref b)]) hx hb dL_law_15 rfl hl (by decide) rfl (fun ls hl => ?_)
  have hw := world_eq l D cyf lt h7 a1 a2 q3 u3 q4 u4 a5 a6 q7 u7 q8 u8 q9 u9 a10 a11 q12 u12 q13 u13 q14 u14 q15 u15 q16 u16 q17 u17 q18 u18 q19 u19 q20 u20 q21 u21 q22 u22 q23 u23 q24 u24 q25 u25 q26 u26 q27 u27 h8 b1 b2 b3 b4 b5 b6 b7 b8 b9 b10 b11 b12 b13 b14 b15 b16 b17 b18 b19 b20 b21 b22
  have hP : va_P (enD (l, D, cyf, adF h7 a1 a2 q3 u3 q4 u4 a5 a6 q7 u7 q8 u8 q9 u9 a10 a11 q12 u12 q13 u13 q14 u14 q15 u15 q16 u16 q17 u17 q18 u18 q19 u19 q20 u20 q21 u21 q22 u22 q23 u23 q24 u24 q25 u25 q26 u26 q27 u27 h8 b1 b2 b3 b4 b5 b6 b7 b8 b9 b10 b11 b12 b13 b14 b15 b16 b17 b18 b19 b20 b21 b22, lt)) vwCl (world (l, D, cyf, adF h7 a1 a2 q3 u3 q4 u4 a5 a6 q7 u7 q8 u8 q9 u9 a10 a11 q12 u12 q13 u13 q14 u14 q15 u15 q16 u16 q17 u17 q18 u18 q19 u19 q20 u20 q21 u21 q22 u22 q23 u23 q24 u24 q25 u25 q26 u26 q27 u27 h8 b1 b2 b3 b4 b5 b6 b7 b8 b9 b10 b11 b12 b13 b14 b15 b16 b17 b18 b19 b20 b21 b22, lt) σ0) H := fun k x hx => by
    have h1 : ((world (l, D, cyf, adF h7 a1 a2 q3 u3 q4 u4 a5 a6 q7 u7 q8 u8 q9 u9 a10 a11 q12 u12 q13 u13 q14 u14 q15 u15 q16 u16 q17 u17 q18 u18 q19 u19 q20 u20 q21 u21 q22 u22 q23 u23 q24 u24 q25 u25 q26 u26 q27 u27 h8 b1 b2 b3 b4 b5 b6 b7 b8 b9 b10 b11 b12 b13 b14 b15 b16 b17 b18 b19 b20 b21 b22, lt) σ0).map some)[k]? = some (some x) := by rw [List.getElem?_map, hx]; rfl
    rw [← hw, List.getElem?_map] at h1
    cases hi : whr[k]? with
    | none => rw [hi] at h1; cases h1
    | some i => rw [hi] at h1; exact hP i x (Option.some.inj h1)
  have hD := hD.sub whr whr_nd hw
  obtain ⟨υ, hυ⟩ := law_ok (N := 10000) (L := L) (xs := xs) (by decide) hL Inv_0
  refine R_L_law (l, D, cyf, adF h7 a1 a2 q3 u3 q4 u4 a5 a6 q7 u7 q8 u8 q9 u9 a10 a11 q12 u12 q13 u13 q14 u14 q15 u15 q16 u16 q17 u17 q18 u18 q19 u19 q20 u20 q21 u21 q22 u22 q23 u23 q24 u24 q25 u25 q26 u26 q27 u27 h8 b1 b2 b3 b4 b5 b6 b7 b8 b9 b10 b11 b12 b13 b14 b15 b16 b17 b18 b19 b20 b21 b22, lt) 10000 b L xs σ0 (1, υ) hυ p e room_1 s m #[Value.ref b] below meth c (fun q : Nat => s.heap.size ≤ q) _ _ _ ⟨hx, hb, hr, hml, hown, hG, ⟨Nat.le_of_ble_eq_true rfl, Nat.le_of_ble_eq_true rfl, Nat.le_of_ble_eq_true rfl, Nat.le_of_ble_eq_true rfl⟩, ⟨⟨hX, hbl, hbA⟩, hLT⟩, hK, hA, hlocks⟩ H locs ls ⟨hP, hD, hS⟩ hl (fun H' locs' pc' ls' hW' ho' => ?_)
  rcases ho' with ⟨h1, -⟩ | ⟨-, x, h2, h3, h4⟩ | ⟨h1, -⟩ | ⟨h1, -⟩
  · cases h1
  · refine va_forget (fun q hq => hW'.2.2.2.2 q hq) ?_
    refine W.widen (k := 600000) (n := 7302249) (Nat.le_of_ble_eq_true rfl) (Nat.le_of_ble_eq_true rfl) ?_
    exact lw_ret hx hb hr hlocks h4
  · cases h1
  · cases h1
