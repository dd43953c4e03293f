section LawOk
theorem lw_stI {A B : Sg → Option (Int32 × Sg)} (h : StepI A B) {σ : Sg} (hI : Inv σ) {K : Sg → Option (Int32 × Sg)} (hK : ∀ τ, Inv τ → ∃ υ, K τ = some (1, υ)) : ∃ υ, ((A σ).bind fun w1 => (B w1.2).bind fun w2 => if w1.1 = w2.1 then K w2.2 else some ((0 : Int32), w2.2)) = some (1, υ) := by
  obtain ⟨a, σ1, σ2, e1, e2, hI2⟩ := h σ hI
  obtain ⟨υ, e3⟩ := hK σ2 hI2
  refine ⟨υ, ?_⟩
  rw [e1, Option.bind_some]
  dsimp only
  rw [e2, Option.bind_some, if_pos rfl]
  exact e3
theorem lg_cmp_self (x : Int64) : lg_cmp x x = 0 := by
  unfold lg_cmp
  simp
theorem lw_stL {A B : Sg → Option (Int64 × Sg)} (h : StepL A B) {σ : Sg} (hI : Inv σ) {K : Sg → Option (Int32 × Sg)} (hK : ∀ τ, Inv τ → ∃ υ, K τ = some (1, υ)) : ∃ υ, ((A σ).bind fun w1 => (B w1.2).bind fun w2 => if lg_cmp w1.1 w2.1 = 0 then K w2.2 else some ((0 : Int32), w2.2)) = some (1, υ) := by
  obtain ⟨a, σ1, σ2, e1, e2, hI2⟩ := h σ hI
  obtain ⟨υ, e3⟩ := hK σ2 hI2
  refine ⟨υ, ?_⟩
  rw [e1, Option.bind_some]
  dsimp only
  rw [e2, Option.bind_some, if_pos (lg_cmp_self a)]
  exact e3
set_option maxHeartbeats 8000000 in
set_option maxRecDepth 4000 in
theorem lw_loop {N L : Nat} {xs : Nat → Int32} (hN : 6000 < N) (hL : L ≤ 3072) {k : Int32 → Sg → Option (Int32 × Sg)} (hk : ∀ v σ, k v σ = some (1, σ)) : ∀ (q i : Nat) (σ : Sg), 6 * i ≤ L → L < 6 * (i + q) → Inv σ → ∃ υ, L_L_law_18 N L xs k q (nI (6 * i)) σ = some (1, υ)
  | 0, i, σ, h1, h2, hI => by omega
  | q + 1, i, σ, h1, h2, hI => by
    rw [L_L_law_18_s, show Int32.ofNat L = nI L from rfl]
    by_cases h6 : 6 * i + 6 ≤ L
    case neg =>
      refine ⟨σ, ?_⟩
      have hlt : nI L - (6 : Int32) < nI (6 * i) := by
        by_cases hL6 : 6 ≤ L
        · rw [show (6 : Int32) = nI 6 from rfl, pk_sub hL6]
          exact nI_lt (by omega) (by omega)
        · have hi0 : i = 0 := by omega
          subst hi0
          rcases (show L = 0 ∨ L = 1 ∨ L = 2 ∨ L = 3 ∨ L = 4 ∨ L = 5 by omega) with rfl | rfl | rfl | rfl | rfl | rfl <;> decide
      rw [if_pos hlt]
      exact hk _ _
    have hlt : ¬ nI L - (6 : Int32) < nI (6 * i) := by
      rw [show (6 : Int32) = nI 6 from rfl, pk_sub (show 6 ≤ L by omega)]
      exact nI_nlt (by omega) (by omega)
    rw [if_neg hlt]
    have z1 : nI (6 * i) + (1 : Int32) = nI (6 * i + 1) := nI_add (6 * i) 1
    have z2 : nI (6 * i) + (2 : Int32) = nI (6 * i + 2) := nI_add (6 * i) 2
    have z3 : nI (6 * i) + (3 : Int32) = nI (6 * i + 3) := nI_add (6 * i) 3
    have z4 : nI (6 * i) + (4 : Int32) = nI (6 * i + 4) := nI_add (6 * i) 4
    have z5 : nI (6 * i) + (5 : Int32) = nI (6 * i + 5) := nI_add (6 * i) 5
    have z6 : nI (6 * i) + (6 : Int32) = nI (6 * (i + 1)) := (nI_add (6 * i) 6).trans (by rw [show 6 * i + 6 = 6 * (i + 1) by omega])
    have ih' : ∀ τ, Inv τ → ∃ υ, L_L_law_18 N L xs k q (nI (6 * i) + 6) τ = some (1, υ) := fun τ hτ => by
      rw [z6]
      exact lw_loop hN hL hk q (i + 1) τ (by omega) (by omega) hτ
    rw [gi (by omega) (by omega)]
    by_cases h0 : (xs (nI (6 * i)).toNatClampNeg &&& (63 : Int32)).toInt = 0 + ((0 : Nat) : Int)
    · rw [if_pos h0]
      try simp (disch := omega) only [z1, z2, z3, z4, z5, gi]
      first | exact lw_stI (K := L_L_law_18 N L xs k q (nI (6 * i) + 6)) (st_row _ _ (by omega)) hI ih' | exact lw_stI (K := L_L_law_18 N L xs k q (nI (6 * i) + 6)) (st_row _ _) hI ih'
    rw [if_neg h0]
    by_cases h1 : (xs (nI (6 * i)).toNatClampNeg &&& (63 : Int32)).toInt = 0 + ((1 : Nat) : Int)
    · rw [if_pos h1]
      try simp (disch := omega) only [z1, z2, z3, z4, z5, gi]
      first | exact lw_stI (K := L_L_law_18 N L xs k q (nI (6 * i) + 6)) (st_lay _ _ _ (by omega)) hI ih' | exact lw_stI (K := L_L_law_18 N L xs k q (nI (6 * i) + 6)) (st_lay _ _ _) hI ih'
    rw [if_neg h1]
    by_cases h2 : (xs (nI (6 * i)).toNatClampNeg &&& (63 : Int32)).toInt = 0 + ((2 : Nat) : Int)
    · rw [if_pos h2]
      try simp (disch := omega) only [z1, z2, z3, z4, z5, gi]
      first | exact lw_stI (K := L_L_law_18 N L xs k q (nI (6 * i) + 6)) (st_at _ _ (by omega)) hI ih' | exact lw_stI (K := L_L_law_18 N L xs k q (nI (6 * i) + 6)) (st_at _ _) hI ih'
    rw [if_neg h2]
    by_cases h3 : (xs (nI (6 * i)).toNatClampNeg &&& (63 : Int32)).toInt = 0 + ((3 : Nat) : Int)
    · rw [if_pos h3]
      try simp (disch := omega) only [z1, z2, z3, z4, z5, gi]
      first | exact lw_stI (K := L_L_law_18 N L xs k q (nI (6 * i) + 6)) (st_tear _ (by omega)) hI ih' | exact lw_stI (K := L_L_law_18 N L xs k q (nI (6 * i) + 6)) (st_tear _) hI ih'
    rw [if_neg h3]
    by_cases h4 : (xs (nI (6 * i)).toNatClampNeg &&& (63 : Int32)).toInt = 0 + ((4 : Nat) : Int)
    · rw [if_pos h4]
      try simp (disch := omega) only [z1, z2, z3, z4, z5, gi]
      first | exact lw_stI (K := L_L_law_18 N L xs k q (nI (6 * i) + 6)) (st_copy _ _ _ _ _ (by omega)) hI ih' | exact lw_stI (K := L_L_law_18 N L xs k q (nI (6 * i) + 6)) (st_copy _ _ _ _ _) hI ih'
    rw [if_neg h4]
    by_cases h5 : (xs (nI (6 * i)).toNatClampNeg &&& (63 : Int32)).toInt = 0 + ((5 : Nat) : Int)
    · rw [if_pos h5]
      try simp (disch := omega) only [z1, z2, z3, z4, z5, gi]
      first | exact lw_stI (K := L_L_law_18 N L xs k q (nI (6 * i) + 6)) (st_mean _ (by omega)) hI ih' | exact lw_stI (K := L_L_law_18 N L xs k q (nI (6 * i) + 6)) (st_mean _) hI ih'
    rw [if_neg h5]
    by_cases h6 : (xs (nI (6 * i)).toNatClampNeg &&& (63 : Int32)).toInt = 0 + ((6 : Nat) : Int)
    · rw [if_pos h6]
      try simp (disch := omega) only [z1, z2, z3, z4, z5, gi]
      first | exact lw_stI (K := L_L_law_18 N L xs k q (nI (6 * i) + 6)) (st_text _ _ (by omega)) hI ih' | exact lw_stI (K := L_L_law_18 N L xs k q (nI (6 * i) + 6)) (st_text _ _) hI ih'
    rw [if_neg h6]
    by_cases h7 : (xs (nI (6 * i)).toNatClampNeg &&& (63 : Int32)).toInt = 0 + ((7 : Nat) : Int)
    · rw [if_pos h7]
      try simp (disch := omega) only [z1, z2, z3, z4, z5, gi]
      first | exact lw_stI (K := L_L_law_18 N L xs k q (nI (6 * i) + 6)) (st_put _ _ _ (by omega)) hI ih' | exact lw_stI (K := L_L_law_18 N L xs k q (nI (6 * i) + 6)) (st_put _ _ _) hI ih'
    rw [if_neg h7]
    by_cases h8 : (xs (nI (6 * i)).toNatClampNeg &&& (63 : Int32)).toInt = 0 + ((8 : Nat) : Int)
    · rw [if_pos h8]
      try simp (disch := omega) only [z1, z2, z3, z4, z5, gi]
      first | exact lw_stI (K := L_L_law_18 N L xs k q (nI (6 * i) + 6)) (st_fault _ (by omega)) hI ih' | exact lw_stI (K := L_L_law_18 N L xs k q (nI (6 * i) + 6)) (st_fault _) hI ih'
    rw [if_neg h8]
    by_cases h9 : (xs (nI (6 * i)).toNatClampNeg &&& (63 : Int32)).toInt = 0 + ((9 : Nat) : Int)
    · rw [if_pos h9]
      try simp (disch := omega) only [z1, z2, z3, z4, z5, gi]
      first | exact lw_stI (K := L_L_law_18 N L xs k q (nI (6 * i) + 6)) (st_screen _ (by omega)) hI ih' | exact lw_stI (K := L_L_law_18 N L xs k q (nI (6 * i) + 6)) (st_screen _) hI ih'
    rw [if_neg h9]
    by_cases h10 : (xs (nI (6 * i)).toNatClampNeg &&& (63 : Int32)).toInt = 0 + ((10 : Nat) : Int)
    · rw [if_pos h10]
      try simp (disch := omega) only [z1, z2, z3, z4, z5, gi]
      first | exact lw_stI (K := L_L_law_18 N L xs k q (nI (6 * i) + 6)) (st_pane _ _ (by omega)) hI ih' | exact lw_stI (K := L_L_law_18 N L xs k q (nI (6 * i) + 6)) (st_pane _ _) hI ih'
    rw [if_neg h10]
    by_cases h11 : (xs (nI (6 * i)).toNatClampNeg &&& (63 : Int32)).toInt = 0 + ((11 : Nat) : Int)
    · rw [if_pos h11]
      try simp (disch := omega) only [z1, z2, z3, z4, z5, gi]
      first | exact lw_stI (K := L_L_law_18 N L xs k q (nI (6 * i) + 6)) (st_mark _ _ (by omega)) hI ih' | exact lw_stI (K := L_L_law_18 N L xs k q (nI (6 * i) + 6)) (st_mark _ _) hI ih'
    rw [if_neg h11]
    by_cases h12 : (xs (nI (6 * i)).toNatClampNeg &&& (63 : Int32)).toInt = 0 + ((12 : Nat) : Int)
    · rw [if_pos h12]
      try simp (disch := omega) only [z1, z2, z3, z4, z5, gi]
      first | exact lw_stI (K := L_L_law_18 N L xs k q (nI (6 * i) + 6)) (st_covers _ _ (by omega)) hI ih' | exact lw_stI (K := L_L_law_18 N L xs k q (nI (6 * i) + 6)) (st_covers _ _) hI ih'
    rw [if_neg h12]
    by_cases h13 : (xs (nI (6 * i)).toNatClampNeg &&& (63 : Int32)).toInt = 0 + ((13 : Nat) : Int)
    · rw [if_pos h13]
      try simp (disch := omega) only [z1, z2, z3, z4, z5, gi]
      first | exact lw_stI (K := L_L_law_18 N L xs k q (nI (6 * i) + 6)) (st_raise _ (by omega)) hI ih' | exact lw_stI (K := L_L_law_18 N L xs k q (nI (6 * i) + 6)) (st_raise _) hI ih'
    rw [if_neg h13]
    by_cases h14 : (xs (nI (6 * i)).toNatClampNeg &&& (63 : Int32)).toInt = 0 + ((14 : Nat) : Int)
    · rw [if_pos h14]
      try simp (disch := omega) only [z1, z2, z3, z4, z5, gi]
      first | exact lw_stI (K := L_L_law_18 N L xs k q (nI (6 * i) + 6)) (st_sink _ (by omega)) hI ih' | exact lw_stI (K := L_L_law_18 N L xs k q (nI (6 * i) + 6)) (st_sink _) hI ih'
    rw [if_neg h14]
    by_cases h15 : (xs (nI (6 * i)).toNatClampNeg &&& (63 : Int32)).toInt = 0 + ((15 : Nat) : Int)
    · rw [if_pos h15]
      try simp (disch := omega) only [z1, z2, z3, z4, z5, gi]
      first | exact lw_stI (K := L_L_law_18 N L xs k q (nI (6 * i) + 6)) (st_move _ _ _ (by omega)) hI ih' | exact lw_stI (K := L_L_law_18 N L xs k q (nI (6 * i) + 6)) (st_move _ _ _) hI ih'
    rw [if_neg h15]
    by_cases h16 : (xs (nI (6 * i)).toNatClampNeg &&& (63 : Int32)).toInt = 0 + ((16 : Nat) : Int)
    · rw [if_pos h16]
      try simp (disch := omega) only [z1, z2, z3, z4, z5, gi]
      first | exact lw_stI (K := L_L_law_18 N L xs k q (nI (6 * i) + 6)) (st_shut _ (by omega)) hI ih' | exact lw_stI (K := L_L_law_18 N L xs k q (nI (6 * i) + 6)) (st_shut _) hI ih'
    rw [if_neg h16]
    by_cases h17 : (xs (nI (6 * i)).toNatClampNeg &&& (63 : Int32)).toInt = 0 + ((17 : Nat) : Int)
    · rw [if_pos h17]
      try simp (disch := omega) only [z1, z2, z3, z4, z5, gi]
      first | exact lw_stI (K := L_L_law_18 N L xs k q (nI (6 * i) + 6)) (st_undo _ (by omega)) hI ih' | exact lw_stI (K := L_L_law_18 N L xs k q (nI (6 * i) + 6)) (st_undo _) hI ih'
    rw [if_neg h17]
    by_cases h18 : (xs (nI (6 * i)).toNatClampNeg &&& (63 : Int32)).toInt = 0 + ((18 : Nat) : Int)
    · rw [if_pos h18]
      try simp (disch := omega) only [z1, z2, z3, z4, z5, gi]
      first | exact lw_stI (K := L_L_law_18 N L xs k q (nI (6 * i) + 6)) (st_keep _ (by omega)) hI ih' | exact lw_stI (K := L_L_law_18 N L xs k q (nI (6 * i) + 6)) (st_keep _) hI ih'
    rw [if_neg h18]
    by_cases h19 : (xs (nI (6 * i)).toNatClampNeg &&& (63 : Int32)).toInt = 0 + ((19 : Nat) : Int)
    · rw [if_pos h19]
      try simp (disch := omega) only [z1, z2, z3, z4, z5, gi]
      first | exact lw_stI (K := L_L_law_18 N L xs k q (nI (6 * i) + 6)) (st_on _ (by omega)) hI ih' | exact lw_stI (K := L_L_law_18 N L xs k q (nI (6 * i) + 6)) (st_on _) hI ih'
    rw [if_neg h19]
    by_cases h20 : (xs (nI (6 * i)).toNatClampNeg &&& (63 : Int32)).toInt = 0 + ((20 : Nat) : Int)
    · rw [if_pos h20]
      try simp (disch := omega) only [z1, z2, z3, z4, z5, gi]
      first | exact lw_stI (K := L_L_law_18 N L xs k q (nI (6 * i) + 6)) (st_seen _ (by omega)) hI ih' | exact lw_stI (K := L_L_law_18 N L xs k q (nI (6 * i) + 6)) (st_seen _) hI ih'
    rw [if_neg h20]
    by_cases h21 : (xs (nI (6 * i)).toNatClampNeg &&& (63 : Int32)).toInt = 0 + ((21 : Nat) : Int)
    · rw [if_pos h21]
      try simp (disch := omega) only [z1, z2, z3, z4, z5, gi]
      first | exact lw_stI (K := L_L_law_18 N L xs k q (nI (6 * i) + 6)) (st_buried (by omega)) hI ih' | exact lw_stI (K := L_L_law_18 N L xs k q (nI (6 * i) + 6)) (st_buried) hI ih'
    rw [if_neg h21]
    by_cases h22 : (xs (nI (6 * i)).toNatClampNeg &&& (63 : Int32)).toInt = 0 + ((22 : Nat) : Int)
    · rw [if_pos h22]
      try simp (disch := omega) only [z1, z2, z3, z4, z5, gi]
      first | exact lw_stI (K := L_L_law_18 N L xs k q (nI (6 * i) + 6)) (st_both _ _ (by omega)) hI ih' | exact lw_stI (K := L_L_law_18 N L xs k q (nI (6 * i) + 6)) (st_both _ _) hI ih'
    rw [if_neg h22]
    by_cases h23 : (xs (nI (6 * i)).toNatClampNeg &&& (63 : Int32)).toInt = 0 + ((23 : Nat) : Int)
    · rw [if_pos h23]
      try simp (disch := omega) only [z1, z2, z3, z4, z5, gi]
      first | exact lw_stI (K := L_L_law_18 N L xs k q (nI (6 * i) + 6)) (st_free _ (by omega)) hI ih' | exact lw_stI (K := L_L_law_18 N L xs k q (nI (6 * i) + 6)) (st_free _) hI ih'
    rw [if_neg h23]
    by_cases h24 : (xs (nI (6 * i)).toNatClampNeg &&& (63 : Int32)).toInt = 0 + ((24 : Nat) : Int)
    · rw [if_pos h24]
      try simp (disch := omega) only [z1, z2, z3, z4, z5, gi]
      first | exact lw_stI (K := L_L_law_18 N L xs k q (nI (6 * i) + 6)) (st_shift _ (by omega)) hI ih' | exact lw_stI (K := L_L_law_18 N L xs k q (nI (6 * i) + 6)) (st_shift _) hI ih'
    rw [if_neg h24]
    by_cases h25 : (xs (nI (6 * i)).toNatClampNeg &&& (63 : Int32)).toInt = 0 + ((25 : Nat) : Int)
    · rw [if_pos h25]
      try simp (disch := omega) only [z1, z2, z3, z4, z5, gi]
      first | exact lw_stI (K := L_L_law_18 N L xs k q (nI (6 * i) + 6)) (st_order _ (by omega)) hI ih' | exact lw_stI (K := L_L_law_18 N L xs k q (nI (6 * i) + 6)) (st_order _) hI ih'
    rw [if_neg h25]
    by_cases h26 : (xs (nI (6 * i)).toNatClampNeg &&& (63 : Int32)).toInt = 0 + ((26 : Nat) : Int)
    · rw [if_pos h26]
      try simp (disch := omega) only [z1, z2, z3, z4, z5, gi]
      first | exact lw_stI (K := L_L_law_18 N L xs k q (nI (6 * i) + 6)) (st_kinds _ _ (by omega)) hI ih' | exact lw_stI (K := L_L_law_18 N L xs k q (nI (6 * i) + 6)) (st_kinds _ _) hI ih'
    rw [if_neg h26]
    by_cases h27 : (xs (nI (6 * i)).toNatClampNeg &&& (63 : Int32)).toInt = 0 + ((27 : Nat) : Int)
    · rw [if_pos h27]
      try simp (disch := omega) only [z1, z2, z3, z4, z5, gi]
      first | exact lw_stI (K := L_L_law_18 N L xs k q (nI (6 * i) + 6)) (st_places _ _ (by omega)) hI ih' | exact lw_stI (K := L_L_law_18 N L xs k q (nI (6 * i) + 6)) (st_places _ _) hI ih'
    rw [if_neg h27]
    by_cases h28 : (xs (nI (6 * i)).toNatClampNeg &&& (63 : Int32)).toInt = 0 + ((28 : Nat) : Int)
    · rw [if_pos h28]
      try simp (disch := omega) only [z1, z2, z3, z4, z5, gi]
      first | exact lw_stI (K := L_L_law_18 N L xs k q (nI (6 * i) + 6)) (st_test _ _ (by omega)) hI ih' | exact lw_stI (K := L_L_law_18 N L xs k q (nI (6 * i) + 6)) (st_test _ _) hI ih'
    rw [if_neg h28]
    by_cases h29 : (xs (nI (6 * i)).toNatClampNeg &&& (63 : Int32)).toInt = 0 + ((29 : Nat) : Int)
    · rw [if_pos h29]
      try simp (disch := omega) only [z1, z2, z3, z4, z5, gi]
      first | exact lw_stI (K := L_L_law_18 N L xs k q (nI (6 * i) + 6)) (st_duel _ _ (by omega)) hI ih' | exact lw_stI (K := L_L_law_18 N L xs k q (nI (6 * i) + 6)) (st_duel _ _) hI ih'
    rw [if_neg h29]
    by_cases h30 : (xs (nI (6 * i)).toNatClampNeg &&& (63 : Int32)).toInt = 0 + ((30 : Nat) : Int)
    · rw [if_pos h30]
      try simp (disch := omega) only [z1, z2, z3, z4, z5, gi]
      first | exact lw_stI (K := L_L_law_18 N L xs k q (nI (6 * i) + 6)) (st_odds _ _ (by omega)) hI ih' | exact lw_stI (K := L_L_law_18 N L xs k q (nI (6 * i) + 6)) (st_odds _ _) hI ih'
    rw [if_neg h30]
    by_cases h31 : (xs (nI (6 * i)).toNatClampNeg &&& (63 : Int32)).toInt = 0 + ((31 : Nat) : Int)
    · rw [if_pos h31]
      try simp (disch := omega) only [z1, z2, z3, z4, z5, gi]
      first | exact lw_stI (K := L_L_law_18 N L xs k q (nI (6 * i) + 6)) (st_mid _ _ (by omega)) hI ih' | exact lw_stI (K := L_L_law_18 N L xs k q (nI (6 * i) + 6)) (st_mid _ _) hI ih'
    rw [if_neg h31]
    by_cases h32 : (xs (nI (6 * i)).toNatClampNeg &&& (63 : Int32)).toInt = 0 + ((32 : Nat) : Int)
    · rw [if_pos h32]
      try simp (disch := omega) only [z1, z2, z3, z4, z5, gi]
      first | exact lw_stI (K := L_L_law_18 N L xs k q (nI (6 * i) + 6)) (st_lots _ _ (by omega)) hI ih' | exact lw_stI (K := L_L_law_18 N L xs k q (nI (6 * i) + 6)) (st_lots _ _) hI ih'
    rw [if_neg h32]
    by_cases h33 : (xs (nI (6 * i)).toNatClampNeg &&& (63 : Int32)).toInt = 0 + ((33 : Nat) : Int)
    · rw [if_pos h33]
      try simp (disch := omega) only [z1, z2, z3, z4, z5, gi]
      first | exact lw_stI (K := L_L_law_18 N L xs k q (nI (6 * i) + 6)) (st_asked (by omega)) hI ih' | exact lw_stI (K := L_L_law_18 N L xs k q (nI (6 * i) + 6)) (st_asked) hI ih'
    rw [if_neg h33]
    by_cases h34 : (xs (nI (6 * i)).toNatClampNeg &&& (63 : Int32)).toInt = 0 + ((34 : Nat) : Int)
    · rw [if_pos h34]
      try simp (disch := omega) only [z1, z2, z3, z4, z5, gi]
      first | exact lw_stL (K := L_L_law_18 N L xs k q (nI (6 * i) + 6)) (st_upper (by omega)) hI ih' | exact lw_stL (K := L_L_law_18 N L xs k q (nI (6 * i) + 6)) (st_upper) hI ih'
    rw [if_neg h34]
    by_cases h35 : (xs (nI (6 * i)).toNatClampNeg &&& (63 : Int32)).toInt = 0 + ((35 : Nat) : Int)
    · rw [if_pos h35]
      try simp (disch := omega) only [z1, z2, z3, z4, z5, gi]
      first | exact lw_stL (K := L_L_law_18 N L xs k q (nI (6 * i) + 6)) (st_lower (by omega)) hI ih' | exact lw_stL (K := L_L_law_18 N L xs k q (nI (6 * i) + 6)) (st_lower) hI ih'
    rw [if_neg h35]
    by_cases h36 : (xs (nI (6 * i)).toNatClampNeg &&& (63 : Int32)).toInt = 0 + ((36 : Nat) : Int)
    · rw [if_pos h36]
      try simp (disch := omega) only [z1, z2, z3, z4, z5, gi]
      first | exact lw_stI (K := L_L_law_18 N L xs k q (nI (6 * i) + 6)) (st_count _ (by omega)) hI ih' | exact lw_stI (K := L_L_law_18 N L xs k q (nI (6 * i) + 6)) (st_count _) hI ih'
    rw [if_neg h36]
    by_cases h37 : (xs (nI (6 * i)).toNatClampNeg &&& (63 : Int32)).toInt = 0 + ((37 : Nat) : Int)
    · rw [if_pos h37]
      try simp (disch := omega) only [z1, z2, z3, z4, z5, gi]
      first | exact lw_stI (K := L_L_law_18 N L xs k q (nI (6 * i) + 6)) (st_finding (by omega)) hI ih' | exact lw_stI (K := L_L_law_18 N L xs k q (nI (6 * i) + 6)) (st_finding) hI ih'
    rw [if_neg h37]
    by_cases h38 : (xs (nI (6 * i)).toNatClampNeg &&& (63 : Int32)).toInt = 0 + ((38 : Nat) : Int)
    · rw [if_pos h38]
      try simp (disch := omega) only [z1, z2, z3, z4, z5, gi]
      first | exact lw_stI (K := L_L_law_18 N L xs k q (nI (6 * i) + 6)) (st_findings _ (by omega)) hI ih' | exact lw_stI (K := L_L_law_18 N L xs k q (nI (6 * i) + 6)) (st_findings _) hI ih'
    rw [if_neg h38]
    by_cases h39 : (xs (nI (6 * i)).toNatClampNeg &&& (63 : Int32)).toInt = 0 + ((39 : Nat) : Int)
    · rw [if_pos h39]
      try simp (disch := omega) only [z1, z2, z3, z4, z5, gi]
      first | exact lw_stL (K := L_L_law_18 N L xs k q (nI (6 * i) + 6)) (st_digest (by omega)) hI ih' | exact lw_stL (K := L_L_law_18 N L xs k q (nI (6 * i) + 6)) (st_digest) hI ih'
    rw [if_neg h39]
    exact ih' σ hI
theorem law_ok {N L : Nat} {xs : Nat → Int32} (hN : 6000 < N) (hL : L ≤ 3072) {σ : Sg} (hI : Inv σ) : ∃ υ, f_L_law N L xs σ = some (1, υ) := by
  unfold f_L_law
  exact lw_loop hN hL (fun _ _ => rfl) N 0 σ (by omega) (by omega) hI
end LawOk
