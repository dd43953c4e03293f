section Shift
variable {N n nd : Nat} {σ : Sg} {D : Nat → Scr} {c : Scr}
theorem of3 : ∀ j, j < 7 → (¬ (3 : Int32) < nI j - 3) ∧ (¬ (4 : Int32) ≤ nI j - 3) ∧ nI j - 3 + 1 = nI (j + 1) - 3 ∧ (nI j - 3).toInt = (j : Int) - 3 := by decide +kernel
theorem o3c : ∀ a, a < 7 → ∀ b, b < 7 → (((10 : Int32) * ((3 : Int32) + (nI a - 3))) + (3 : Int32)) + (nI b - 3) = nI (10 * a + b) := by decide +kernel
theorem o3e : (3 : Int32) < nI 7 - 3 ∧ (4 : Int32) ≤ nI 7 - 3 ∧ (-3 : Int32) = nI 0 - 3 := by decide
/-- how the pane would lie, shifted -/
def shc (c : Scr) (i a b : Nat) : Scr := mvS c i ((c i 1 : Int) + ((a : Int) - 3)).toNat ((c i 2 : Int) + ((b : Int) - 3)).toNat
def shv (n : Nat) (c : Scr) (i a b : Nat) : Nat := fb_ct (vis n (shc c i a b) i) 96
def shs (n : Nat) (c : Scr) (i a b : Nat) (s : Int32 × Int32) : Int32 × Int32 := if onS c i ((a : Int) - 3) ((b : Int) - 3) then (if nI (shv n c i a b) ≤ s.1 then s else (nI (shv n c i a b), nI (10 * a + b))) else s
def shi (n : Nat) (c : Scr) (i a : Nat) (s : Int32 × Int32) : Nat → Int32 × Int32
  | 0 => s
  | b + 1 => shs n c i a b (shi n c i a s b)
def sho (n : Nat) (c : Scr) (i : Nat) (s : Int32 × Int32) : Nat → Int32 × Int32
  | 0 => s
  | a + 1 => shi n c i a (sho n c i s a) 7
theorem shi_s (n : Nat) (c : Scr) (i a : Nat) (s : Int32 × Int32) (b : Nat) : shi n c i a s (b + 1) = shs n c i a b (shi n c i a s b) := rfl
theorem sho_s (n : Nat) (c : Scr) (i : Nat) (s : Int32 × Int32) (a : Nat) : sho n c i s (a + 1) = shi n c i a (sho n c i s a) 7 := rfl
/-- two runs: the same, or nothing found yet -/
def shr (s t : Int32 × Int32) : Prop := (s = t ∧ 0 ≤ s.1.toInt) ∨ (s.1 = -1 ∧ t.1 = -1)
theorem shv_lt (n : Nat) (c : Scr) (i a b : Nat) : shv n c i a b ≤ 96 := fb_ct_le _ _
theorem shs_r {i a b : Nat} {s t : Int32 × Int32} (h : shr s t) : shr (shs n c i a b s) (shs n c i a b t) ∧ (onS c i ((a : Int) - 3) ((b : Int) - 3) → 0 ≤ (shs n c i a b s).1.toInt) ∧ (0 ≤ s.1.toInt → 0 ≤ (shs n c i a b s).1.toInt) := by
  have hv := shv_lt n c i a b
  have tv : (nI (shv n c i a b)).toInt = shv n c i a b := nI_toInt (by omega)
  unfold shs
  by_cases ho : onS c i ((a : Int) - 3) ((b : Int) - 3)
  · rw [if_pos ho, if_pos ho]
    rcases h with ⟨rfl, h0⟩ | ⟨h1, h2⟩
    · refine ⟨Or.inl ⟨rfl, ?_⟩, fun _ => ?_, fun _ => ?_⟩
      all_goals
        split
        · exact h0
        · show 0 ≤ (nI (shv n c i a b)).toInt
          omega
    · rw [h1, h2, ile_m1 (by omega), ile_m1 (by omega)]
      exact ⟨Or.inl ⟨rfl, by show 0 ≤ (nI (shv n c i a b)).toInt; omega⟩, fun _ => by show 0 ≤ (nI (shv n c i a b)).toInt; omega, fun _ => by show 0 ≤ (nI (shv n c i a b)).toInt; omega⟩
  · rw [if_neg ho, if_neg ho]
    exact ⟨h, fun z => absurd z ho, fun z => z⟩
theorem shi_r {i a : Nat} {s t : Int32 × Int32} (h : shr s t) : ∀ b, shr (shi n c i a s b) (shi n c i a t b) ∧ (0 ≤ s.1.toInt → 0 ≤ (shi n c i a s b).1.toInt)
  | 0 => ⟨h, fun z => z⟩
  | b + 1 => by
    obtain ⟨h1, h2⟩ := shi_r h b
    obtain ⟨g1, g2, g3⟩ := shs_r (n := n) (c := c) (i := i) (a := a) (b := b) h1
    exact ⟨g1, fun z => g3 (h2 z)⟩
theorem shi_on {i a : Nat} {s t : Int32 × Int32} (h : shr s t) {b : Nat} (ho : onS c i ((a : Int) - 3) ((b : Int) - 3)) : ∀ d, 0 ≤ (shi n c i a s (b + 1 + d)).1.toInt
  | 0 => (shs_r (shi_r h b).1).2.1 ho
  | d + 1 => (shs_r (shi_r h (b + 1 + d)).1).2.2 (shi_on h ho d)
theorem sho_r {i : Nat} {s t : Int32 × Int32} (h : shr s t) : ∀ a, shr (sho n c i s a) (sho n c i t a)
  | 0 => h
  | a + 1 => (shi_r (sho_r h a) 7).1
theorem sho_up {i : Nat} {s t : Int32 × Int32} (h : shr s t) {a : Nat} (h0 : 0 ≤ (sho n c i s a).1.toInt) : ∀ d, 0 ≤ (sho n c i s (a + d)).1.toInt
  | 0 => h0
  | d + 1 => (shi_r (sho_r h (a + d)) 7).2 (sho_up h h0 d)
theorem sho_same {i : Nat} (ok : okS n c) (hi : i < n) : sho n c i (-1, 0) 7 = sho n c i (-1, -9) 7 := by
  have h : shr ((-1 : Int32), (0 : Int32)) ((-1 : Int32), (-9 : Int32)) := Or.inr ⟨rfl, rfl⟩
  obtain ⟨o0, o1, o2, o3, o4⟩ := (ok.2.1 i hi).1
  have ho : onS c i (((3 : Nat) : Int) - 3) (((3 : Nat) : Int) - 3) := by unfold onS; omega
  have h4 : 0 ≤ (sho n c i (-1, 0) 4).1.toInt := shi_on (sho_r h 3) ho 3
  have h7 := sho_up h h4 3
  rcases sho_r (n := n) (c := c) (i := i) h 7 with ⟨e, -⟩ | ⟨e, -⟩
  · exact e
  · rw [e, m1_toInt] at h7; omega
theorem cl_sh65 {i a : Nat} (K : Int32 → Int32 → Int32 → Sg → Option (Int32 × Sg)) (ok : okS n c) (hi : i < n) (ha : a < 7) (hN : 100 < N) {τ : Sg} (s : Int32 × Int32) (hs1 : s.1 = -1 ∨ 0 ≤ s.1.toInt) (hF : Fr (scrR 1) σ τ) (hT : ∃ l t, l + c i 3 ≤ 12 ∧ t + c i 4 ≤ 8 ∧ isScr τ 1 n (mvS c i l t)) :
    ∃ v υ, L_X7_shift_65 N K (nI i) i (nI (c i 1)) (nI (c i 2)) (nI a - 3) N s.1 s.2 (-3) τ = K (shi n c i a s 7).1 (shi n c i a s 7).2 v υ ∧ Fr (scrR 1) σ υ ∧ ((shi n c i a s 7).1 = -1 ∨ 0 ≤ (shi n c i a s 7).1.toInt) ∧ ∃ l t, l + c i 3 ≤ 12 ∧ t + c i 4 ≤ 8 ∧ isScr υ 1 n (mvS c i l t) := by
  have hn := ok.1
  obtain ⟨o0, o1, o2, o3', o4⟩ := (ok.2.1 i hi).1
  obtain ⟨⟨s', υ⟩, e2, rfl, h1, h2, h3⟩ := up_rel (fun q v (z : (Int32 × Int32) × Sg) => L_X7_shift_65 N K (nI i) i (nI (c i 1)) (nI (c i 2)) (nI a - 3) q z.1.1 z.1.2 (v - 3) z.2) (fun v z => K z.1.1 z.1.2 (v - 3) z.2)
    (fun b z => z.1 = shi n c i a s b ∧ (z.1.1 = -1 ∨ 0 ≤ z.1.1.toInt) ∧ Fr (scrR 1) σ z.2 ∧ ∃ l t, l + c i 3 ≤ 12 ∧ t + c i 4 ≤ 8 ∧ isScr z.2 1 n (mvS c i l t)) 7
    (fun q z h => by
      show L_X7_shift_65 N _ (nI i) i _ _ _ (q + 1) _ _ _ _ = _
      rw [L_X7_shift_65_s, if_pos o3e.1])
    (fun q b z hb h => by
      obtain ⟨s', υ⟩ := z
      obtain ⟨h0, h1, h2, l, t, hl, ht, hT⟩ := h
      dsimp only at h0 h1 h2 hT
      show ∃ z' : (Int32 × Int32) × Sg, L_X7_shift_65 N K (nI i) i (nI (c i 1)) (nI (c i 2)) (nI a - 3) (q + 1) s'.1 s'.2 (nI b - 3) υ = L_X7_shift_65 N K (nI i) i (nI (c i 1)) (nI (c i 2)) (nI a - 3) q z'.1.1 z'.1.2 (nI (b + 1) - 3) z'.2 ∧ _
      obtain ⟨a1, -, -, a4⟩ := of3 a ha
      obtain ⟨b1, -, b3, b4⟩ := of3 b hb
      have tc1 : (nI (c i 1)).toInt = c i 1 := nI_toInt (by omega)
      have tc2 : (nI (c i 2)).toInt = c i 2 := nI_toInt (by omega)
      have x1 : (nI (c i 1) + (nI a - 3)).toInt = (c i 1 : Int) + ((a : Int) - 3) := by rw [fb_addI (by rw [tc1, a4]; omega) (by rw [tc1, a4]; omega), tc1, a4]
      have x2 : (nI (c i 2) + (nI b - 3)).toInt = (c i 2 : Int) + ((b : Int) - 3) := by rw [fb_addI (by rw [tc2, b4]; omega) (by rw [tc2, b4]; omega), tc2, b4]
      have okm := okS_mv ok hi hl ht
      rw [L_X7_shift_65_s, if_neg b1, sp_fitsAt N 1 i (hT.2 i hi) (okm.2.1 i hi).1 (by rw [x1]; omega) (by rw [x2]; omega), Option.bind_some, b2n_z, x1, x2, mv_f (by decide) (by decide), mv_f (by decide) (by decide), b3, o3c a ha b hb, shi_s, ← h0]
      by_cases ho : onS c i ((a : Int) - 3) ((b : Int) - 3)
      · obtain ⟨p1, p2⟩ : (0 ≤ (c i 1 : Int) + ((a : Int) - 3) ∧ (c i 1 : Int) + ((a : Int) - 3) + c i 3 ≤ 12) ∧ (0 ≤ (c i 2 : Int) + ((b : Int) - 3) ∧ (c i 2 : Int) + ((b : Int) - 3) + c i 4 ≤ 8) := by unfold onS at ho; omega
        have g1 := (nI_addI (a := c i 1) (x := nI a - 3) (by omega) (by rw [a4]; omega) (by rw [a4]; omega)).1
        have g2 := (nI_addI (a := c i 2) (x := nI b - 3) (by omega) (by rw [b4]; omega) (by rw [b4]; omega)).1
        rw [a4] at g1
        rw [b4] at g2
        obtain ⟨ω, e3, t1, t2⟩ := cl_lie (l' := ((c i 1 : Int) + ((a : Int) - 3)).toNat) (t' := ((c i 2 : Int) + ((b : Int) - 3)).toNat) hT ok hi (by omega) (by omega) hN
        have okm2 := okS_mv (i := i) (l := ((c i 1 : Int) + ((a : Int) - 3)).toNat) (t := ((c i 2 : Int) + ((b : Int) - 3)).toNat) ok hi (by omega) (by omega)
        have f2 : Fr (scrR 1) σ ω := h2.tr t2 (fun _ _ _ z => z) (fun _ _ _ z => z)
        rw [decide_eq_true ⟨p1, p2⟩, if_pos rfl]
        dsimp only
        rw [g1, g2, e3, Option.bind_some, sp_shownNow t1 okm2 hi (by omega), Option.bind_some]
        dsimp only
        have hv := shv_lt n c i a b
        have tv : (nI (shv n c i a b)).toInt = shv n c i a b := nI_toInt (by omega)
        unfold shs
        rw [if_pos ho]
        by_cases hle : nI (shv n c i a b) ≤ s'.1
        · exact ⟨(s', ω), if_pos hle, (if_pos hle).symm, h1, f2, _, _, by omega, by omega, t1⟩
        · exact ⟨((nI (shv n c i a b), nI (10 * a + b)), ω), if_neg hle, (if_neg hle).symm, Or.inr (by show 0 ≤ (nI (shv n c i a b)).toInt; omega), f2, _, _, by omega, by omega, t1⟩
      · unfold shs
        rw [if_neg ho, decide_eq_false (fun z => ho (by unfold onS; omega)), if_neg (by decide), if_pos (show (-1 : Int32) ≤ s'.1 by
          rcases h1 with h1 | h1
          · rw [h1]; decide
          · rw [fa_le, m1_toInt]; omega)]
        exact ⟨(s', υ), rfl, rfl, h1, h2, l, t, hl, ht, hT⟩)
    7 0 (s, τ) N (by omega) ⟨rfl, hs1, hF, hT⟩ (by omega)
  rw [o3e.2.2]
  exact ⟨_, υ, e2, h2, h1, h3⟩
theorem cl_sh55 {i : Nat} (K : Int32 → Int32 → Int32 → Sg → Option (Int32 × Sg)) (ok : okS n c) (hi : i < n) (hN : 100 < N) (hS : isScr σ 1 n c) :
    ∃ v υ, L_X7_shift_55 N K (nI i) i (nI (c i 1)) (nI (c i 2)) N (-1) 0 (-3) σ = K (sho n c i (-1, 0) 7).1 (sho n c i (-1, 0) 7).2 v υ ∧ Fr (scrR 1) σ υ := by
  have hn := ok.1
  obtain ⟨o0, o1, o2, o3', o4⟩ := (ok.2.1 i hi).1
  obtain ⟨⟨s', υ⟩, e2, rfl, h1, h2, h3⟩ := up_rel (fun q v (z : (Int32 × Int32) × Sg) => L_X7_shift_55 N K (nI i) i (nI (c i 1)) (nI (c i 2)) q z.1.1 z.1.2 (v - 3) z.2) (fun v z => K z.1.1 z.1.2 (v - 3) z.2)
    (fun a z => z.1 = sho n c i (-1, 0) a ∧ (z.1.1 = -1 ∨ 0 ≤ z.1.1.toInt) ∧ Fr (scrR 1) σ z.2 ∧ ∃ l t, l + c i 3 ≤ 12 ∧ t + c i 4 ≤ 8 ∧ isScr z.2 1 n (mvS c i l t)) 7
    (fun q z h => by
      show L_X7_shift_55 N _ (nI i) i _ _ (q + 1) _ _ _ _ = _
      rw [L_X7_shift_55_s, if_pos o3e.1])
    (fun q a z ha h => by
      obtain ⟨s', υ⟩ := z
      obtain ⟨h0, h1, h2, hT⟩ := h
      dsimp only at h0 h1 h2 hT
      show ∃ z' : (Int32 × Int32) × Sg, L_X7_shift_55 N K (nI i) i (nI (c i 1)) (nI (c i 2)) (q + 1) s'.1 s'.2 (nI a - 3) υ = L_X7_shift_55 N K (nI i) i (nI (c i 1)) (nI (c i 2)) q z'.1.1 z'.1.2 (nI (a + 1) - 3) z'.2 ∧ _
      obtain ⟨a1, -, a3, a4⟩ := of3 a ha
      rw [L_X7_shift_55_s, if_neg a1, a3, sho_s, ← h0]
      obtain ⟨v, ω, e3, f3, g3, t3⟩ := cl_sh65 (N := N) (σ := σ) (a := a) (fun v6_6 v7_6 v9_6 σ_6 => L_X7_shift_55 N K (nI i) i (nI (c i 1)) (nI (c i 2)) q v6_6 v7_6 (nI (a + 1) - 3) σ_6) ok hi ha hN s' h1 h2 hT
      exact ⟨(shi n c i a s' 7, ω), e3, rfl, g3, f3, t3⟩)
    7 0 ((-1, 0), σ) N (by omega) ⟨rfl, Or.inl rfl, Fr.rf, c i 1, c i 2, by omega, by omega, by rw [mv_same]; exact hS⟩ (by omega)
  rw [o3e.2.2]
  exact ⟨_, υ, e2, h2⟩
theorem mo_sh45 {i a : Nat} (K : Int32 → Int32 → Int32 → Sg → Option (Int32 × Sg)) (ok : okS n c) (hi : i < n) (ha : a < 7) (hN : 100 < N) (hS : mS σ n c) {τ : Sg} (s : Int32 × Int32) (hF : Fr rgA σ τ) (hT : ∃ l t, l + c i 3 ≤ 12 ∧ t + c i 4 ≤ 8 ∧ mW τ n (mvS c i l t) ∧ mC τ n (mvS c i l t)) :
    ∃ v υ, L_X8_shift_45 N K (nI i) (nI a - 3) N s.2 s.1 (-3) τ = K (shi n c i a s 7).2 (shi n c i a s 7).1 v υ ∧ Fr rgA σ υ ∧ ∃ l t, l + c i 3 ≤ 12 ∧ t + c i 4 ≤ 8 ∧ mW υ n (mvS c i l t) ∧ mC υ n (mvS c i l t) := by
  have hn := ok.1
  obtain ⟨o0, o1, o2, o3', o4⟩ := (ok.2.1 i hi).1
  obtain ⟨⟨s', υ⟩, e2, rfl, h2, h3⟩ := up_rel (fun q v (z : (Int32 × Int32) × Sg) => L_X8_shift_45 N K (nI i) (nI a - 3) q z.1.2 z.1.1 (v - 3) z.2) (fun v z => K z.1.2 z.1.1 (v - 3) z.2)
    (fun b z => z.1 = shi n c i a s b ∧ Fr rgA σ z.2 ∧ ∃ l t, l + c i 3 ≤ 12 ∧ t + c i 4 ≤ 8 ∧ mW z.2 n (mvS c i l t) ∧ mC z.2 n (mvS c i l t)) 7
    (fun q z h => by
      show L_X8_shift_45 N _ (nI i) _ (q + 1) _ _ _ _ = _
      rw [L_X8_shift_45_s, if_pos o3e.2.1])
    (fun q b z hb h => by
      obtain ⟨s', υ⟩ := z
      obtain ⟨h0, h2, l, t, hl, ht, hW, hC⟩ := h
      dsimp only at h0 h2 hW hC
      show ∃ z' : (Int32 × Int32) × Sg, L_X8_shift_45 N K (nI i) (nI a - 3) (q + 1) s'.2 s'.1 (nI b - 3) υ = L_X8_shift_45 N K (nI i) (nI a - 3) q z'.1.2 z'.1.1 (nI (b + 1) - 3) z'.2 ∧ _
      obtain ⟨-, a1, -, a4⟩ := of3 a ha
      obtain ⟨-, b1, b3, b4⟩ := of3 b hb
      have hS2 : mS υ n c := hS.frA h2
      rw [L_X8_shift_45_s, if_neg b1, sp_isOn hS2 ok hi (by rw [a4]; omega) (by rw [b4]; omega), Option.bind_some, b2n_z, a4, b4, b3, o3c a ha b hb, shi_s, ← h0]
      by_cases ho : onS c i ((a : Int) - 3) ((b : Int) - 3)
      · obtain ⟨p1, p2⟩ : (0 ≤ (c i 1 : Int) + ((a : Int) - 3) ∧ (c i 1 : Int) + ((a : Int) - 3) + c i 3 ≤ 12) ∧ (0 ≤ (c i 2 : Int) + ((b : Int) - 3) ∧ (c i 2 : Int) + ((b : Int) - 3) + c i 4 ≤ 8) := by unfold onS at ho; omega
        have g1 := (nI_addI (a := c i 1) (x := nI a - 3) (by omega) (by rw [a4]; omega) (by rw [a4]; omega)).1
        have g2 := (nI_addI (a := c i 2) (x := nI b - 3) (by omega) (by rw [b4]; omega) (by rw [b4]; omega)).1
        rw [a4] at g1
        rw [b4] at g2
        obtain ⟨ω, e3, t1, t2, t3⟩ := mo_lie (l' := ((c i 1 : Int) + ((a : Int) - 3)).toNat) (t' := ((c i 2 : Int) + ((b : Int) - 3)).toNat) hW hC ok hi hl ht (by omega) (by omega) hN
        have okm2 := okS_mv (i := i) (l := ((c i 1 : Int) + ((a : Int) - 3)).toNat) (t := ((c i 2 : Int) + ((b : Int) - 3)).toNat) ok hi (by omega) (by omega)
        obtain ⟨ψ, e4, v4, f4⟩ := sp_seeing (N := N) t1 t2 okm2 (by omega)
        have f5 : Fr rgA σ ψ := frA_tr (frA_tr h2 t3) (f4.mono (fun _ _ _ z => rgV_A z))
        have q1 : rI υ 22 14 0 i = nI (c i 1) := (hS2.2.2.1 i hi).1
        have q2 : rI υ 22 14 0 (7 + i) = nI (c i 2) := (hS2.2.2.1 i hi).2.1
        have e5 : f_X8_cellsOf N (nI i) ψ = some (nI (shv n c i a b), ψ) := sp_cellsOf (N := N) v4 hi hn (by omega)
        rw [decide_eq_true ho, if_pos rfl, z_add, n7, nI_add, gi (show i < 22 by omega) (by decide), gi (show i < 22 by omega) (by decide), gi (show 7 + i < 22 by omega) (by decide), gi (show 7 + i < 22 by omega) (by decide), nI_clamp (by omega), nI_clamp (by omega)]
        dsimp only
        rw [rI_uI, if_neg (by simp), q1, q2, g1, g2, e3, Option.bind_some, e4, Option.bind_some]
        simp only [e5, Option.bind_some]
        unfold shs
        rw [if_pos ho]
        by_cases hle : nI (shv n c i a b) ≤ s'.1
        · refine ⟨(s', ψ), ?_, (if_pos hle).symm, f5, _, _, by omega, by omega, rgV_mW f4 t1, rgV_mC f4 t2⟩
          rw [if_pos hle, if_pos hle]
        · refine ⟨((nI (shv n c i a b), nI (10 * a + b)), ψ), ?_, (if_neg hle).symm, f5, _, _, by omega, by omega, rgV_mW f4 t1, rgV_mC f4 t2⟩
          rw [if_neg hle, if_neg hle]
      · unfold shs
        rw [if_neg ho, decide_eq_false ho, if_neg (by decide)]
        exact ⟨(s', υ), rfl, rfl, h2, l, t, hl, ht, hW, hC⟩)
    7 0 (s, τ) N (by omega) ⟨rfl, hF, hT⟩ (by omega)
  rw [o3e.2.2]
  exact ⟨_, υ, e2, h2, h3⟩
theorem mo_sh35 {i : Nat} (K : Int32 → Int32 → Int32 → Sg → Option (Int32 × Sg)) (ok : okS n c) (hi : i < n) (hN : 100 < N) (hS : mS σ n c) (hW : mW σ n c) (hC : mC σ n c) :
    ∃ v υ, L_X8_shift_35 N K (nI i) N (-9) (-1) (-3) σ = K (sho n c i (-1, -9) 7).2 (sho n c i (-1, -9) 7).1 v υ ∧ Fr rgA σ υ := by
  have hn := ok.1
  obtain ⟨o0, o1, o2, o3', o4⟩ := (ok.2.1 i hi).1
  obtain ⟨⟨s', υ⟩, e2, rfl, h2, h3⟩ := up_rel (fun q v (z : (Int32 × Int32) × Sg) => L_X8_shift_35 N K (nI i) q z.1.2 z.1.1 (v - 3) z.2) (fun v z => K z.1.2 z.1.1 (v - 3) z.2)
    (fun a z => z.1 = sho n c i (-1, -9) a ∧ Fr rgA σ z.2 ∧ ∃ l t, l + c i 3 ≤ 12 ∧ t + c i 4 ≤ 8 ∧ mW z.2 n (mvS c i l t) ∧ mC z.2 n (mvS c i l t)) 7
    (fun q z h => by
      show L_X8_shift_35 N _ (nI i) (q + 1) _ _ _ _ = _
      rw [L_X8_shift_35_s, if_pos o3e.2.1])
    (fun q a z ha h => by
      obtain ⟨s', υ⟩ := z
      obtain ⟨h0, h2, hT⟩ := h
      dsimp only at h0 h2 hT
      show ∃ z' : (Int32 × Int32) × Sg, L_X8_shift_35 N K (nI i) (q + 1) s'.2 s'.1 (nI a - 3) υ = L_X8_shift_35 N K (nI i) q z'.1.2 z'.1.1 (nI (a + 1) - 3) z'.2 ∧ _
      obtain ⟨-, a1, a3, a4⟩ := of3 a ha
      rw [L_X8_shift_35_s, if_neg a1, a3, sho_s, ← h0]
      obtain ⟨v, ω, e3, f3, t3⟩ := mo_sh45 (N := N) (σ := σ) (a := a) (fun v3_12 v4_12 v6_12 σ_12 => L_X8_shift_35 N K (nI i) q v3_12 v4_12 (nI (a + 1) - 3) σ_12) ok hi ha hN hS s' h2 hT
      exact ⟨(shi n c i a s' 7, ω), e3, rfl, f3, t3⟩)
    7 0 ((-1, -9), σ) N (by omega) ⟨rfl, Fr.rf, c i 1, c i 2, by omega, by omega, by rw [mv_same]; exact hW, by rw [mv_same]; exact hC⟩ (by omega)
  rw [o3e.2.2]
  exact ⟨_, υ, e2, h2⟩
theorem st_shift (p0 : Int32) (hN : 100 < N) : StepI (f_X7_shift N p0) (f_X8_shift N p0) := by
  intro σ hI
  obtain ⟨n, nd, D, hs⟩ := hI.2.2.2.2.2
  have ok := hs.ok
  have hn := ok.1
  have hs2 : iScr (th0 σ) n nd D := hs.q (tl_sc th0_fr)
  rcases ro_cases (N := N) hs.scr ok p0 with ⟨e1, -, e2⟩ | ⟨e1, -, e2⟩ | ⟨i, hi, rfl, ho, e1, -, e2⟩
  · refine ⟨-1, σ, th0 σ, ?_, ?_, Inv_th0 hI⟩
    · unfold f_X7_shift
      rw [e1]; rfl
    · unfold f_X8_shift
      rw [← th0, e2 _ hs2.mS]; rfl
  · refine ⟨-4, σ, th0 σ, ?_, ?_, Inv_th0 hI⟩
    · unfold f_X7_shift
      rw [e1]; rfl
    · unfold f_X8_shift
      rw [← th0, e2 _ hs2.mS]; rfl
  · obtain ⟨τ0, k0, k1, k2⟩ := sp_become (N := N) (s := 1) (s' := 0) (by decide) hs.scr ok (by omega)
    obtain ⟨v, τ, l1, l2⟩ := cl_sh55 (N := N) (i := i) (fun v6_7 v7_7 v8_7 σ_7 => some (v7_7, uI σ_7 0 0 0 12 v6_7)) ok hi hN k1
    have q0 : Fq scR σ τ := (k2.q (fun _ _ _ _ z => scr1_sc z)).tr (l2.q (fun _ _ _ _ z => scr1_sc z)) (fun _ _ _ _ z => z) (fun _ _ _ _ z => z)
    have es := sho_same ok hi
    generalize hw : sho n (D nd) i (-1, 0) 7 = w at *
    have hm : mS (th0 (tel τ w.1)) n (D nd) := (hs.q (((tl_sc q0).uI (Or.inr (Or.inl ⟨rfl, rfl⟩))).tr (tl_sc th0_fr) (fun _ _ _ _ z => z) (fun _ _ _ _ z => z))).mS
    obtain ⟨τ1, a1, w1, f1⟩ := sp_asNow (N := N) (by omega) hm ok
    obtain ⟨τ2, a2, w2, c2, f2⟩ := sp_coveringAll (N := N) w1 ok (by omega)
    have fA : Fr rgA (th0 (tel τ w.1)) τ2 := f1.tr f2 (fun _ _ _ z => rgW_A z) (fun _ _ _ z => rgC_A z)
    obtain ⟨v', ω, g1, g2⟩ := mo_sh35 (N := N) (i := i) (fun v3_13 v4_13 v5_13 σ_13 => (f_X8_tells N v3_13 v4_13 σ_13).bind (fun w14 => some (w14.1, w14.2))) ok hi hN (hm.frA fA) w2 c2
    refine ⟨w.2, tel τ w.1, uI ω 21 0 0 1 w.1, ?_, ?_, Inv_tells (Inv_sc hI q0) ((frA_tr fA g2).q (fun _ _ _ _ => rgA_sc))⟩
    · unfold f_X7_shift
      rw [e1, Option.bind_some, if_pos rfl]
      dsimp only
      rw [k0, Option.bind_some, gi (show i < 7 by omega) (by decide), nI_clamp (show i < 2 ^ 31 by omega), k1.f hi (by decide), k1.f hi (by decide), l1]
      rfl
    · unfold f_X8_shift
      rw [← th0, e2 _ hm, Option.bind_some, if_pos rfl]
      dsimp only
      rw [a1, Option.bind_some, a2, Option.bind_some, g1, ← es, sp_tells, Option.bind_some]
end Shift
