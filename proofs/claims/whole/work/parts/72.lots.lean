section Lots
variable {N n nd : Nat} {σ : Sg} {D : Nat → Scr} {c : Scr}
theorem plc_same {i : Nat} : plc c i (c i 5) = c := by
  funext j f
  unfold plc
  by_cases h : f = 5
  · rw [if_pos h, h]
    by_cases e : j = i
    · rw [if_pos e, e]
    · rw [if_neg e]; unfold shp; rw [if_neg (by omega), if_neg (by omega)]
  · rw [if_neg h]
/-- how it is after a deed by lot -/
def lotS (n : Nat) (c : Scr) (y : Nat) : Scr :=
  if y % 4 = 0 then plc c (y / 8 % n) (n - 1)
  else if y % 4 = 1 then plc c (y / 8 % n) 0
  else if y % 4 = 2 then (if onS c (y / 8 % n) (((y / 128 % 7 : Nat) : Int) - 3) (((y / 1024 % 7 : Nat) : Int) - 3) then mvS c (y / 8 % n) ((c (y / 8 % n) 1 : Int) + (((y / 128 % 7 : Nat) : Int) - 3)).toNat ((c (y / 8 % n) 2 : Int) + (((y / 1024 % 7 : Nat) : Int) - 3)).toNat else c)
  else flp c (y / 8 % n)
theorem okS_lot {y : Nat} (ok : okS n c) (hn2 : 2 ≤ n) : okS n (lotS n c y) ∧ sameK n (lotS n c y) c := by
  have hi : y / 8 % n < n := Nat.mod_lt _ (by omega)
  unfold lotS
  split
  · exact ⟨okS_plc ok hi (by omega), sameK_plc⟩
  · split
    · exact ⟨okS_plc ok hi (by omega), sameK_plc⟩
    · split
      · split
        · rename_i ho
          unfold onS at ho
          exact ⟨okS_mv ok hi (by omega) (by omega), sameK_mv⟩
        · exact ⟨ok, sameK.rf⟩
      · exact ⟨okS_flp ok hi, sameK_flp⟩
theorem lt_i {y : Nat} (hy : y < 2147483647) (hn : n ≤ 7) (hn2 : 2 ≤ n) : (nI y - nI y / (4 : Int32) * (4 : Int32)) = nI (y % 4) ∧ (nI y / (8 : Int32)) - (nI y / (8 : Int32)) / nI n * nI n = nI (y / 8 % n) ∧ (nI y / (128 : Int32)) - (nI y / (128 : Int32)) / (7 : Int32) * (7 : Int32) = nI (y / 128 % 7) ∧ (nI y / (1024 : Int32)) - (nI y / (1024 : Int32)) / (7 : Int32) * (7 : Int32) = nI (y / 1024 % 7) := by
  refine ⟨?_, ?_, ?_, ?_⟩
  · rw [n4, pk_rem (by omega) (by decide) (by decide)]
  · rw [n8, pk_div (by omega) (by decide) (by decide), pk_rem (Nat.lt_of_le_of_lt (Nat.div_le_self _ _) (by omega)) (by omega) (by omega)]
  · rw [show (128 : Int32) = nI 128 from rfl, n7, pk_div (by omega) (by decide) (by decide), pk_rem (Nat.lt_of_le_of_lt (Nat.div_le_self _ _) (by omega)) (by decide) (by decide)]
  · rw [show (1024 : Int32) = nI 1024 from rfl, n7, pk_div (by omega) (by decide) (by decide), pk_rem (Nat.lt_of_le_of_lt (Nat.div_le_self _ _) (by omega)) (by decide) (by decide)]
theorem cl_idle {i : Nat} (h : cH σ 0 0 n nd D) (hd : nd < 40) (hi : i < n) : ∃ τ, f_X1_note N 0 (3 : Int32) (nI i) 0 0 σ = some τ ∧ cH τ 0 0 n (nd + 1) (ext D nd (D nd)) ∧ Fq cdR σ τ := by
  obtain ⟨h1, h2⟩ := cH_ext (w := 3) (a := nI i) (b := 0) (d := 0) h h.1 Fr.rf ⟨i, hi, rfl, Or.inr (Or.inr (Or.inr ⟨rfl, fun _ _ _ _ => rfl⟩))⟩
  exact ⟨_, sp_note h.2.1 hd, h1, h2⟩
theorem cl_lot {y : Nat} (h : cH σ 0 0 n nd D) (ok : okS n (D nd)) (hd : nd < 40) (hn2 : 2 ≤ n) (hy : y < 2147483647) (hN : 100 < N) :
    ∃ τ, f_X7_doByLot N (nI y) σ = some τ ∧ cH τ 0 0 n (nd + 1) (ext D nd (lotS n (D nd) y)) ∧ Fq cdR σ τ := by
  have hn := ok.1
  have hi : y / 8 % n < n := Nat.mod_lt _ (by omega)
  obtain ⟨t4, t8, tx, ty⟩ := lt_i hy hn hn2
  have hr4 : y % 4 < 4 := Nat.mod_lt _ (by decide)
  have hx7 : y / 128 % 7 < 7 := Nat.mod_lt _ (by decide)
  have hy7 : y / 1024 % 7 < 7 := Nat.mod_lt _ (by decide)
  have t4' : (nI (y % 4)).toInt = (y % 4 : Nat) := nI_toInt (by omega)
  unfold f_X7_doByLot
  rw [h.1.1, iz_f (by omega) (by omega), t4, t8, tx, ty, t4']
  unfold lotS
  generalize y / 8 % n = i at *
  generalize y / 128 % 7 = X at *
  generalize y / 1024 % 7 = Y at *
  generalize y % 4 = r at *
  obtain ⟨-, -, -, X4⟩ := of3 X hx7
  obtain ⟨-, -, -, Y4⟩ := of3 Y hy7
  rcases (show r = 0 ∨ r = 1 ∨ r = 2 ∨ r = 3 by omega) with rfl | rfl | rfl | rfl
  · rw [if_pos (by omega), if_pos rfl]
    unfold f_X7_raise
    rw [h.1.1, n1, pk_sub (by omega)]
    obtain ⟨c1, -, c3⟩ := cl_reorder (N := N) h ok (by omega) hi (show n - 1 < n by omega) (by omega)
    by_cases e : D nd i 5 = n - 1
    · rw [c1 e, Option.bind_some, Option.bind_some, if_neg (show ¬ (0 : Int32) ≤ -4 by decide), ← e, plc_same]
      obtain ⟨τ, a1, a2, a3⟩ := cl_idle (N := N) h hd hi
      exact ⟨τ, by rw [a1]; rfl, a2, a3⟩
    · obtain ⟨υ, d1, d2, d3⟩ := c3 e hd
      rw [d1, Option.bind_some, Option.bind_some, if_pos (nI_pos' (by have := (ok.2.1 i hi).2.1; omega))]
      exact ⟨υ, rfl, d2, d3⟩
  · rw [if_neg (by omega), if_pos (by omega), if_neg (by decide), if_pos rfl]
    unfold f_X7_sink
    obtain ⟨c1, -, c3⟩ := cl_reorder (N := N) h ok (by omega) hi (show 0 < n by omega) (by omega)
    by_cases e : D nd i 5 = 0
    · rw [show f_X7_reorder N (nI i) 0 σ = _ from c1 e, Option.bind_some, Option.bind_some, if_neg (show ¬ (0 : Int32) ≤ -4 by decide)]
      have e2 : plc (D nd) i 0 = D nd := by
        have := plc_same (c := D nd) (i := i)
        rw [e] at this; exact this
      rw [e2]
      obtain ⟨τ, a1, a2, a3⟩ := cl_idle (N := N) h hd hi
      exact ⟨τ, by rw [a1]; rfl, a2, a3⟩
    · obtain ⟨υ, d1, d2, d3⟩ := c3 e hd
      rw [show f_X7_reorder N (nI i) 0 σ = _ from d1, Option.bind_some, Option.bind_some, if_pos (nI_pos' (by have := (ok.2.1 i hi).2.1; omega))]
      exact ⟨υ, rfl, d2, d3⟩
  · rw [if_neg (by omega), if_neg (by omega), if_pos (by omega), if_neg (by decide), if_neg (by decide), if_pos rfl]
    obtain ⟨c1, c2, -, c4⟩ := cl_move (N := N) (x := nI X - 3) (y := nI Y - 3) h ok (by omega) hi (by rw [X4]; omega) (by rw [Y4]; omega) (by omega)
    rw [X4, Y4] at c1 c2 c4
    obtain ⟨o0, o1, o2, o3', o4⟩ := (ok.2.1 i hi).1
    by_cases e0 : (X : Int) - 3 = 0 ∧ (Y : Int) - 3 = 0
    · rw [c1 e0, Option.bind_some, if_neg (show ¬ (0 : Int32) ≤ -1 by decide), if_pos (by unfold onS; omega), e0.1, e0.2]
      have e3 : mvS (D nd) i ((D nd i 1 : Int) + 0).toNat ((D nd i 2 : Int) + 0).toNat = D nd := by
        rw [show ((D nd i 1 : Int) + 0).toNat = D nd i 1 by omega, show ((D nd i 2 : Int) + 0).toNat = D nd i 2 by omega]; exact mv_same
      rw [e3]
      obtain ⟨τ, a1, a2, a3⟩ := cl_idle (N := N) h hd hi
      exact ⟨τ, by rw [a1]; rfl, a2, a3⟩
    · by_cases ho : onS (D nd) i ((X : Int) - 3) ((Y : Int) - 3)
      · obtain ⟨υ, d1, d2, d3⟩ := c4 e0 ho hd
        rw [d1, Option.bind_some, if_pos (nI_pos' (by unfold onS at ho; omega)), if_pos ho]
        exact ⟨υ, rfl, d2, d3⟩
      · rw [c2 e0 ho, Option.bind_some, if_neg (show ¬ (0 : Int32) ≤ -4 by decide), if_neg ho]
        obtain ⟨τ, a1, a2, a3⟩ := cl_idle (N := N) h hd hi
        exact ⟨τ, by rw [a1]; rfl, a2, a3⟩
  · rw [if_neg (by omega), if_neg (by omega), if_neg (by omega), if_neg (by decide), if_neg (by decide), if_neg (by decide)]
    obtain ⟨-, c2⟩ := cl_shut (N := N) h ok (by omega) hi (by omega)
    obtain ⟨υ, d1, d2, d3⟩ := c2 hd
    rw [d1, Option.bind_some, if_pos (nI_pos' (by have := fb_ct_le (opn (flp (D nd) i)) n; omega))]
    exact ⟨υ, rfl, d2, d3⟩
/-- the lots, and the screens after each -/
def lty (y0 : Nat) : Nat → Nat
  | 0 => y0
  | j + 1 => 48271 * lty y0 j % 2147483647
def ltD (n nd : Nat) (D : Nat → Scr) (y0 : Nat) : Nat → Nat → Scr
  | 0 => D
  | j + 1 => ext (ltD n nd D y0 j) (nd + j) (lotS n (ltD n nd D y0 j (nd + j)) (lty y0 (j + 1)))
theorem lty_lt {y0 : Nat} (h : y0 < 2147483647) : ∀ j, lty y0 j < 2147483647
  | 0 => h
  | j + 1 => Nat.mod_lt _ (by decide)
theorem ltD_ok {y0 : Nat} (h : okH n nd D (D nd)) (hn2 : 2 ≤ n) : ∀ j, nd + j ≤ 40 → okH n (nd + j) (ltD n nd D y0 j) (ltD n nd D y0 j (nd + j)) ∧ sameK n (ltD n nd D y0 j (nd + j)) (D nd)
  | 0, _ => ⟨h, sameK.rf⟩
  | j + 1, hj => by
    obtain ⟨h1, h2⟩ := ltD_ok (y0 := y0) h hn2 j (by omega)
    obtain ⟨k1, k2⟩ := okS_lot (y := lty y0 (j + 1)) (h1.2 (nd + j) (Nat.le_refl _)).1 hn2
    have e : ltD n nd D y0 (j + 1) (nd + (j + 1)) = lotS n (ltD n nd D y0 j (nd + j)) (lty y0 (j + 1)) := ext_new _ _ _
    rw [e]
    exact ⟨okH_ext h1 (show nd + j < 40 by omega) k1 k2, k2.tr h2⟩
theorem ltL {y : Nat} (hy : y < 2147483647) : lN y * (48271 : Int64) - lN y * (48271 : Int64) / (2147483647 : Int64) * (2147483647 : Int64) = lN (48271 * y % 2147483647) := by
  rw [show (48271 : Int64) = lN 48271 from rfl, show (2147483647 : Int64) = lN 2147483647 from rfl, lN_mul, Nat.mul_comm, pk_lRem (by omega) (by decide) (by decide)]
theorem ltI {y : Nat} (hy : y < 2147483647) : ((48271 : Int64) * (nI y).toInt64 - (48271 : Int64) * (nI y).toInt64 / (2147483647 : Int64) * (2147483647 : Int64)).toInt32 = nI (48271 * y % 2147483647) := by
  rw [nI_l (by omega), show (48271 : Int64) = lN 48271 from rfl, show (2147483647 : Int64) = lN 2147483647 from rfl, lN_mul, pk_lRem (by omega) (by decide) (by decide), lN_i]
theorem cl_lots {m y0 : Nat} (K : Int32 → Int32 → Sg → Option (Int32 × Sg)) (h : cH σ 0 0 n nd D) (ho : okH n nd D (D nd)) (hn2 : 2 ≤ n) (hm : nd + m ≤ 40) (hy : y0 < 2147483647) (hN : 100 < N) :
    ∃ a v τ, L_X7_lots_59 N K (nI m) N (nI y0) 0 σ = K a v τ ∧ cH τ 0 0 n (nd + m) (ltD n nd D y0 m) ∧ Fq cdR σ τ := by
  obtain ⟨⟨a, τ⟩, e, -, h2, h3⟩ := up_rel (fun q v (s : Int32 × Sg) => L_X7_lots_59 N K (nI m) q s.1 v s.2) (fun v s => K s.1 v s.2) (fun j s => s.1 = nI (lty y0 j) ∧ cH s.2 0 0 n (nd + j) (ltD n nd D y0 j) ∧ Fq cdR σ s.2) m
    (fun q s h => by
      show L_X7_lots_59 N _ _ (q + 1) _ _ _ = _
      rw [L_X7_lots_59_s, ile_t (Nat.le_refl _) (by omega)])
    (fun q j s hj h' => by
      obtain ⟨a, τ⟩ := s
      obtain ⟨h1, h2, h3⟩ := h'
      dsimp only at h1 h2 h3
      subst h1
      show ∃ s' : Int32 × Sg, L_X7_lots_59 N K (nI m) (q + 1) (nI (lty y0 j)) (nI j) τ = L_X7_lots_59 N K (nI m) q s'.1 (nI (j + 1)) s'.2 ∧ _
      obtain ⟨o1, -⟩ := ltD_ok (y0 := y0) ho hn2 j (by omega)
      obtain ⟨υ, d1, d2, d3⟩ := cl_lot (N := N) (y := lty y0 (j + 1)) h2 (o1.2 _ (Nat.le_refl _)).1 (by omega) hn2 (lty_lt hy _) hN
      rw [L_X7_lots_59_s, ile_f hj (by omega), ltI (lty_lt hy j), nI_1]
      refine ⟨(nI (lty y0 (j + 1)), υ), ?_, rfl, d2, h3.tr d3 (fun _ _ _ _ z => z) (fun _ _ _ _ z => z)⟩
      show (f_X7_doByLot N (nI (lty y0 (j + 1))) τ).bind _ = _
      rw [d1, Option.bind_some]; rfl)
    m 0 (nI y0, σ) N (by omega) ⟨rfl, h, Fq.rf⟩ (by omega)
  exact ⟨a, _, τ, e, h2, h3⟩
theorem mo_lots {m y0 : Nat} (K : Int64 → Int32 → Sg → Option (Int32 × Sg)) (h : mH σ n nd D) (hk : mK σ n (D nd)) (ho : okH n nd D (D nd)) (hn2 : 2 ≤ n) (hm : nd + m ≤ 40) (hy : y0 < 2147483647) (hN : 100 < N) :
    ∃ a v τ, L_X8_lots_58 N K (nI m) N (lN y0) 0 σ = K a v τ ∧ mH τ n (nd + m) (ltD n nd D y0 m) ∧ Fq mdR σ τ := by
  have hn := (ho.2 nd (Nat.le_refl _)).1.1
  obtain ⟨⟨a, τ⟩, e, -, h2, h3⟩ := up_rel (fun q v (s : Int64 × Sg) => L_X8_lots_58 N K (nI m) q s.1 v s.2) (fun v s => K s.1 v s.2) (fun j s => s.1 = lN (lty y0 j) ∧ mH s.2 n (nd + j) (ltD n nd D y0 j) ∧ Fq mdR σ s.2) m
    (fun q s h => by
      show L_X8_lots_58 N _ _ (q + 1) _ _ _ = _
      rw [L_X8_lots_58_s, ile_t (Nat.le_refl _) (by omega)])
    (fun q j s hj h' => by
      obtain ⟨a, τ⟩ := s
      obtain ⟨h1, h2, h3⟩ := h'
      dsimp only at h1 h2 h3
      subst h1
      show ∃ s' : Int64 × Sg, L_X8_lots_58 N K (nI m) (q + 1) (lN (lty y0 j)) (nI j) τ = L_X8_lots_58 N K (nI m) q s'.1 (nI (j + 1)) s'.2 ∧ s'.1 = lN (lty y0 (j + 1)) ∧ mH s'.2 n (nd + (j + 1)) (ltD n nd D y0 (j + 1)) ∧ Fq mdR σ s'.2
      obtain ⟨o1, sk⟩ := ltD_ok (y0 := y0) ho hn2 j (by omega)
      have hb := lty_lt hy (j + 1)
      have eY : 48271 * lty y0 j % 2147483647 = lty y0 (j + 1) := rfl
      have eD : ltD n nd D y0 (j + 1) = ext (ltD n nd D y0 j) (nd + j) (lotS n (ltD n nd D y0 j (nd + j)) (lty y0 (j + 1))) := rfl
      have h10 : rI τ 21 0 0 10 = nI n := ((h3 21 0 0 10 (by unfold mdR; omega)).1).trans hk.1
      rw [L_X8_lots_58_s, ile_f hj (by omega), ltL (lty_lt hy j), eY, eD, nI_1, lN_i, h10]
      have hS : mS τ n (ltD n nd D y0 j (nd + j)) := ⟨h10, fun i hi => by
        obtain ⟨a, b, d⟩ := hk.2 i hi
        obtain ⟨a', b', d'⟩ := sk i hi
        rw [a', b', d']
        exact ⟨((h3 22 11 0 i (by unfold mdR; omega)).1).trans a, ((h3 22 12 0 i (by unfold mdR; omega)).1).trans b, ((h3 22 13 0 i (by unfold mdR; omega)).1).trans d⟩, h2.1⟩
      generalize lty y0 (j + 1) = y at *
      generalize ltD n nd D y0 j = E at *
      have oks : ∀ d, d ≤ nd + j → okS n (E d) := fun d hd => (o1.2 d hd).1
      have ok := oks (nd + j) (Nat.le_refl _)
      have hi : y / 8 % n < n := Nat.mod_lt _ (by omega)
      obtain ⟨t4, t8, tx, ty⟩ := lt_i hb hn hn2
      have hr4 : y % 4 < 4 := Nat.mod_lt _ (by decide)
      have hx7 : y / 128 % 7 < 7 := Nat.mod_lt _ (by decide)
      have hy7 : y / 1024 % 7 < 7 := Nat.mod_lt _ (by decide)
      rw [t4, t8, tx, ty, show (decide (¬ nI n = 0)) = true from decide_eq_true (nI_ne0 (by omega) (by omega))]
      unfold lotS
      generalize y / 8 % n = i at *
      generalize y / 128 % 7 = X at *
      generalize y / 1024 % 7 = Y at *
      generalize y % 4 = r at *
      show ∃ s' : Int64 × Sg, (f_X8_notes N τ).bind _ = _ ∧ _
      obtain ⟨-, -, -, X4⟩ := of3 X hx7
      obtain ⟨-, -, -, Y4⟩ := of3 Y hy7
      have hp := (ok.2.1 i hi).2.1
      rcases (show r = 0 ∨ r = 1 ∨ r = 2 ∨ r = 3 by omega) with rfl | rfl | rfl | rfl
      · obtain ⟨τ', υ, x1, ms, fr, x2, x3, x4⟩ := mo_comes (N := N) h2 oks (by omega) hi (show n - 1 < n by omega) (by omega)
        rw [x1, Option.bind_some, iz_t rfl, sp_placeOf ms ok hi (by omega), Option.bind_some]
        dsimp only
        rw [(fr 0).1, h10, n1, pk_sub (by omega), x2, Option.bind_some, if_pos rfl]
        exact ⟨(lN y, υ), rfl, rfl, x3, h3.tr x4 (fun _ _ _ _ z => z) (fun _ _ _ _ z => z)⟩
      · obtain ⟨τ', υ, x1, ms, fr, x2, x3, x4⟩ := mo_comes (N := N) h2 oks (by omega) hi (show 0 < n by omega) (by omega)
        rw [x1, Option.bind_some, iz_f (by decide) (by decide), if_pos (show nI 1 = (1 : Int32) from rfl), sp_placeOf ms ok hi (by omega), Option.bind_some]
        dsimp only
        rw [show f_X8_comesTo N 14 (nI (E (nd + j) i 5)) 0 τ' = _ from x2, Option.bind_some, if_neg (by decide), if_pos rfl]
        exact ⟨(lN y, υ), rfl, rfl, x3, h3.tr x4 (fun _ _ _ _ z => z) (fun _ _ _ _ z => z)⟩
      · obtain ⟨τ', x1, g1, g2, f1⟩ := sp_notes (N := N) h2 oks (by omega) (by omega)
        have ms : isMod (fun k => rI τ' 22 14 0 k) n (E (nd + j)) := isMod_fr h2.1 (fun k => (f1 22 14 0 k (by omega)).1)
        have hS' : mS τ' n (E (nd + j)) := ⟨((f1 21 0 0 10 (by omega)).1).trans hS.1, fun a ha => ⟨((f1 22 11 0 a (by omega)).1).trans (hS.2.1 a ha).1, ((f1 22 12 0 a (by omega)).1).trans (hS.2.1 a ha).2.1, ((f1 22 13 0 a (by omega)).1).trans (hS.2.1 a ha).2.2⟩, ms⟩
        rw [x1, Option.bind_some, iz_f (by decide) (by decide), if_neg (show ¬ nI 2 = (1 : Int32) by decide), if_neg (show ¬ nI 2 = (3 : Int32) by decide), sp_isOn hS' ok hi (by rw [X4]; omega) (by rw [Y4]; omega), Option.bind_some, b2n_z, X4, Y4, if_neg (show ¬ (2 : Nat) = 0 by decide), if_neg (show ¬ (2 : Nat) = 1 by decide), if_pos (show (2 : Nat) = 2 from rfl)]
        dsimp only
        by_cases ho : onS (E (nd + j)) i ((X : Int) - 3) ((Y : Int) - 3)
        · obtain ⟨τ2, υ, y1, y2, -, -, y3, y4⟩ := mo_move (N := N) (x := nI X - 3) (y := nI Y - 3) hS h2 oks hi (by rw [X4]; omega) (by rw [Y4]; omega) (by rw [X4, Y4]; exact ho) (by omega) (by omega)
          rw [x1] at y1
          cases y1
          rw [X4, Y4] at y3
          rw [decide_eq_true ho, if_pos rfl, if_pos ho, z_add, n7, nI_add, gi (show i < 22 by omega) (by decide), gi (show i < 22 by omega) (by decide), gi (show 7 + i < 22 by omega) (by decide), gi (show 7 + i < 22 by omega) (by decide), nI_clamp (by omega), nI_clamp (by omega)]
          refine ⟨(lN y, υ), ?_, rfl, y3, h3.tr y4 (fun _ _ _ _ z => z) (fun _ _ _ _ z => z)⟩
          rw [y2, show rI (uI τ' 22 14 0 i (rI τ' 22 14 0 i + (nI X - 3))) 22 14 0 (7 + i) = rI τ' 22 14 0 (7 + i) by rw [rI_uI, if_neg (by omega)]]
        · rw [decide_eq_false ho, if_neg (by decide), if_neg ho]
          exact ⟨(lN y, τ'), rfl, rfl, mH_ext g1 g2 Fq.rf ms, h3.tr f1 (fun _ _ _ _ z => z) (fun _ _ _ _ z => by unfold mdR; omega)⟩
      · obtain ⟨τ', υ, x1, x2, -, x3, x4⟩ := mo_shut (N := N) h2 oks hi (by omega) (by omega)
        rw [x1, Option.bind_some, iz_f (by decide) (by decide), if_neg (show ¬ nI 3 = (1 : Int32) by decide), if_pos (show nI 3 = (3 : Int32) from rfl), gi21, gi21, cl21, ← x2, if_neg (by decide), if_neg (by decide), if_neg (by decide)]
        exact ⟨(lN y, υ), rfl, rfl, x3, h3.tr x4 (fun _ _ _ _ z => z) (fun _ _ _ _ z => z)⟩)
    m 0 (lN y0, σ) N (by omega) ⟨rfl, h, Fq.rf⟩ (by omega)
  exact ⟨a, _, τ, e, h2, h3⟩
theorem in_1 {p : Int32} {b : Nat} (h : 1 ≤ p.toInt ∧ p.toInt ≤ b) (hb : b < 2147483647) : ∃ m, 1 ≤ m ∧ m ≤ b ∧ p = nI m := by
  obtain ⟨m, hm, rfl⟩ := in_nI (p := p) (n := b + 1) ⟨by omega, by omega⟩ (by omega)
  have : (nI m).toInt = m := nI_toInt (by omega)
  exact ⟨m, by omega, by omega, rfl⟩
theorem st_lots (p0 p1 : Int32) (hN : 100 < N) : StepI (f_X7_lots N p0 p1) (f_X8_lots N p0 p1) := by
  intro σ hI
  obtain ⟨n, nd, D, hs⟩ := hI.2.2.2.2.2
  have ok := hs.ok
  have hn := ok.1
  have hs2 : iScr (th0 σ) n nd D := hs.q (tl_sc th0_fr)
  have z1 : (1 : Int32).toInt = 1 := by decide
  have z20 : (20 : Int32).toInt = 20 := by decide
  have zM : (2147483646 : Int32).toInt = 2147483646 := by decide
  have l1 : (p0 < (1 : Int32)) ↔ p0.toInt < 1 := by rw [fa_lt, z1]
  have l2 : ((20 : Int32) < p0) ↔ 20 < p0.toInt := by rw [fa_lt, z20]
  have l3 : (p1 < (1 : Int32)) ↔ p1.toInt < 1 := by rw [fa_lt, z1]
  have l4 : (lg_cmp p1.toInt64 (2147483647 : Int64) < 0) ↔ p1.toInt < 2147483647 := by
    rw [lg_cmp_lt, fa_lt64, Int32.toInt_toInt64]; rfl
  have m0 : ∀ τ, f_X8_lots N p0 p1 τ = (if (1 ≤ p0.toInt ∧ p0.toInt ≤ 20) then (if (1 ≤ p1.toInt ∧ p1.toInt ≤ 2147483646) then (if (rI (th0 τ) 21 0 0 10) = 0 then (some ((-4 : Int32), th0 τ)) else (if ((rI (th0 τ) 21 0 0 16) + p0) ≤ (40 : Int32) then (L_X8_lots_58 N (fun v3_9 v5_9 σ_9 => (f_X8_sees N σ_9).bind (fun w10 => (f_X8_manySeen N w10).bind (fun w11 => some (w11.1, w11.2)))) p0 N p1.toInt64 (0 : Int32) (th0 τ)) else (some ((-2 : Int32), th0 τ)))) else some (-1, th0 τ)) else some (-1, th0 τ)) := by
    intro τ
    unfold f_X8_lots
    rw [← th0, sp_in, Option.bind_some, b2n_z, z1, z20]
    by_cases a : 1 ≤ p0.toInt ∧ p0.toInt ≤ 20
    · rw [decide_eq_true a, if_pos rfl, if_pos a]
      dsimp only
      rw [sp_in, Option.bind_some, b2n_z, z1, zM]
      by_cases b : 1 ≤ p1.toInt ∧ p1.toInt ≤ 2147483646
      · rw [decide_eq_true b, if_pos rfl, if_pos b]
      · rw [decide_eq_false b, if_neg (by decide), if_neg b]
    · rw [decide_eq_false a, if_neg (by decide), if_neg a]
  unfold f_X7_lots
  simp only [l1, l2, l3, l4]
  by_cases a : 1 ≤ p0.toInt ∧ p0.toInt ≤ 20
  · by_cases b : 1 ≤ p1.toInt ∧ p1.toInt ≤ 2147483646
    · rw [if_neg (by omega), if_neg (by omega), if_neg (by omega), if_pos (by omega), hs.scr.1]
      rcases hs.1 with rfl | hn2
      · rw [iz_t rfl]
        refine ⟨-4, σ, th0 σ, rfl, ?_, Inv_th0 hI⟩
        rw [m0, if_pos a, if_pos b, hs2.mS.1, iz_t rfl]
      · obtain ⟨m, m1, m20, rfl⟩ := in_1 (b := 20) a (by decide)
        obtain ⟨y, y1, y2, rfl⟩ := in_1 (b := 2147483646) b (by decide)
        have hd40 := hs.2.1.1
        rw [iz_f (by omega) (by omega), sp_room hs.2.2.1.2.1 hd40 (by omega), Option.bind_some, b2n_z]
        by_cases hr : nd + m ≤ 40
        · rw [decide_eq_true hr, if_pos rfl]
          obtain ⟨x, v, τ, e1, e2, e3⟩ := cl_lots (N := N) (y0 := y) (fun v3_3 v4_3 σ_3 => (f_X4_howManySeen N 0 σ_3).bind (fun w4 => some (w4.1, w4.2))) hs.2.2.1 hs.2.1 hn2 hr (by omega) hN
          obtain ⟨o1, sk⟩ := ltD_ok (y0 := y) hs.2.1 hn2 m hr
          have okc := (o1.2 _ (Nat.le_refl _)).1
          have mS0 := mS_cd hs e3
          obtain ⟨x', v', υ, g1, g2, g3⟩ := mo_lots (N := N) (y0 := y) (m := m) (fun v3_9 v5_9 σ_9 => (f_X8_sees N σ_9).bind (fun w10 => (f_X8_manySeen N w10).bind (fun w11 => some (w11.1, w11.2)))) (mH_cd hs.2.2.2.1 e3) ⟨mS0.1, mS0.2.1⟩ hs.2.1 hn2 hr (by omega) hN
          obtain ⟨k1, k2⟩ := fq_cm e3 g3
          have hs3 : iScr υ n (nd + m) (ltD n nd D y m) := iScr_new hs k1 o1 sk (cH_md e2 k2) g2
          obtain ⟨ω, s0, s1, s2, s3, s4, s5⟩ := sp_sees (N := N) hs3.mS okc (by omega)
          refine ⟨nI (fb_ct (fun i => anyb (vis n (ltD n nd D y m (nd + m)) i) 96) n), τ, ω, ?_, ?_, Inv_sc (Inv_deed hI k1 hs3) (s5.q (fun _ _ _ _ => rgA_sc))⟩
          · rw [e1, sp_howManySeen e2.1 okc (by omega)]; rfl
          · rw [m0, if_pos a, if_pos b, mS0.1, iz_f (by omega) (by omega), (mH_cd hs.2.2.2.1 e3).2.1, nI_add, n40, ile_t hr (by decide), nI_l (by omega), g1, s0, Option.bind_some, mo_manySeen s1.1 s4 hn (by omega)]; rfl
        · rw [decide_eq_false hr, if_neg (by decide)]
          refine ⟨-2, σ, th0 σ, rfl, ?_, Inv_th0 hI⟩
          rw [m0, if_pos a, if_pos b, hs2.mS.1, iz_f (by omega) (by omega), hs2.2.2.2.1.2.1, nI_add, n40, ile_f (by omega) (by omega)]
    · refine ⟨-1, σ, th0 σ, ?_, by rw [m0, if_pos a, if_neg b], Inv_th0 hI⟩
      rw [if_neg (by omega), if_neg (by omega)]
      by_cases b1 : p1.toInt < 1
      · rw [if_pos b1]
      · rw [if_neg b1, if_neg (by omega)]
  · refine ⟨-1, σ, th0 σ, ?_, by rw [m0, if_neg a], Inv_th0 hI⟩
    by_cases b1 : p0.toInt < 1
    · rw [if_pos b1]
    · rw [if_neg b1, if_pos (by omega)]
end Lots
