section Deed3
variable {N n nd : Nat} {σ : Sg} {D : Nat → Scr} {c : Scr}
theorem re_step (p0 : Int32) (hN : 100 < N) (hI : Inv σ) (hs : iScr σ n nd D) (to_ : Nat) (ht : 0 < n → to_ < n) (x : Int32) (hx : 0 < n → x = nI to_) :
    ∃ a σ1 σ2, f_X7_reorder N p0 x σ = some (a, σ1) ∧ f_X8_shifts N p0 x (th0 σ1) = some (a, σ2) ∧ Inv σ2 := by
  have ok := hs.ok
  have hn := ok.1
  have hs2 : iScr (th0 σ) n nd D := hs.q (tl_sc th0_fr)
  by_cases hi : 0 ≤ p0.toInt ∧ p0.toInt < (n : Nat)
  · obtain ⟨i, hin, rfl⟩ := in_nI hi (by omega)
    have hx' := hx (by omega)
    subst hx'
    obtain ⟨c1, c2, c3⟩ := cl_reorder (N := N) hs.2.2.1 ok hs.2.1.1 hin (ht (by omega)) (by omega)
    by_cases e : D nd i 5 = to_
    · obtain ⟨m1, -, -⟩ := mo_shifts (N := N) hs2.mS hs2.2.2.2.1 hs.oks hs.2.1.1 hin (ht (by omega)) (by omega)
      exact ⟨-4, σ, th0 σ, c1 e, m1 e, Inv_th0 hI⟩
    · by_cases e40 : nd = 40
      · obtain ⟨-, m2, -⟩ := mo_shifts (N := N) hs2.mS hs2.2.2.2.1 hs.oks hs.2.1.1 hin (ht (by omega)) (by omega)
        exact ⟨-2, σ, th0 σ, c2 e e40, m2 e e40, Inv_th0 hI⟩
      · have hlt : nd < 40 := by have := hs.2.1.1; omega
        obtain ⟨υ, d1, d2, d3⟩ := c3 e hlt
        obtain ⟨-, -, m3⟩ := mo_shifts (N := N) (mS_cd hs d3) (mH_cd hs.2.2.2.1 d3) hs.oks hs.2.1.1 hin (ht (by omega)) (by omega)
        obtain ⟨ω, g1, g2, g3⟩ := m3 e hlt
        exact ⟨nI (D nd i 5), υ, ω, d1, g1, Inv_step hI hs hlt (okS_plc ok hin (ht (by omega))) sameK_plc d2 d3 g2 g3⟩
  · refine ⟨-1, σ, th0 σ, ?_, ?_, Inv_th0 hI⟩
    · unfold f_X7_reorder
      rw [sp_has hs.scr hn, Option.bind_some, b2n_z, decide_eq_false hi]; rfl
    · unfold f_X8_shifts
      rw [sp_isPane hs2.mS.1 hn, Option.bind_some, b2n_z, decide_eq_false hi]; rfl
theorem st_raise (p0 : Int32) (hN : 100 < N) : StepI (f_X7_raise N p0) (f_X8_raise N p0) := by
  intro σ hI
  obtain ⟨n, nd, D, hs⟩ := hI.2.2.2.2.2
  obtain ⟨a, σ1, σ2, e1, e2, e3⟩ := re_step (N := N) p0 hN hI hs (n - 1) (fun h => by omega) (nI n - 1) (fun h => by rw [n1, pk_sub h])
  refine ⟨a, σ1, σ2, ?_, ?_, e3⟩
  · unfold f_X7_raise
    rw [hs.scr.1, e1]; rfl
  · have h10 : rI (th0 σ1) 21 0 0 10 = nI n := by
      rw [th0_rI (by omega)]
      have key : Fq cdR σ σ1 ∨ σ1 = σ := by
        by_cases hi : 0 ≤ p0.toInt ∧ p0.toInt < (n : Nat)
        · obtain ⟨i, hin, rfl⟩ := in_nI hi (by have := hs.ok.1; omega)
          obtain ⟨c1, c2, c3⟩ := cl_reorder (N := N) hs.2.2.1 hs.ok hs.2.1.1 hin (show n - 1 < n by omega) (by omega)
          rw [show nI n - 1 = nI (n - 1) by rw [n1, pk_sub (by omega)]] at e1
          by_cases e : D nd i 5 = n - 1
          · rw [c1 e] at e1; cases e1; exact Or.inr rfl
          · by_cases e40 : nd = 40
            · rw [c2 e e40] at e1; cases e1; exact Or.inr rfl
            · obtain ⟨υ, d1, d2, d3⟩ := c3 e (by have := hs.2.1.1; omega)
              rw [d1] at e1; cases e1; exact Or.inl d3
        · have : f_X7_reorder N p0 (nI n - 1) σ = some (-1, σ) := by
            unfold f_X7_reorder
            rw [sp_has hs.scr hs.ok.1, Option.bind_some, b2n_z, decide_eq_false hi]; rfl
          rw [this] at e1; cases e1; exact Or.inr rfl
      rcases key with f | f
      · exact ((f 21 0 0 10 (by unfold cdR; omega)).1).trans hs.mS.1
      · rw [f]; exact hs.mS.1
    unfold f_X8_raise
    rw [th_d, h10, e2]; rfl
theorem st_sink (p0 : Int32) (hN : 100 < N) : StepI (f_X7_sink N p0) (f_X8_sink N p0) := by
  intro σ hI
  obtain ⟨n, nd, D, hs⟩ := hI.2.2.2.2.2
  obtain ⟨a, σ1, σ2, e1, e2, e3⟩ := re_step (N := N) p0 hN hI hs 0 (fun h => h) 0 (fun _ => rfl)
  refine ⟨a, σ1, σ2, ?_, ?_, e3⟩
  · unfold f_X7_sink; rw [e1]; rfl
  · unfold f_X8_sink; rw [th_d, e2]; rfl
theorem mo_move {i : Nat} {x y : Int32} (hS : mS σ n (D nd)) (h : mH σ n nd D) (oks : ∀ d, d ≤ nd → okS n (D d)) (hi : i < n) (hx : -3 ≤ x.toInt ∧ x.toInt ≤ 3) (hy : -3 ≤ y.toInt ∧ y.toInt ≤ 3) (hon : onS (D nd) i x.toInt y.toInt) (e40 : nd < 40) (hN : 22 < N) :
    ∃ τ υ, f_X8_notes N σ = some τ ∧ υ = uI (uI τ 22 14 0 i ((rI τ 22 14 0 i) + x)) 22 14 0 (7 + i) ((rI τ 22 14 0 (7 + i)) + y) ∧ rI υ 22 14 0 i = nI ((D nd i 1 : Int) + x.toInt).toNat ∧ rI υ 22 14 0 (7 + i) = nI ((D nd i 2 : Int) + y.toInt).toNat ∧
      mH υ n (nd + 1) (ext D nd (mvS (D nd) i ((D nd i 1 : Int) + x.toInt).toNat ((D nd i 2 : Int) + y.toInt).toNat)) ∧ Fq mdR σ υ := by
  have ok := oks nd (Nat.le_refl _)
  have hn := ok.1
  obtain ⟨o0, o1, o2, o3, o4⟩ := (ok.2.1 i hi).1
  obtain ⟨τ, e, h1, h2, f1⟩ := sp_notes h oks e40 hN
  have ms : isMod (fun k => rI τ 22 14 0 k) n (D nd) := isMod_fr h.1 (fun k => (f1 22 14 0 k (by omega)).1)
  have g1 : rI τ 22 14 0 i = nI (D nd i 1) := (ms.1 i hi).1
  have g2 : rI τ 22 14 0 (7 + i) = nI (D nd i 2) := (ms.1 i hi).2.1
  obtain ⟨⟨q1, q2⟩, q3, q4⟩ := hon
  obtain ⟨a1, -⟩ := nI_addI (a := D nd i 1) (x := x) (by omega) (by omega) q1
  obtain ⟨b1, -⟩ := nI_addI (a := D nd i 2) (x := y) (by omega) (by omega) q3
  obtain ⟨k1, k2⟩ := mo_mv (l := ((D nd i 1 : Int) + x.toInt).toNat) (t := ((D nd i 2 : Int) + y.toInt).toNat) ms ok hi
  refine ⟨τ, uI (uI τ 22 14 0 i (nI ((D nd i 1 : Int) + x.toInt).toNat)) 22 14 0 (7 + i) (nI ((D nd i 2 : Int) + y.toInt).toNat), e, ?_, ?_, ?_, mH_ext h1 h2 k2 k1, md_tr f1 k2⟩
  · rw [g1, g2, a1, b1]
  · rw [rI_uI, if_neg (by omega), rI_uI, if_pos ⟨rfl, rfl, rfl, rfl⟩]
  · rw [rI_uI, if_pos ⟨rfl, rfl, rfl, rfl⟩]
theorem st_move (p0 p1 p2 : Int32) (hN : 100 < N) : StepI (f_X7_move N p0 p1 p2) (f_X8_move N p0 p1 p2) := by
  intro σ hI
  obtain ⟨n, nd, D, hs⟩ := hI.2.2.2.2.2
  have ok := hs.ok
  have hn := ok.1
  have hs2 : iScr (th0 σ) n nd D := hs.q (tl_sc th0_fr)
  have z3 : ((-3 : Int32)).toInt = -3 := by decide
  have z3' : ((3 : Int32)).toInt = 3 := by decide
  by_cases hi : 0 ≤ p0.toInt ∧ p0.toInt < (n : Nat)
  · by_cases hx : -3 ≤ p1.toInt ∧ p1.toInt ≤ 3
    · by_cases hy : -3 ≤ p2.toInt ∧ p2.toInt ≤ 3
      · obtain ⟨i, hin, rfl⟩ := in_nI hi (by omega)
        have mcom : ∀ τ, mS τ n (D nd) → rI τ 21 0 0 16 = nI nd → ∀ ρ, th0 ρ = τ → f_X8_move N (nI i) p1 p2 ρ = if p1.toInt = 0 ∧ p2.toInt = 0 then some (-1, τ) else if onS (D nd) i p1.toInt p2.toInt then (if nd = 40 then some (-2, τ) else ((f_X8_notes N τ).bind (fun w5 => some (((12 : Int32) * (rI (uI (uI w5 22 14 0 i ((rI w5 22 14 0 i) + p1)) 22 14 0 (7 + i) ((rI w5 22 14 0 (7 + i)) + p2)) 22 14 0 (7 + i))) + (rI (uI (uI w5 22 14 0 i ((rI w5 22 14 0 i) + p1)) 22 14 0 (7 + i) ((rI w5 22 14 0 (7 + i)) + p2)) 22 14 0 i), uI (uI w5 22 14 0 i ((rI w5 22 14 0 i) + p1)) 22 14 0 (7 + i) ((rI w5 22 14 0 (7 + i)) + p2))))) else some (-4, τ) := by
          intro τ hm h16 ρ hρ
          have h40 := hs.2.1.1
          have w : ∀ w5 : Sg, rI (uI w5 22 14 0 i ((rI w5 22 14 0 i) + p1)) 22 14 0 (7 + i) = rI w5 22 14 0 (7 + i) := fun w5 => by rw [rI_uI, if_neg (by omega)]
          unfold f_X8_move
          rw [th_d, hρ, sp_isPane hm.1 hn, Option.bind_some, b2n_z, decide_eq_true hi, if_pos rfl, sp_in, Option.bind_some, b2n_z, z3, z3', decide_eq_true hx, if_pos rfl, sp_in, Option.bind_some, b2n_z, z3, z3', decide_eq_true hy, if_pos rfl]
          simp (disch := omega) only [sp_isOn hm ok hin (x := p1) (y := p2) ⟨by omega, by omega⟩ ⟨by omega, by omega⟩, Option.bind_some, b2n_z, h16, z_add, n7, nI_add, gi, nI_clamp, w]
          by_cases h1 : p1.toInt = 0
          · by_cases h2 : p2.toInt = 0
            · rw [if_pos ((eq0 p1).mpr h1), if_pos ((eq0 p2).mpr h2), if_pos ⟨h1, h2⟩]
            · rw [if_pos ((eq0 p1).mpr h1), if_neg (fun z => h2 ((eq0 p2).mp z)), if_neg (show ¬ (p1.toInt = 0 ∧ p2.toInt = 0) from fun z => h2 z.2)]
              by_cases hon : onS (D nd) i p1.toInt p2.toInt
              · rw [decide_eq_true hon, if_pos rfl, if_pos hon]
                by_cases e : nd = 40
                · rw [n40, ieq_t e, if_pos e]
                · rw [n40, ieq_f e (by omega) (by decide), if_neg e]
              · rw [decide_eq_false hon, if_neg (by decide), if_neg hon]
          · rw [if_neg (fun z => h1 ((eq0 p1).mp z)), if_neg (show ¬ (p1.toInt = 0 ∧ p2.toInt = 0) from fun z => h1 z.1)]
            by_cases hon : onS (D nd) i p1.toInt p2.toInt
            · rw [decide_eq_true hon, if_pos rfl, if_pos hon]
              by_cases e : nd = 40
              · rw [n40, ieq_t e, if_pos e]
              · rw [n40, ieq_f e (by omega) (by decide), if_neg e]
            · rw [decide_eq_false hon, if_neg (by decide), if_neg hon]
        obtain ⟨c1, c2, c3, c4⟩ := cl_move (N := N) hs.2.2.1 ok hs.2.1.1 hin hx hy (by omega)
        have m0 := mcom (th0 σ) hs2.mS hs2.2.2.2.1.2.1 σ rfl
        by_cases h00 : p1.toInt = 0 ∧ p2.toInt = 0
        · exact ⟨-1, σ, th0 σ, c1 h00, by rw [m0, if_pos h00], Inv_th0 hI⟩
        · by_cases hon : onS (D nd) i p1.toInt p2.toInt
          · by_cases e40 : nd = 40
            · exact ⟨-2, σ, th0 σ, c3 h00 hon e40, by rw [m0, if_neg h00, if_pos hon, if_pos e40], Inv_th0 hI⟩
            · have hlt : nd < 40 := by have := hs.2.1.1; omega
              obtain ⟨υ, d1, d2, d3⟩ := c4 h00 hon hlt
              have hmS := mS_cd hs d3
              have hmH := mH_cd hs.2.2.2.1 d3
              obtain ⟨τ, ω, g1, g2, g3, g4, g5, g6⟩ := mo_move (N := N) hmS hmH hs.oks hin hx hy hon hlt (by omega)
              obtain ⟨⟨q1, q2⟩, q3, q4⟩ := hon
              refine ⟨_, υ, ω, d1, ?_, Inv_step hI hs hlt (okS_mv ok hin (by omega) (by omega)) sameK_mv d2 d3 g5 g6⟩
              rw [mcom (th0 υ) hmS hmH.2.1 υ rfl, if_neg h00, if_pos ⟨⟨q1, q2⟩, q3, q4⟩, if_neg e40, g1, Option.bind_some, ← g2, g3, g4, n12, pk_mul, nI_add, Nat.mul_comm]
          · exact ⟨-4, σ, th0 σ, c2 h00 hon, by rw [m0, if_neg h00, if_neg hon], Inv_th0 hI⟩
      · refine ⟨-1, σ, th0 σ, ?_, ?_, Inv_th0 hI⟩
        · unfold f_X7_move
          rw [sp_has hs.scr hn, Option.bind_some, b2n_z, decide_eq_true hi, if_pos rfl, sp_isNear, Option.bind_some, b2n_z, decide_eq_true hx, if_pos rfl, sp_isNear, Option.bind_some, b2n_z, decide_eq_false hy]; rfl
        · unfold f_X8_move
          rw [th_d, sp_isPane hs2.mS.1 hn, Option.bind_some, b2n_z, decide_eq_true hi, if_pos rfl, sp_in, Option.bind_some, b2n_z, z3, z3', decide_eq_true hx, if_pos rfl, sp_in, Option.bind_some, b2n_z, z3, z3', decide_eq_false hy]; rfl
    · refine ⟨-1, σ, th0 σ, ?_, ?_, Inv_th0 hI⟩
      · unfold f_X7_move
        rw [sp_has hs.scr hn, Option.bind_some, b2n_z, decide_eq_true hi, if_pos rfl, sp_isNear, Option.bind_some, b2n_z, decide_eq_false hx]; rfl
      · unfold f_X8_move
        rw [th_d, sp_isPane hs2.mS.1 hn, Option.bind_some, b2n_z, decide_eq_true hi, if_pos rfl, sp_in, Option.bind_some, b2n_z, z3, z3', decide_eq_false hx]; rfl
  · refine ⟨-1, σ, th0 σ, ?_, ?_, Inv_th0 hI⟩
    · unfold f_X7_move
      rw [sp_has hs.scr hn, Option.bind_some, b2n_z, decide_eq_false hi]; rfl
    · unfold f_X8_move
      rw [th_d, sp_isPane hs2.mS.1 hn, Option.bind_some, b2n_z, decide_eq_false hi]; rfl
theorem mo_shut {i : Nat} (h : mH σ n nd D) (oks : ∀ d, d ≤ nd → okS n (D d)) (hi : i < n) (e40 : nd < 40) (hN : 22 < N) :
    ∃ τ υ, f_X8_notes N σ = some τ ∧ υ = uI τ 22 14 0 21 ((rI τ 22 14 0 21) ^^^ ((1 : Int32) <<< (nI i &&& 31))) ∧ rI υ 22 14 0 21 = nI (msk (opn (flp (D nd) i)) n) ∧ mH υ n (nd + 1) (ext D nd (flp (D nd) i)) ∧ Fq mdR σ υ := by
  have ok := oks nd (Nat.le_refl _)
  have hn := ok.1
  obtain ⟨τ, e, h1, h2, f1⟩ := sp_notes h oks e40 hN
  have ms : isMod (fun k => rI τ 22 14 0 k) n (D nd) := isMod_fr h.1 (fun k => (f1 22 14 0 k (by omega)).1)
  have g21 : rI τ 22 14 0 21 = nI (msk (opn (D nd)) n) := ms.2
  have hv : (rI τ 22 14 0 21) ^^^ ((1 : Int32) <<< (nI i &&& 31)) = nI (msk (opn (flp (D nd) i)) n) := by rw [g21]; exact flp_open ok hi
  obtain ⟨k1, k2⟩ := mo_flp ms ok hi hv
  exact ⟨τ, _, e, rfl, by rw [rI_uI, if_pos ⟨rfl, rfl, rfl, rfl⟩]; exact hv, mH_ext h1 h2 k2 k1, md_tr f1 k2⟩
theorem st_shut (p0 : Int32) (hN : 100 < N) : StepI (f_X7_shut N p0) (f_X8_shut N p0) := by
  intro σ hI
  obtain ⟨n, nd, D, hs⟩ := hI.2.2.2.2.2
  have ok := hs.ok
  have hn := ok.1
  have h40 := hs.2.1.1
  have hs2 : iScr (th0 σ) n nd D := hs.q (tl_sc th0_fr)
  by_cases hi : 0 ≤ p0.toInt ∧ p0.toInt < (n : Nat)
  · obtain ⟨i, hin, rfl⟩ := in_nI hi (by omega)
    obtain ⟨c1, c2⟩ := cl_shut (N := N) hs.2.2.1 ok hs.2.1.1 hin (by omega)
    by_cases e40 : nd = 40
    · refine ⟨-2, σ, th0 σ, c1 e40, ?_, Inv_th0 hI⟩
      unfold f_X8_shut
      rw [th_d, sp_isPane hs2.mS.1 hn, Option.bind_some, b2n_z, decide_eq_true hi, if_pos rfl]
      dsimp only
      rw [hs2.2.2.2.1.2.1, n40, ieq_t e40]
    · have hlt : nd < 40 := by omega
      obtain ⟨υ, d1, d2, d3⟩ := c2 hlt
      have hmS := mS_cd hs d3
      have hmH := mH_cd hs.2.2.2.1 d3
      obtain ⟨τ, ω, g1, g2, g3, g4, g5⟩ := mo_shut (N := N) hmH hs.oks hin hlt (by omega)
      refine ⟨_, υ, ω, d1, ?_, Inv_step hI hs hlt (okS_flp ok hin) sameK_flp d2 d3 g4 g5⟩
      unfold f_X8_shut
      rw [th_d, sp_isPane hmS.1 hn, Option.bind_some, b2n_z, decide_eq_true hi, if_pos rfl]
      dsimp only
      rw [hmH.2.1, n40, ieq_f e40 (by omega) (by decide), g1, Option.bind_some]
      simp only [gi21, cl21]
      rw [← g2, g3, ones_set _ hn (by omega)]
      rfl
  · refine ⟨-1, σ, th0 σ, ?_, ?_, Inv_th0 hI⟩
    · unfold f_X7_shut
      rw [sp_has hs.scr hn, Option.bind_some, b2n_z, decide_eq_false hi]; rfl
    · unfold f_X8_shut
      rw [th_d, sp_isPane hs2.mS.1 hn, Option.bind_some, b2n_z, decide_eq_false hi]; rfl
end Deed3
