section Rows2
variable {N : Nat} {σ : Sg}
theorem th_d (τ : Sg) : uI τ 21 0 0 0 (0 : Int32) = th0 τ := rfl
/-! texts -/
theorem txtOK_fr {R : Nat → Nat → Nat → Nat → Prop} {τ : Sg} {r : Nat} (h : Fq R σ τ) (hi : txtOK σ r) (h2 : ¬ R 5 r 0 1) (h3 : ∀ k, k < 60 → ¬ R 6 r 0 k) (h7 : ¬ R 22 9 0 r) (h6 : ∀ k, k < 60 → ¬ R 22 8 0 (60 * r + k)) : txtOK τ r := by
  rcases hi with ⟨a, b⟩ | ⟨m, hm, a, b, d⟩
  · exact Or.inl ⟨((h _ _ _ _ h2).1).trans a, ((h _ _ _ _ h7).1).trans b⟩
  · exact Or.inr ⟨m, hm, ((h _ _ _ _ h2).1).trans a, ((h _ _ _ _ h7).1).trans b, fun k hk => ((h _ _ _ _ (h3 k (by omega))).1).trans ((d k hk).trans ((h _ _ _ _ (h6 k (by omega))).1).symm)⟩
def rgT (r : Nat) (t i j k : Nat) : Prop := scR t i j k ∨ ((t = 5 ∨ t = 6) ∧ i = r) ∨ (t = 22 ∧ i = 9 ∧ k = r) ∨ (t = 22 ∧ i = 8 ∧ 60 * r ≤ k ∧ k < 60 * r + 60)
theorem Inv_txt1 {τ : Sg} {r : Nat} (hI : Inv σ) (h : Fq (rgT r) σ τ) (hr : r < 4) (e : txtOK τ r) : Inv τ := by
  refine Inv_txt hI (h.mono (fun t i j k z => ?_)) (fun q hq => ?_)
  · rcases z with z | z | z | z
    · exact Or.inl z
    · exact Or.inr (by unfold fTxt; omega)
    · exact Or.inr (by unfold fTxt; omega)
    · exact Or.inr (by unfold fTxt; omega)
  · by_cases eq : q = r
    · rw [eq]; exact e
    · refine txtOK_fr h (hI.2.1 q hq) ?_ (fun k hk => ?_) ?_ (fun k hk => ?_) <;> unfold rgT scR <;> omega
theorem sp_fillB {i : Nat} {v : Int32} (hN : 60 < N) : ∃ τ, f_J7_fill_031fb N i v σ = some τ ∧ (∀ k, k < 60 → rI τ 6 i 0 k = vp_nar .byte v) ∧ Fq (fun a b c d => a = 6 ∧ b = i ∧ c = 0 ∧ d < 60) σ τ := by
  unfold f_J7_fill_031fb
  obtain ⟨τ, e, h1, h2⟩ := up_rel (fun m w τ => L_J7_fill_031fb_5 N (fun _ σ_1 => some σ_1) i v (Int32.ofNat 60) m w τ) (fun _ τ => some τ) (fun q τ => (∀ k, k < q → rI τ 6 i 0 k = vp_nar .byte v) ∧ Fq (fun a b c d => a = 6 ∧ b = i ∧ c = 0 ∧ d < 60) σ τ) 60
    (fun m τ h => by
      show L_J7_fill_031fb_5 N _ i v (nI 60) (m + 1) _ _ = _
      rw [L_J7_fill_031fb_5_s, ile_t (Nat.le_refl _) (by decide)])
    (fun m q τ hq h => by
      refine ⟨uI τ 6 i 0 q (vp_nar .byte v), ?_, fun k hk => ?_, h.2.uI ⟨rfl, rfl, rfl, hq⟩⟩
      · show L_J7_fill_031fb_5 N _ i v (nI 60) (m + 1) _ _ = L_J7_fill_031fb_5 N _ i v (nI 60) m _ _
        rw [L_J7_fill_031fb_5_s, ile_f hq (by decide), gi hq (by decide), nI_clamp (by omega), nI_1]
      · rw [rI_uI]
        by_cases e : k = q
        · rw [if_pos ⟨rfl, rfl, rfl, e⟩]
        · rw [if_neg (fun z => e z.2.2.2)]; exact h.1 k (by omega))
    60 0 σ N (by omega) ⟨fun k hk => by omega, Fq.rf⟩ (by omega)
  exact ⟨τ, e, h1, h2⟩
theorem st_text (p0 p1 : Int32) (hN : 100 < N) : StepI (f_X7_text N p0 p1) (f_X8_text N p0 p1) := by
  intro σ hI
  by_cases hr : 0 ≤ p0.toInt ∧ p0.toInt < (4 : Nat)
  · obtain ⟨r, hr6, rfl⟩ := in_nI hr (by decide)
    by_cases h40 : p1 ≤ (60 : Int32)
    · by_cases h0 : (0 : Int32) ≤ p1
      · have hp : 0 ≤ p1.toInt ∧ p1.toInt < (61 : Nat) := by
          have a1 := (fa_le 0 p1).mp h0
          have a2 := (fa_le p1 60).mp h40
          have z0 : (0 : Int32).toInt = 0 := by decide
          have z40 : (60 : Int32).toInt = 60 := by decide
          omega
        obtain ⟨m, hm, rfl⟩ := in_nI hp (by decide)
        obtain ⟨τ, e, h1, h2⟩ := sp_fillB (N := N) (σ := σ) (i := r) (v := 32) (by omega)
        obtain ⟨υ, e2, h3, h4⟩ := up_rel (fun q w τ => L_X8_text_39 N (fun _ σ_2 => some (nI m, σ_2)) (nI r) (nI m) q w τ) (fun _ τ => some (nI m, τ)) (fun q υ => (∀ k, k < q → rI υ 22 8 0 (60 * r + k) = 32) ∧ Fq (fun a b c d => a = 22 ∧ b = 8 ∧ 60 * r ≤ d ∧ d < 60 * r + 60) (uI (th0 (uI τ 5 r 0 1 (nI m))) 22 9 0 r (nI m)) υ) m
          (fun q υ h => by
            show L_X8_text_39 N _ (nI r) (nI m) (q + 1) _ _ = _
            rw [L_X8_text_39_s, ile_t (Nat.le_refl _) (by omega)])
          (fun q k υ hk h => by
            refine ⟨uI υ 22 8 0 (60 * r + k) 32, ?_, fun l hl => ?_, h.2.uI ⟨rfl, rfl, by omega, by omega⟩⟩
            · show L_X8_text_39 N _ (nI r) (nI m) (q + 1) _ _ = L_X8_text_39 N _ (nI r) (nI m) q _ _
              rw [L_X8_text_39_s, ile_f hk (by omega), n60, pk_mul, nI_add, gi (by omega) (by decide), nI_clamp (by omega), nI_1]
            · rw [rI_uI]
              by_cases e : l = k
              · rw [e, if_pos ⟨rfl, rfl, rfl, rfl⟩]
              · rw [if_neg (fun z => e (by omega))]; exact h.1 l (by omega))
          m 0 (uI (th0 (uI τ 5 r 0 1 (nI m))) 22 9 0 r (nI m)) N (by omega) ⟨fun k hk => by omega, Fq.rf⟩ (by omega)
        refine ⟨nI m, uI τ 5 r 0 1 (nI m), υ, ?_, ?_, ?_⟩
        · unfold f_X7_text f_X5_renew
          rw [sp_isText7, Option.bind_some, b2n_z, decide_eq_true hr, if_pos rfl, if_pos h40, if_pos h0, gi hr6 (by decide), nI_clamp (by omega)]
          simp only [e, Option.bind_some]
        · unfold f_X8_text
          rw [th_d, sp_isText8, Option.bind_some, b2n_z, decide_eq_true hr, if_pos rfl, if_pos h40, if_pos h0, gi hr6 (by decide), nI_clamp (by omega)]
          exact e2
        · have f1 : Fq (rgT r) σ (uI (th0 (uI τ 5 r 0 1 (nI m))) 22 9 0 r (nI m)) := by
            unfold th0
            refine Fq.uI (Fq.uI (Fq.uI (h2.mono (fun t i j k z => ?_)) ?_) ?_) ?_ <;> unfold rgT scR <;> omega
          have f2 : Fq (rgT r) σ υ := f1.tr h4 (fun _ _ _ _ z => z) (fun t i j k z => by unfold rgT scR; omega)
          have g2 : rI υ 5 r 0 1 = nI m := by rw [(h4 5 r 0 1 (by omega)).1]; unfold th0; simp [rI_uI]
          have g7 : rI υ 22 9 0 r = nI m := by rw [(h4 22 9 0 r (by omega)).1]; simp [rI_uI]
          refine Inv_txt1 (r := r) hI f2 hr6 (Or.inr ⟨m, by omega, g2, g7, fun k hk => ?_⟩)
          rw [h3 k hk, (h4 6 r 0 k (by omega)).1]
          unfold th0
          simp only [rI_uI]
          rw [if_neg (by omega), if_neg (by omega), if_neg (by omega), h1 k (by omega)]
          decide
      · refine ⟨-3, fdS σ 5, fdM (th0 (fdS σ 5)) 5, ?_, ?_, Inv_found hI (by decide)⟩
        · unfold f_X7_text
          rw [sp_isText7, Option.bind_some, b2n_z, decide_eq_true hr, if_pos rfl, if_pos h40, if_neg h0, n5, sp_found7 (by decide)]; rfl
        · unfold f_X8_text
          rw [th_d, sp_isText8, Option.bind_some, b2n_z, decide_eq_true hr, if_pos rfl, if_pos h40, if_neg h0, n5, sp_found8 (by decide)]; rfl
    · refine ⟨-1, σ, th0 σ, ?_, ?_, Inv_th0 hI⟩
      · unfold f_X7_text; rw [sp_isText7, Option.bind_some, b2n_z, decide_eq_true hr, if_pos rfl, if_neg h40]
      · unfold f_X8_text; rw [th_d, sp_isText8, Option.bind_some, b2n_z, decide_eq_true hr, if_pos rfl, if_neg h40]
  · refine ⟨-1, σ, th0 σ, ?_, ?_, Inv_th0 hI⟩
    · unfold f_X7_text; rw [sp_isText7, Option.bind_some, b2n_z, decide_eq_false hr]; rfl
    · unfold f_X8_text; rw [th_d, sp_isText8, Option.bind_some, b2n_z, decide_eq_false hr]; rfl
theorem st_put (p0 p1 p2 : Int32) : StepI (f_X7_put N p0 p1 p2) (f_X8_put N p0 p1 p2) := by
  intro σ hI
  by_cases hr : 0 ≤ p0.toInt ∧ p0.toInt < (4 : Nat)
  · obtain ⟨r, hr6, rfl⟩ := in_nI hr (by decide)
    rcases hI.2.1 r hr6 with ⟨a, b⟩ | ⟨m, hm, a, b, d⟩
    · refine ⟨-3, fdS σ 1, fdM (th0 (fdS σ 1)) 1, ?_, ?_, Inv_found hI (by decide)⟩
      · unfold f_X7_put
        rw [sp_isText7, Option.bind_some, b2n_z, decide_eq_true hr, if_pos rfl, gi hr6 (by decide), nI_clamp (by omega)]
        simp only [a, if_true]
        rw [n1, sp_found7 (by decide)]; rfl
      · unfold f_X8_put
        rw [th_d, sp_isText8, Option.bind_some, b2n_z, decide_eq_true hr, if_pos rfl, gi hr6 (by decide), nI_clamp (by omega)]
        simp only [th0_rI (show ¬ ((22 : Nat) = 21 ∧ r = 0) by omega), fdS_rI (show ¬ ((22 : Nat) = 0 ∨ (22 : Nat) = 20) by omega), b]
        rw [if_neg (by decide), n1, sp_found8 (by decide)]; rfl
    · have hsub := sub1_toInt (show m < 1073741824 by omega)
      have e1 : (p1 < 0) ↔ p1.toInt < 0 := fa_lt p1 0
      have e2 : (p1 < nI m) ↔ p1.toInt < m := by rw [fa_lt, nI_toInt (by omega)]
      by_cases hi : 0 ≤ p1.toInt ∧ p1.toInt < (m : Nat)
      · obtain ⟨i, hi6, rfl⟩ := in_nI hi (by omega)
        refine ⟨rI σ 6 r 0 i + 1000, uI σ 6 r 0 i (vp_nar .byte p2.toInt8.toInt32), uI (th0 (uI σ 6 r 0 i (vp_nar .byte p2.toInt8.toInt32))) 22 8 0 (60 * r + i) p2.toInt8.toInt32, ?_, ?_, ?_⟩
        · unfold f_X7_put
          rw [sp_isText7, Option.bind_some, b2n_z, decide_eq_true hr, if_pos rfl]
          simp (disch := omega) only [gi, nI_clamp, a]
          rw [if_neg (nI_ne_m1 (by omega)), if_neg (fun z => absurd (e1.mp z) (by omega)), if_pos (e2.mpr hi.2)]
        · unfold f_X8_put
          rw [th_d, sp_isText8, Option.bind_some, b2n_z, decide_eq_true hr, if_pos rfl]
          have b' : rI (th0 (uI σ 6 r 0 i (vp_nar .byte p2.toInt8.toInt32))) 22 9 0 r = nI m := by rw [th0_rI (by omega), rI_uI, if_neg (by simp)]; exact b
          simp (disch := omega) only [gi, nI_clamp, b']
          rw [if_pos (nI_pos' (by omega)), sp_in, in_le (nI i) (m := m) _ _ (by decide) hsub, Option.bind_some, b2n_z, decide_eq_true hi, if_pos rfl, n60, pk_mul, nI_add, gi (by omega) (by decide), gi (by omega) (by decide), nI_clamp (by omega)]
          have b2 : rI (th0 (uI σ 6 r 0 i (vp_nar .byte p2.toInt8.toInt32))) 22 8 0 (60 * r + i) = rI σ 6 r 0 i := by rw [th0_rI (by omega), rI_uI, if_neg (by simp)]; exact (d i hi6).symm
          simp only [b2]
        · refine Inv_txt1 (r := r) hI ?_ hr6 ?_
          · unfold th0
            refine Fq.uI (Fq.uI (Fq.uI Fq.rf ?_) ?_) ?_ <;> unfold rgT scR <;> omega
          · refine Or.inr ⟨m, hm, ?_, ?_, fun k hk => ?_⟩
            · unfold th0; simp [rI_uI, a]
            · unfold th0; simp [rI_uI, b]
            · unfold th0
              by_cases e : k = i
              · subst e
                simp [rI_uI, vp_nar_byte]
              · simp [rI_uI, e]
                exact d k hk
      · refine ⟨-3, fdS σ 2, fdM (th0 (fdS σ 2)) 2, ?_, ?_, Inv_found hI (by decide)⟩
        · unfold f_X7_put
          rw [sp_isText7, Option.bind_some, b2n_z, decide_eq_true hr, if_pos rfl]
          simp (disch := omega) only [gi, nI_clamp, a]
          rw [if_neg (nI_ne_m1 (by omega))]
          simp only [e1, e2]
          by_cases a1 : p1.toInt < 0
          · rw [if_pos a1, n2, sp_found7 (by decide)]; rfl
          · rw [if_neg a1, if_neg (by omega), n2, sp_found7 (by decide)]; rfl
        · unfold f_X8_put
          rw [th_d, sp_isText8, Option.bind_some, b2n_z, decide_eq_true hr, if_pos rfl]
          have b' : rI (th0 (fdS σ 2)) 22 9 0 r = nI m := by rw [th0_rI (by omega), fdS_rI (by omega)]; exact b
          simp (disch := omega) only [gi, nI_clamp, b']
          rw [if_pos (nI_pos' (by omega)), sp_in, in_le p1 (m := m) _ _ (by decide) hsub, Option.bind_some, b2n_z, decide_eq_false hi, if_neg (by decide), n2, sp_found8 (by decide)]; rfl
  · refine ⟨-1, σ, th0 σ, ?_, ?_, Inv_th0 hI⟩
    · unfold f_X7_put; rw [sp_isText7, Option.bind_some, b2n_z, decide_eq_false hr]; rfl
    · unfold f_X8_put; rw [th_d, sp_isText8, Option.bind_some, b2n_z, decide_eq_false hr]; rfl
/-! mean -/
def smL (f : Nat → Int32) : Nat → Int64
  | 0 => 0
  | j + 1 => smL f j + (f j).toInt64
theorem smL_s (f : Nat → Int32) (j : Nat) : smL f (j + 1) = smL f j + (f j).toInt64 := rfl
theorem smL_cong {f g : Nat → Int32} : ∀ {m : Nat}, (∀ k, k < m → f k = g k) → smL f m = smL g m
  | 0, _ => rfl
  | m + 1, h => by rw [smL_s, smL_s, smL_cong (fun k hk => h k (by omega)), h m (by omega)]
theorem sp_sum {r m : Nat} (a : rI σ 2 r 0 1 = nI m) (hm : m ≤ 40) (hN : 40 < N) : f_X3_sum N r σ = some (smL (fun k => rI σ 3 r 0 k) m, σ) := by
  unfold f_X3_sum
  refine up_eq (fun q v s => L_X3_sum_4 N (fun v1_1 _ => some (v1_1, σ)) r σ q s v) (fun _ s => some (s, σ)) (fun j => smL (fun k => rI σ 3 r 0 k) j) 0 m ?_ ?_ N (by omega) (by omega)
  · intro q
    show L_X3_sum_4 N _ r σ (q + 1) _ _ = _
    rw [L_X3_sum_4_s, a, ile_t (Nat.le_refl _) (by omega)]
  · intro q j _ hj
    show L_X3_sum_4 N _ r σ (q + 1) _ _ = L_X3_sum_4 N _ r σ q _ _
    rw [L_X3_sum_4_s, a, ile_f hj (by omega), gi (by omega) (by decide), nI_clamp (by omega), nI_1]
    rfl
theorem st_mean (p0 : Int32) (hN : 100 < N) : StepI (f_X7_mean N p0) (f_X8_mean N p0) := by
  intro σ hI
  by_cases hr : 0 ≤ p0.toInt ∧ p0.toInt < (6 : Nat)
  · obtain ⟨r, hr6, rfl⟩ := in_nI hr (by decide)
    rcases hI.1 r hr6 with ⟨a, b⟩ | ⟨m, hm, a, b, d⟩
    · refine ⟨-3, fdS σ 1, fdM (th0 (fdS σ 1)) 1, ?_, ?_, Inv_found hI (by decide)⟩
      · unfold f_X7_mean
        rw [sp_isRow7, Option.bind_some, b2n_z, decide_eq_true hr, if_pos rfl, gi hr6 (by decide), nI_clamp (by omega)]
        simp only [a, if_true]
        rw [n1, sp_found7 (by decide)]; rfl
      · unfold f_X8_mean
        rw [th_d, sp_isRow8, Option.bind_some, b2n_z, decide_eq_true hr, if_pos rfl, gi hr6 (by decide), nI_clamp (by omega)]
        simp only [th0_rI (show ¬ ((22 : Nat) = 21 ∧ r = 0) by omega), fdS_rI (show ¬ ((22 : Nat) = 0 ∨ (22 : Nat) = 20) by omega), b]
        rw [if_neg (by decide), n1, sp_found8 (by decide)]; rfl
    · rcases Nat.eq_zero_or_pos m with h0 | h0
      · subst h0
        refine ⟨-3, fdS σ 4, fdM (th0 (fdS σ 4)) 4, ?_, ?_, Inv_found hI (by decide)⟩
        · unfold f_X7_mean
          rw [sp_isRow7, Option.bind_some, b2n_z, decide_eq_true hr, if_pos rfl]
          simp (disch := omega) only [gi, nI_clamp, a]
          rw [if_neg (by decide), iz_t rfl, n4, sp_found7 (by decide)]; rfl
        · unfold f_X8_mean
          rw [th_d, sp_isRow8, Option.bind_some, b2n_z, decide_eq_true hr, if_pos rfl]
          have b' : rI (th0 (fdS σ 4)) 22 7 0 r = nI 0 := by rw [th0_rI (by omega), fdS_rI (by omega)]; exact b
          simp (disch := omega) only [gi, nI_clamp, b']
          rw [if_pos (by decide), iz_t rfl, n4, sp_found8 (by decide)]; rfl
      · have hm0 : ¬ nI m = 0 := nI_ne0 h0 (by omega)
        have hl : (nI m).toInt64 = lN m := nI_l (by omega)
        have hz : ¬ lN m = (0 : Int64) := fun z => by
          rw [show (0 : Int64) = lN 0 from rfl, fb_lN_inj (by omega) (by decide)] at z
          omega
        refine ⟨1, uI σ 0 0 0 12 (smL (fun k => rI σ 3 r 0 k) m / lN m).toInt32, uI (th0 (uI σ 0 0 0 12 (smL (fun k => rI σ 3 r 0 k) m / lN m).toInt32)) 21 0 0 1 (smL (fun k => rI σ 3 r 0 k) m / lN m).toInt32, ?_, ?_, ?_⟩
        · unfold f_X7_mean
          rw [sp_isRow7, Option.bind_some, b2n_z, decide_eq_true hr, if_pos rfl]
          simp (disch := omega) only [gi, nI_clamp, a]
          rw [if_neg (nI_ne_m1 (by omega)), if_neg hm0, sp_sum a hm (by omega), Option.bind_some]
          simp only [a, hl]
          rw [gd_t (decide_eq_true hz)]
        · unfold f_X8_mean
          rw [th_d, sp_isRow8, Option.bind_some, b2n_z, decide_eq_true hr, if_pos rfl]
          have b' : ∀ x, rI (th0 (uI σ 0 0 0 12 x)) 22 7 0 r = nI m := fun x => by rw [th0_rI (by omega), rI_uI, if_neg (by simp)]; exact b
          have b2 : ∀ x k, rI (th0 (uI σ 0 0 0 12 x)) 22 6 0 k = rI σ 22 6 0 k := fun x k => by rw [th0_rI (by omega), rI_uI, if_neg (by simp)]
          simp (disch := omega) only [gi, nI_clamp, b', hl]
          rw [if_pos (nI_pos' (by omega)), if_neg hm0, smL_cong (g := fun k => rI σ 22 6 0 (40 * r + k)) (fun k hk => d k hk)]
          generalize hx : (smL (fun k => rI σ 22 6 0 (40 * r + k)) m / lN m).toInt32 = x
          have h := up_eq (fun q v s => L_X8_mean_49 N (fun v2_3 _ => gd (decide (¬ lN m = 0)) ((f_X8_tells N (1 : Int32) (v2_3 / lN m).toInt32 (th0 (uI σ 0 0 0 12 x))).bind (fun w4 => some (w4.1, w4.2)))) (nI r) (th0 (uI σ 0 0 0 12 x)) q s v) (fun _ s => gd (decide (¬ lN m = 0)) ((f_X8_tells N (1 : Int32) (s / lN m).toInt32 (th0 (uI σ 0 0 0 12 x))).bind (fun w4 => some (w4.1, w4.2)))) (fun j => smL (fun k => rI σ 22 6 0 (40 * r + k)) j) 0 m ?_ ?_ N (by omega) (by omega)
          · refine Eq.trans h ?_
            rw [gd_t (decide_eq_true hz), hx]
            rfl
          · intro q
            show L_X8_mean_49 N _ (nI r) _ (q + 1) _ _ = _
            rw [L_X8_mean_49_s, gi hr6 (by decide), nI_clamp (by omega), b', ile_t (Nat.le_refl _) (by omega)]
          · intro q j _ hj
            show L_X8_mean_49 N _ (nI r) _ (q + 1) _ _ = L_X8_mean_49 N _ (nI r) _ q _ _
            rw [L_X8_mean_49_s, gi hr6 (by decide), nI_clamp (by omega), b', ile_f hj (by omega), n40, pk_mul, nI_add, gi (by omega) (by decide), nI_clamp (by omega), b2, nI_1]
            rfl
        · refine Inv_tell hI ?_ ?_
          · unfold th0
            refine Fq.uI (Fq.uI (Fq.uI Fq.rf ?_) ?_) ?_ <;> simp [tlR, scR, fTold]
          · unfold iTold th0
            simp [rI_uI]
  · refine ⟨-1, σ, th0 σ, ?_, ?_, Inv_th0 hI⟩
    · unfold f_X7_mean; rw [sp_isRow7, Option.bind_some, b2n_z, decide_eq_false hr]; rfl
    · unfold f_X8_mean; rw [th_d, sp_isRow8, Option.bind_some, b2n_z, decide_eq_false hr]; rfl
end Rows2
