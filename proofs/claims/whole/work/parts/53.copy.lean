section Copy
variable {N : Nat} {σ : Sg}
theorem sp_hasPlaces {r m : Nat} (a : rI σ 2 r 0 1 = nI m) (hm : m ≤ 40) (i n : Int32) (hn : 0 ≤ n.toInt) : f_X3_hasPlaces N r i n σ = some (nI (b2n (decide (0 ≤ i.toInt ∧ i.toInt + n.toInt ≤ m))), σ) := by
  unfold f_X3_hasPlaces
  rw [a]
  have hb := fb_rng n
  have ht : (nI m).toInt = m := nI_toInt (by omega)
  have e1 : (i < 0) ↔ i.toInt < 0 := fa_lt i 0
  have e2 : (nI m - n < i) ↔ (m : Int) - n.toInt < i.toInt := by rw [fa_lt, fb_subI (by rw [ht]; omega) (by rw [ht]; omega), ht]
  simp only [e1, e2]
  by_cases a1 : i.toInt < 0
  · rw [if_pos a1, decide_eq_false (by omega)]; rfl
  · by_cases a2 : (m : Int) - n.toInt < i.toInt
    · rw [if_neg a1, if_pos a2, decide_eq_false (by omega)]; rfl
    · rw [if_neg a1, if_neg a2, decide_eq_true (by omega)]; rfl
theorem sp_isPart {r m : Nat} (hr : r < 6) (a : rI σ 22 7 0 r = nI m) (hm : m ≤ 40) (i n : Int32) (hn : 0 ≤ n.toInt) : f_X8_isPart N (nI r) i n σ = some (nI (b2n (decide (0 ≤ i.toInt ∧ i.toInt + n.toInt ≤ m))), σ) := by
  unfold f_X8_isPart
  have ht : (nI m).toInt = m := nI_toInt (by omega)
  have z0 : (0 : Int32).toInt = 0 := by decide
  rw [gi hr (by decide), nI_clamp (by omega), a, sp_in, Option.bind_some, b2n_z, z0, ht]
  by_cases a1 : 0 ≤ i.toInt ∧ i.toInt ≤ m
  · rw [decide_eq_true a1, if_pos rfl, gi hr (by decide)]
    simp only [a]
    have e2 : (nI m - i < n) ↔ (m : Int) - i.toInt < n.toInt := by rw [fa_lt, fb_subI (by rw [ht]; omega) (by rw [ht]; omega), ht]
    simp only [e2]
    by_cases a2 : (m : Int) - i.toInt < n.toInt
    · rw [if_pos a2, decide_eq_false (by omega)]; rfl
    · rw [if_neg a2, decide_eq_true (by omega)]; rfl
  · rw [decide_eq_false a1, if_neg (by decide), decide_eq_false (by omega)]; rfl
/-- the reference's copy, place by place, from the right end if it goes up -/
theorem sp_copy105 {a b n : Nat} (K : Int32 → Sg → Option (Int32 × Sg)) (ha : a + n ≤ 240) (hb : b + n ≤ 240) (hn : n ≤ 40) (hN : 40 < N) :
    ∃ τ v, L_X8_copy_105 N K (nI n) (nI a) (nI b) N 0 σ = K v τ ∧ (∀ x, rI τ 22 6 0 x = if b ≤ x ∧ x < b + n then rI σ 22 6 0 (x - b + a) else rI σ 22 6 0 x) ∧ Fq (fun t i j k => t = 22 ∧ i = 6 ∧ j = 0 ∧ b ≤ k ∧ k < b + n) σ τ := by
  by_cases hab : b ≤ a
  · obtain ⟨τ, e, h1, h2⟩ := up_rel (fun q v τ => L_X8_copy_105 N K (nI n) (nI a) (nI b) q v τ) K (fun k τ => (∀ x, rI τ 22 6 0 x = if b ≤ x ∧ x < b + k then rI σ 22 6 0 (x - b + a) else rI σ 22 6 0 x) ∧ Fq (fun t i j k => t = 22 ∧ i = 6 ∧ j = 0 ∧ b ≤ k ∧ k < b + n) σ τ) n
      (fun q τ h => by
        show L_X8_copy_105 N K (nI n) (nI a) (nI b) (q + 1) _ _ = _
        rw [L_X8_copy_105_s, ile_t (Nat.le_refl _) (by omega)])
      (fun q k τ hk h => by
        refine ⟨uI τ 22 6 0 (b + k) (rI τ 22 6 0 (a + k)), ?_, fun x => ?_, h.2.uI ⟨rfl, rfl, rfl, by omega, by omega⟩⟩
        · show L_X8_copy_105 N K (nI n) (nI a) (nI b) (q + 1) _ _ = L_X8_copy_105 N K (nI n) (nI a) (nI b) q _ _
          rw [L_X8_copy_105_s, ile_f hk (by omega), ile_t hab (by omega)]
          simp (disch := omega) only [nI_add, gi, nI_clamp, nI_1]
        · rw [rI_uI]
          by_cases e : x = b + k
          · rw [if_pos ⟨rfl, rfl, rfl, e⟩, h.1 (a + k), if_neg (by omega), if_pos (by omega), e, show b + k - b + a = a + k by omega]
          · rw [if_neg (fun z => e z.2.2.2), h.1 x]
            by_cases e2 : b ≤ x ∧ x < b + k
            · rw [if_pos e2, if_pos (by omega)]
            · rw [if_neg e2, if_neg (by omega)])
      n 0 σ N (by omega) ⟨fun x => by rw [if_neg (by omega)], Fq.rf⟩ (by omega)
    exact ⟨τ, nI n, e, h1, h2⟩
  · obtain ⟨τ, e, h1, h2⟩ := up_rel (fun q v τ => L_X8_copy_105 N K (nI n) (nI a) (nI b) q v τ) K (fun k τ => (∀ x, rI τ 22 6 0 x = if b + (n - k) ≤ x ∧ x < b + n then rI σ 22 6 0 (x - b + a) else rI σ 22 6 0 x) ∧ Fq (fun t i j k => t = 22 ∧ i = 6 ∧ j = 0 ∧ b ≤ k ∧ k < b + n) σ τ) n
      (fun q τ h => by
        show L_X8_copy_105 N K (nI n) (nI a) (nI b) (q + 1) _ _ = _
        rw [L_X8_copy_105_s, ile_t (Nat.le_refl _) (by omega)])
      (fun q k τ hk h => by
        refine ⟨uI τ 22 6 0 (b + (n - 1 - k)) (rI τ 22 6 0 (a + (n - 1 - k))), ?_, fun x => ?_, h.2.uI ⟨rfl, rfl, rfl, by omega, by omega⟩⟩
        · show L_X8_copy_105 N K (nI n) (nI a) (nI b) (q + 1) _ _ = L_X8_copy_105 N K (nI n) (nI a) (nI b) q _ _
          rw [L_X8_copy_105_s, ile_f hk (by omega), ile_f (by omega) (by omega), nI_1]
          rw [n1, pk_sub (show 1 ≤ n by omega), pk_sub (show k ≤ n - 1 by omega)]
          simp (disch := omega) only [nI_add, gi, nI_clamp]
        · rw [rI_uI]
          by_cases e : x = b + (n - 1 - k)
          · rw [if_pos ⟨rfl, rfl, rfl, e⟩, h.1 (a + (n - 1 - k)), if_neg (by omega), if_pos (by omega), e, show b + (n - 1 - k) - b + a = a + (n - 1 - k) by omega]
          · rw [if_neg (fun z => e z.2.2.2), h.1 x]
            by_cases e2 : b + (n - k) ≤ x ∧ x < b + n
            · rw [if_pos e2, if_pos (by omega)]
            · rw [if_neg e2, if_neg (by omega)])
      n 0 σ N (by omega) ⟨fun x => by rw [if_neg (by omega)], Fq.rf⟩ (by omega)
    refine ⟨τ, nI n, e, fun x => ?_, h2⟩
    rw [h1 x, Nat.sub_self, Nat.add_zero]
theorem st_copy (p0 p1 p2 p3 p4 : Int32) (hN : 100 < N) : StepI (f_X7_copy N p0 p1 p2 p3 p4) (f_X8_copy N p0 p1 p2 p3 p4) := by
  intro σ hI
  have z0 : (0 : Int32).toInt = 0 := by decide
  by_cases hr : 0 ≤ p0.toInt ∧ p0.toInt < (6 : Nat)
  · obtain ⟨r, hr6, rfl⟩ := in_nI hr (by decide)
    by_cases ht : 0 ≤ p2.toInt ∧ p2.toInt < (6 : Nat)
    · obtain ⟨t, ht6, rfl⟩ := in_nI ht (by decide)
      have c0 : f_X7_copy N (nI r) p1 (nI t) p3 p4 σ = f_X7_copy N (nI r) p1 (nI t) p3 p4 σ := rfl
      conv at c0 =>
        rhs
        rw [f_X7_copy, sp_isRow7, Option.bind_some, b2n_z, decide_eq_true hr, if_pos rfl, sp_isRow7, Option.bind_some, b2n_z, decide_eq_true ht, if_pos rfl]
      have m0 : ∀ τ, f_X8_copy N (nI r) p1 (nI t) p3 p4 τ = f_X8_copy N (nI r) p1 (nI t) p3 p4 τ := fun τ => rfl
      conv at m0 =>
        intro τ
        rhs
        rw [f_X8_copy, th_d, sp_isRow8, Option.bind_some, b2n_z, decide_eq_true hr, if_pos rfl, sp_isRow8, Option.bind_some, b2n_z, decide_eq_true ht, if_pos rfl]
      by_cases hn : (0 : Int32) ≤ p4
      · have hn' : 0 ≤ p4.toInt := by rw [fa_le, z0] at hn; exact hn
        rw [if_pos hn] at c0
        simp only [if_pos hn] at m0
        rw [gi hr6 (by decide), nI_clamp (by omega)] at c0
        simp only [gi hr6 (show 6 < 2147483648 by decide), nI_clamp (show r < 2 ^ 31 by omega)] at m0
        have miss : ∀ f, (f = 1 ∨ f = 2) → f_X7_copy N (nI r) p1 (nI t) p3 p4 σ = some (-3, fdS σ f) → f_X8_copy N (nI r) p1 (nI t) p3 p4 (fdS σ f) = some (-3, fdM (th0 (fdS σ f)) f) → ∃ a σ1 σ2, f_X7_copy N (nI r) p1 (nI t) p3 p4 σ = some (a, σ1) ∧ f_X8_copy N (nI r) p1 (nI t) p3 p4 σ1 = some (a, σ2) ∧ Inv σ2 := fun f hf e1 e2 => ⟨_, _, _, e1, e2, Inv_found hI (by omega)⟩
        have s7 : ∀ f q, rI (th0 (fdS σ f)) 22 7 0 q = rI σ 22 7 0 q := fun f q => by rw [th0_rI (by omega), fdS_rI (by omega)]
        rcases hI.1 r hr6 with ⟨a, b⟩ | ⟨m, hm, a, b, d⟩
        · refine miss 1 (Or.inl rfl) ?_ ?_
          · rw [c0, a, if_pos rfl, n1, sp_found7 (by decide)]; rfl
          · rw [m0, s7, b, if_pos (by decide), n1, sp_found8 (by decide)]; rfl
        · rw [a, if_neg (nI_ne_m1 (by omega)), gi ht6 (by decide), nI_clamp (by omega)] at c0
          rcases hI.1 t ht6 with ⟨a', b'⟩ | ⟨m', hm', a', b', d'⟩
          · refine miss 1 (Or.inl rfl) ?_ ?_
            · rw [c0, a', if_pos rfl, n1, sp_found7 (by decide)]; rfl
            · rw [m0, s7, b, if_neg (nI_pos (by omega)), gi ht6 (by decide), nI_clamp (by omega), s7, b', if_neg (by decide), n1, sp_found8 (by decide)]; rfl
          · have g1 : ∀ o : Option (Int32 × Sg), gd (ib (nI r) 6) o = o := fun o => gi hr6 (by decide) o
            have g2 : ∀ o : Option (Int32 × Sg), gd (ib (nI t) 6) o = o := fun o => gi ht6 (by decide) o
            have k1 : (nI r).toNatClampNeg = r := nI_clamp (by omega)
            have k2 : (nI t).toNatClampNeg = t := nI_clamp (by omega)
            rw [a', if_neg (nI_ne_m1 (by omega)), g1, sp_hasPlaces a hm p1 p4 hn', Option.bind_some, b2n_z] at c0
            simp only [g2, k2, sp_hasPlaces a' hm' p3 p4 hn', Option.bind_some, b2n_z] at c0
            have m1 : ∀ τ, rI (th0 τ) 22 7 0 r = nI m → rI (th0 τ) 22 7 0 t = nI m' → f_X8_copy N (nI r) p1 (nI t) p3 p4 τ = if decide (0 ≤ p1.toInt ∧ p1.toInt + p4.toInt ≤ m) then (if decide (0 ≤ p3.toInt ∧ p3.toInt + p4.toInt ≤ m') then L_X8_copy_105 N (fun _ σ_8 => some ((1 : Int32), σ_8)) p4 ((40 : Int32) * nI r + p1) ((40 : Int32) * nI t + p3) N 0 (th0 τ) else some (-3, fdM (th0 τ) 2)) else some (-3, fdM (th0 τ) 2) := by
              intro τ b1 b2
              rw [m0, b1, if_neg (nI_pos (by omega)), g2, k2, b2, if_pos (nI_pos' (by omega)), sp_isPart hr6 b1 hm p1 p4 hn', Option.bind_some, b2n_z, sp_isPart ht6 b2 hm' p3 p4 hn', Option.bind_some, b2n_z, n2, sp_found8 (by decide)]
              rfl
            by_cases q1 : 0 ≤ p1.toInt ∧ p1.toInt + p4.toInt ≤ m
            · by_cases q2 : 0 ≤ p3.toInt ∧ p3.toInt + p4.toInt ≤ m'
              · obtain ⟨i, hi, rfl⟩ := in_nI (p := p1) (n := 41) ⟨q1.1, by omega⟩ (by decide)
                obtain ⟨j, hj, rfl⟩ := in_nI (p := p3) (n := 41) ⟨q2.1, by omega⟩ (by decide)
                obtain ⟨n, hnn, rfl⟩ := in_nI (p := p4) (n := 41) ⟨hn', by omega⟩ (by decide)
                rw [nI_toInt (by omega), nI_toInt (by omega)] at q1 q2
                have ok : cpOk (nI i) (nI j) (nI n) 40 40 = true := by
                  unfold cpOk
                  simp only [nI_clamp (show i < 2 ^ 31 by omega), nI_clamp (show j < 2 ^ 31 by omega), nI_clamp (show n < 2 ^ 31 by omega), Bool.and_eq_true, decide_eq_true_eq]
                  exact ⟨nI_pos (by omega), nI_pos (by omega), nI_pos (by omega), by omega, by omega⟩
                generalize hτ : uA σ 3 t 0 (va_cpy (σ.1 3 r 0) (σ.1 3 t 0) i j n) = τ1
                have f1 : Fq (rgR t) σ τ1 := by rw [← hτ]; exact Fq.uA Fq.rf (fun k => by unfold rgR scR fTold; omega)
                have b1 : rI (th0 τ1) 22 7 0 r = nI m := by rw [th0_rI (by omega), ← hτ, rI_uA, if_neg (by omega)]; exact b
                have b2 : rI (th0 τ1) 22 7 0 t = nI m' := by rw [th0_rI (by omega), ← hτ, rI_uA, if_neg (by omega)]; exact b'
                obtain ⟨τ2, v, e2, h1, h2⟩ := sp_copy105 (N := N) (σ := th0 τ1) (a := 40 * r + i) (b := 40 * t + j) (n := n) (fun _ σ_8 => some ((1 : Int32), σ_8)) (by omega) (by omega) (by omega) (by omega)
                refine ⟨1, τ1, τ2, ?_, ?_, ?_⟩
                · rw [c0, decide_eq_true (by rw [nI_toInt (by omega), nI_toInt (by omega)]; exact q1), if_pos rfl, decide_eq_true (by rw [nI_toInt (by omega), nI_toInt (by omega)]; exact q2), if_pos rfl, g1, gd_t ok]
                  simp only [nI_clamp (show i < 2 ^ 31 by omega), nI_clamp (show j < 2 ^ 31 by omega), nI_clamp (show n < 2 ^ 31 by omega), hτ, k1]
                · rw [m1 _ b1 b2, decide_eq_true (by rw [nI_toInt (by omega), nI_toInt (by omega)]; exact q1), if_pos rfl, decide_eq_true (by rw [nI_toInt (by omega), nI_toInt (by omega)]; exact q2), if_pos rfl, n40, pk_mul, pk_mul, nI_add, nI_add]
                  exact e2
                · have f2 : Fq (rgR t) σ τ2 := (f1.tr (th0_fr (σ := τ1)) (fun _ _ _ _ z => z) (fun _ _ _ _ z => Or.inl z)).tr h2 (fun _ _ _ _ z => z) (fun t' i' j' k' z => by unfold rgR scR fTold; omega)
                  refine Inv_row1 (r := t) hI f2 ht6 (Or.inr ⟨m', hm', ?_, ?_, fun k hk => ?_⟩) ?_
                  · rw [(h2 2 t 0 1 (by omega)).1, th0_rI (by omega), ← hτ, rI_uA, if_neg (by omega)]; exact a'
                  · rw [(h2 22 7 0 t (by omega)).1]; exact b2
                  · have s6 : ∀ x, rI (th0 τ1) 22 6 0 x = rI σ 22 6 0 x := fun x => by rw [th0_rI (by omega), ← hτ, rI_uA, if_neg (by omega)]
                    rw [h1, (h2 3 t 0 k (by omega)).1, th0_rI (by omega), ← hτ, rI_uA, if_pos ⟨rfl, rfl, rfl⟩]
                    rw [← hτ] at s6
                    by_cases hk2 : j ≤ k ∧ k < j + n
                    · rw [if_pos (by omega), pk_cpy_in hk2.1 hk2.2, s6, show 40 * t + k - (40 * t + j) + (40 * r + i) = 40 * r + (i + (k - j)) by omega]
                      exact d _ (by omega)
                    · rw [if_neg (by omega), pk_cpy_out (by omega), s6]
                      exact d' k hk
                  · have := hI.2.2.1
                    unfold iTold at *
                    rw [(h2 0 0 0 12 (by omega)).1, (h2 21 0 0 1 (by omega)).1, th0_rI (by omega), th0_rI (by omega), ← hτ, rI_uA, rI_uA, if_neg (by omega), if_neg (by omega)]
                    exact this
              · refine miss 2 (Or.inr rfl) ?_ ?_
                · rw [c0, decide_eq_true q1, if_pos rfl, decide_eq_false q2, if_neg (by decide), n2, sp_found7 (by decide)]; rfl
                · rw [m1 _ (by rw [s7]; exact b) (by rw [s7]; exact b'), decide_eq_true q1, if_pos rfl, decide_eq_false q2, if_neg (by decide)]
            · refine miss 2 (Or.inr rfl) ?_ ?_
              · rw [c0, decide_eq_false q1, if_neg (by decide), n2, sp_found7 (by decide)]; rfl
              · rw [m1 _ (by rw [s7]; exact b) (by rw [s7]; exact b'), decide_eq_false q1, if_neg (by decide)]
      · refine ⟨-3, fdS σ 5, fdM (th0 (fdS σ 5)) 5, ?_, ?_, Inv_found hI (by decide)⟩
        · rw [c0, if_neg hn, n5, sp_found7 (by decide)]; rfl
        · rw [m0, if_neg hn, n5, sp_found8 (by decide)]; rfl
    · refine ⟨-1, σ, th0 σ, ?_, ?_, Inv_th0 hI⟩
      · unfold f_X7_copy; rw [sp_isRow7, Option.bind_some, b2n_z, decide_eq_true hr, if_pos rfl, sp_isRow7, Option.bind_some, b2n_z, decide_eq_false ht]; rfl
      · unfold f_X8_copy; rw [th_d, sp_isRow8, Option.bind_some, b2n_z, decide_eq_true hr, if_pos rfl, sp_isRow8, Option.bind_some, b2n_z, decide_eq_false ht]; rfl
  · refine ⟨-1, σ, th0 σ, ?_, ?_, Inv_th0 hI⟩
    · unfold f_X7_copy; rw [sp_isRow7, Option.bind_some, b2n_z, decide_eq_false hr]; rfl
    · unfold f_X8_copy; rw [th_d, sp_isRow8, Option.bind_some, b2n_z, decide_eq_false hr]; rfl
end Copy
