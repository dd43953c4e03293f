section Frac
variable {N n nd : Nat} {σ : Sg} {D : Nat → Scr} {c : Scr}
theorem sp_power7 {p m : Nat} (hp : p < 2147483648) (hm : m < 2147483648) (hN : m < N) : f_X7_power N (nI p) (nI m) σ = some (lN (p ^ m), σ) := by
  unfold f_X7_power
  refine up_eq (fun q w s => L_X7_power_5 N (fun v2_1 _ => some (v2_1, σ)) (nI p) (nI m) σ q s w) (fun _ s => some (s, σ)) (fun j => lN (p ^ j)) 0 m ?_ ?_ N (by omega) (by omega)
  · intro q
    show L_X7_power_5 N _ _ _ σ (q + 1) _ _ = _
    rw [L_X7_power_5_s, ile_t (Nat.le_refl _) hm]
  · intro q j _ hj
    show L_X7_power_5 N _ _ _ σ (q + 1) _ _ = L_X7_power_5 N _ _ _ σ q _ _
    rw [L_X7_power_5_s, ile_f hj hm, nI_l hp, lN_mul, nI_1, Nat.pow_succ]
theorem sp_power8 {p m : Nat} (hm : m < 2147483648) (hN : m < N) : f_X8_power N (lN p) (nI m) σ = some (lN (p ^ m), σ) := by
  unfold f_X8_power
  refine up_eq (fun q w s => L_X8_power_5 N (fun v2_1 _ => some (v2_1, σ)) (lN p) (nI m) σ q s w) (fun _ s => some (s, σ)) (fun j => lN (p ^ j)) 0 m ?_ ?_ N (by omega) (by omega)
  · intro q
    show L_X8_power_5 N _ _ _ σ (q + 1) _ _ = _
    rw [L_X8_power_5_s, ile_t (Nat.le_refl _) hm]
  · intro q j _ hj
    show L_X8_power_5 N _ _ _ σ (q + 1) _ _ = L_X8_power_5 N _ _ _ σ q _ _
    rw [L_X8_power_5_s, ile_f hj hm, lN_mul, nI_1, Nat.pow_succ]
/-! Euclid's steps: the product of both halves at each -/
def euI (g d a b : Nat) : Prop := Nat.gcd a b = g ∧ a < 1099511627776 ∧ b < 1099511627776 ∧ ((b ≤ a ∧ a * b < 2 ^ d) ∨ (a < b ∧ 0 < d ∧ a * b < 2 ^ (d - 1)))
theorem euI_step {g d a b : Nat} (h : euI g d a b) (hb : 0 < b) : 0 < d ∧ euI g (d - 1) b (a % b) := by
  obtain ⟨h1, h2, h3, h4⟩ := h
  have hm := Nat.mod_lt a hb
  have hg : Nat.gcd b (a % b) = g := by rw [← h1, Nat.gcd_comm a b, Nat.gcd_rec b a, Nat.gcd_comm]
  rcases h4 with ⟨q1, q2⟩ | ⟨q1, q2, q3⟩
  · have hd : 0 < d := by
      rcases Nat.eq_zero_or_pos d with z | z
      · subst z
        have : 1 ≤ a * b := Nat.mul_pos (by omega) hb
        rw [Nat.pow_zero] at q2
        omega
      · exact z
    refine ⟨hd, hg, h3, by omega, Or.inl ⟨by omega, ?_⟩⟩
    have h5 : b * (a / b) + a % b = a := Nat.div_add_mod a b
    have h6 : 1 ≤ a / b := Nat.div_pos q1 hb
    have h7 : b ≤ b * (a / b) := Nat.le_mul_of_pos_right b h6
    have h8 : 2 * (a % b) ≤ a := by omega
    have h9 : 2 * (b * (a % b)) ≤ a * b := by
      have := Nat.mul_le_mul_left b h8
      rw [Nat.mul_comm a b, ← Nat.mul_assoc, Nat.mul_comm 2 b, Nat.mul_assoc]
      exact this
    have h10 : 2 ^ d = 2 * 2 ^ (d - 1) := by
      obtain ⟨e, rfl⟩ : ∃ e, d = e + 1 := ⟨d - 1, by omega⟩
      rw [Nat.pow_succ, Nat.add_sub_cancel]; omega
    omega
  · have e : a % b = a := Nat.mod_eq_of_lt q1
    refine ⟨q2, hg, h3, by omega, Or.inl ⟨by omega, ?_⟩⟩
    rw [e, Nat.mul_comm]; exact q3
theorem eu_start {A B : Nat} (hA : A < 1099511627776) (hB : B < 1099511627776) : euI (Nat.gcd A B) 81 A B := by
  refine ⟨rfl, hA, hB, ?_⟩
  have hp : A * B < 2 ^ 80 := by
    rcases Nat.eq_zero_or_pos B with z | z
    · subst z; rw [Nat.mul_zero]; exact Nat.two_pow_pos _
    · exact Nat.lt_of_lt_of_le (Nat.mul_lt_mul_of_lt_of_le hA (Nat.le_of_lt hB) (by decide)) (Nat.le_of_ble_eq_true rfl)
  by_cases h : B ≤ A
  · exact Or.inl ⟨h, Nat.lt_trans hp (Nat.pow_lt_pow_right (by decide) (by decide))⟩
  · exact Or.inr ⟨by omega, by decide, hp⟩
theorem lN_z {b : Nat} (hb : b < 9223372036854775808) : (lN b = 0) ↔ b = 0 := by rw [show (0 : Int64) = lN 0 from rfl, fb_lN_inj hb (by decide)]
theorem sp_tell {A B : Nat} (hA : A < 1099511627776) (hB : B < 1099511627776) (h0 : 0 < B) (hN : 200 < N) : f_X7_tellFraction N (lN A) (lN B) σ = some (uL (uL σ 0 0 0 13 (lN (A / Nat.gcd A B))) 0 0 0 14 (lN (B / Nat.gcd A B))) := by
  have hg : 0 < Nat.gcd A B := Nat.gcd_pos_of_pos_right A h0
  have hgl : Nat.gcd A B ≤ B := Nat.le_of_dvd h0 (Nat.gcd_dvd_right A B)
  unfold f_X7_tellFraction
  generalize hG : Nat.gcd A B = g at *
  refine lp_gen (fun q (s : Int64 × Int64 × Int32) => L_X7_tellFraction_9 N (fun v5_1 v7_1 v9_1 => if (lg_cmp v5_1 (0 : Int64)) ≤ 0 then (some (σ)) else (gd (decide (¬ v5_1 = 0)) (some (uL (uL σ 0 0 0 13 (lN A / v5_1)) 0 0 0 14 (lN B / v5_1))))) (lN A) (lN B) σ q s.1 s.2.1 s.2.2) (fun d s => ∃ a b k, s = (lN a, lN b, nI k) ∧ euI g d a b ∧ k + d ≤ 81) (fun o => o = some (uL (uL σ 0 0 0 13 (lN (A / g))) 0 0 0 14 (lN (B / g)))) ?_ N 81 (lN A, lN B, 0) ⟨A, B, 0, rfl, hG ▸ eu_start hA hB, by decide⟩ (by omega)
  rintro q d s ⟨a, b, k, rfl, he, hk⟩
  dsimp only
  rw [L_X7_tellFraction_9_s, show (100 : Int32) = nI 100 from rfl, ile_f (by omega) (by decide)]
  have he' := he
  obtain ⟨e1, e2, e3, -⟩ := he'
  rcases Nat.eq_zero_or_pos b with hb | hb
  · right
    subst hb
    rw [Nat.gcd_zero_right] at e1
    subst e1
    have hz : ¬ lN a = 0 := fun z => by rw [lN_z (by omega)] at z; omega
    rw [if_pos ((lg_cmp_eq (lN 0) 0).mpr rfl), if_neg (fun z => by
      rw [lg_cmp_le, show (0 : Int64) = lN 0 from rfl, pk_lLE (by omega) (by decide)] at z
      omega), gd_t (decide_eq_true hz), pk_lDiv (by omega) hg (by omega), pk_lDiv (by omega) hg (by omega)]
  · left
    obtain ⟨hd, hs⟩ := euI_step he hb
    refine ⟨(lN b, lN (a % b), nI (k + 1)), d - 1, by omega, ?_, b, a % b, k + 1, rfl, hs, by omega⟩
    have hz : ¬ lN b = 0 := fun z => by rw [lN_z (by omega)] at z; omega
    rw [if_neg (fun z => hz ((lg_cmp_eq _ _).mp z)), gd_t (decide_eq_true hz), pk_lRem (by omega) hb (by omega), nI_1]
theorem sp_frac {A B : Nat} (hA : A < 1099511627776) (hB : B < 1099511627776) (h0 : 0 < B) (hN : 200 < N) : f_X8_fraction N (lN A) (lN B) σ = some (uL (uL σ 21 0 0 2 (lN (A / Nat.gcd A B))) 21 0 0 3 (lN (B / Nat.gcd A B))) := by
  have hg : 0 < Nat.gcd A B := Nat.gcd_pos_of_pos_right A h0
  have hgl : Nat.gcd A B ≤ B := Nat.le_of_dvd h0 (Nat.gcd_dvd_right A B)
  have key : f_X8_gcd N (lN A) (lN B) σ = some (lN (Nat.gcd A B), σ) := by
    unfold f_X8_gcd
    generalize hG : Nat.gcd A B = g at *
    refine lp_gen (fun q (s : Int64 × Int64) => L_X8_gcd_6 N (fun v4_1 _ => some (v4_1, σ)) σ q s.1 s.2) (fun d s => ∃ a b, s = (lN a, lN b) ∧ euI g d a b) (fun o => o = some (lN g, σ)) ?_ N 81 (lN A, lN B) ⟨A, B, rfl, hG ▸ eu_start hA hB⟩ (by omega)
    rintro q d s ⟨a, b, rfl, he⟩
    dsimp only
    rw [L_X8_gcd_6_s]
    have he' := he
    obtain ⟨e1, e2, e3, -⟩ := he'
    rcases Nat.eq_zero_or_pos b with hb | hb
    · right
      subst hb
      rw [Nat.gcd_zero_right] at e1
      subst e1
      rw [if_pos ((lg_cmp_eq (lN 0) 0).mpr rfl)]
    · left
      obtain ⟨hd, hs⟩ := euI_step he hb
      refine ⟨(lN b, lN (a % b)), d - 1, by omega, ?_, b, a % b, rfl, hs⟩
      have hz : ¬ lN b = 0 := fun z => by rw [lN_z (by omega)] at z; omega
      rw [if_neg (fun z => hz ((lg_cmp_eq _ _).mp z)), gd_t (decide_eq_true hz), pk_lRem (by omega) hb (by omega)]
  unfold f_X8_fraction
  rw [key, Option.bind_some]
  dsimp only
  have hz : ¬ lN (Nat.gcd A B) = 0 := fun z => by rw [lN_z (by omega)] at z; omega
  rw [gd_t (decide_eq_true hz), pk_lDiv (by omega) hg (by omega), pk_lDiv (by omega) hg (by omega)]
/-- the end of a call that tells a fraction -/
def tlF (σ : Sg) (u v : Int64) : Sg := uL (uL σ 0 0 0 13 u) 0 0 0 14 v
theorem tlF_fr {u v : Int64} : Fq frR σ (tlF σ u v) := (Fq.rf.uL (Or.inr (Or.inl ⟨rfl, Or.inl rfl⟩))).uL (Or.inr (Or.inl ⟨rfl, Or.inr rfl⟩))
theorem Inv_fr {τ : Sg} {u v : Int64} (hI : Inv σ) (h : Fq scR (th0 (tlF σ u v)) τ) : Inv (uL (uL τ 21 0 0 2 u) 21 0 0 3 v) := by
  have f0 : Fq frR σ (th0 (tlF σ u v)) := tlF_fr.tr th0_fr (fun _ _ _ _ z => z) (fun _ _ _ _ z => Or.inl z)
  have f : Fq frR σ (uL (uL τ 21 0 0 2 u) 21 0 0 3 v) := ((f0.tr h (fun _ _ _ _ z => z) (fun _ _ _ _ z => Or.inl z)).uL (Or.inr (Or.inr (Or.inl ⟨rfl, Or.inl rfl⟩)))).uL (Or.inr (Or.inr (Or.inl ⟨rfl, Or.inr rfl⟩)))
  refine Inv_frac hI f ?_
  have a := (h 0 0 0 13 (by unfold scR; omega)).2
  have b := (h 0 0 0 14 (by unfold scR; omega)).2
  have d : rI τ 15 0 0 0 = 0 := ((h 15 0 0 0 (by unfold scR; omega)).1).trans hI.2.2.2.1.2.2
  refine ⟨?_, ?_, d⟩ <;> simp only [rL_uL, a, b, th0_rL, tlF] <;> simp
theorem iScr.fr {u v : Int64} (h : iScr σ n nd D) : iScr (th0 (tlF σ u v)) n nd D :=
  iScr_fr (R := frR) (tlF_fr.tr th0_fr (fun _ _ _ _ z => z) (fun _ _ _ _ z => Or.inl z)) h (fun t i j k ha hb => by simp only [fScr, frR, scR, fFrac] at ha hb; omega)
/-- whether a chance can be told -/
theorem rc_cases (hS : isScr σ 0 n c) (ok : okS n c) (p q : Int32) (hN : 100 < N) :
    (∃ a, (a = -1 ∨ a = -4) ∧ f_X7_refusalOfChance N p q σ = some (a, σ) ∧ (∀ τ, mS (th0 τ) n c → f_X8_odds N p q τ = some (a, th0 τ) ∧ f_X8_mid N p q τ = some (a, th0 τ))) ∨
    ∃ i k, i < n ∧ k ≤ 12 ∧ p = nI i ∧ q = nI k ∧ opn c i = true ∧ f_X7_refusalOfChance N p q σ = some (0, σ) ∧
      (∀ τ, mS (th0 τ) n c → f_X8_odds N p q τ = ((f_X8_sees N (th0 τ)).bind (fun w4 => (f_X8_overIt N p w4).bind (fun w5 => (f_X8_ones N w5.1.toInt64 w5.2).bind (fun w6 => (f_X8_power N q.toInt64 w6.1 w6.2).bind (fun w7 => (f_X8_power N (12 : Int64) w6.1 w7.2).bind (fun w8 => (f_X8_fraction N w7.1 w8.1 w8.2).bind (fun w9 => some ((1 : Int32), w9)))))))) ∧
        f_X8_mid N p q τ = ((f_X8_sees N (th0 τ)).bind (fun w4 => (f_X8_overIt N p w4).bind (fun w5 => L_X8_mid_56 N (fun v5_12 v7_12 σ_12 => (f_X8_power N (12 : Int64) (6 : Int32) σ_12).bind (fun w13 => (f_X8_fraction N v5_12 w13.1 w13.2).bind (fun w14 => some ((1 : Int32), w14)))) p q w5.1 N (0 : Int64) (0 : Int32) w5.2)))) := by
  have hn := ok.1
  have e1 : (q < 0) ↔ q.toInt < 0 := fa_lt q 0
  have e2 : (q ≤ (12 : Int32)) ↔ q.toInt ≤ 12 := fa_le q 12
  by_cases hq : 0 ≤ q.toInt ∧ q.toInt < (13 : Nat)
  · have c0 : f_X7_refusalOfChance N p q σ = (f_X7_refusalOfOpen N p σ).bind (fun w1 => some (w1.1, w1.2)) := by
      unfold f_X7_refusalOfChance
      rw [if_neg (fun z => by have := e1.mp z; omega), if_pos (e2.mpr (by omega))]
    rcases ro_cases (N := N) hS ok p with ⟨x1, hp, x2⟩ | ⟨x1, hp, x2⟩ | ⟨i, hin, rfl, ho, x1, hp, x2⟩
    · left
      refine ⟨-1, Or.inl rfl, by rw [c0, x1]; rfl, fun τ hm => ⟨?_, ?_⟩⟩
      · unfold f_X8_odds
        rw [th_d, sp_isPane hm.1 hn, Option.bind_some, b2n_z, decide_eq_false hp]; rfl
      · unfold f_X8_mid
        rw [th_d, sp_isPane hm.1 hn, Option.bind_some, b2n_z, decide_eq_false hp]; rfl
    · left
      refine ⟨-4, Or.inr rfl, by rw [c0, x1]; rfl, fun τ hm => ⟨?_, ?_⟩⟩
      · unfold f_X8_odds
        rw [th_d, sp_isPane hm.1 hn, Option.bind_some, b2n_z, decide_eq_true hp, if_pos rfl, sp_in, in_le q (m := 13) _ _ (by decide) (by decide), Option.bind_some, b2n_z, decide_eq_true hq, if_pos rfl, x2 _ hm]; rfl
      · unfold f_X8_mid
        rw [th_d, sp_isPane hm.1 hn, Option.bind_some, b2n_z, decide_eq_true hp, if_pos rfl, sp_in, in_le q (m := 13) _ _ (by decide) (by decide), Option.bind_some, b2n_z, decide_eq_true hq, if_pos rfl, x2 _ hm]; rfl
    · right
      obtain ⟨k, hk, rfl⟩ := in_nI hq (by decide)
      refine ⟨i, k, hin, by omega, rfl, rfl, ho, by rw [c0, x1]; rfl, fun τ hm => ⟨?_, ?_⟩⟩
      · unfold f_X8_odds
        rw [th_d, sp_isPane hm.1 hn, Option.bind_some, b2n_z, decide_eq_true hp, if_pos rfl, sp_in, in_le (nI k) (m := 13) _ _ (by decide) (by decide), Option.bind_some, b2n_z, decide_eq_true hq, if_pos rfl, x2 _ hm, Option.bind_some, if_pos rfl]
      · unfold f_X8_mid
        rw [th_d, sp_isPane hm.1 hn, Option.bind_some, b2n_z, decide_eq_true hp, if_pos rfl, sp_in, in_le (nI k) (m := 13) _ _ (by decide) (by decide), Option.bind_some, b2n_z, decide_eq_true hq, if_pos rfl, x2 _ hm, Option.bind_some, if_pos rfl]
  · left
    refine ⟨-1, Or.inl rfl, ?_, fun τ hm => ?_⟩
    · unfold f_X7_refusalOfChance
      simp only [e1, e2]
      by_cases a : q.toInt < 0
      · rw [if_pos a]
      · rw [if_neg a, if_neg (by omega)]
    · by_cases hp : 0 ≤ p.toInt ∧ p.toInt < (n : Nat)
      · refine ⟨?_, ?_⟩
        · unfold f_X8_odds
          rw [th_d, sp_isPane hm.1 hn, Option.bind_some, b2n_z, decide_eq_true hp, if_pos rfl, sp_in, in_le q (m := 13) _ _ (by decide) (by decide), Option.bind_some, b2n_z, decide_eq_false hq]; rfl
        · unfold f_X8_mid
          rw [th_d, sp_isPane hm.1 hn, Option.bind_some, b2n_z, decide_eq_true hp, if_pos rfl, sp_in, in_le q (m := 13) _ _ (by decide) (by decide), Option.bind_some, b2n_z, decide_eq_false hq]; rfl
      · refine ⟨?_, ?_⟩
        · unfold f_X8_odds
          rw [th_d, sp_isPane hm.1 hn, Option.bind_some, b2n_z, decide_eq_false hp]; rfl
        · unfold f_X8_mid
          rw [th_d, sp_isPane hm.1 hn, Option.bind_some, b2n_z, decide_eq_false hp]; rfl
theorem pow_le12 {p o m : Nat} (hp : p ≤ 12) (ho : o ≤ m) : p ^ o * 12 ^ (m - o) ≤ 12 ^ m := by
  have h1 : p ^ o ≤ 12 ^ o := Nat.pow_le_pow_left hp o
  have h2 := Nat.mul_le_mul_right (12 ^ (m - o)) h1
  rw [← Nat.pow_add, show o + (m - o) = m by omega] at h2
  exact h2
theorem pow12_lt {m : Nat} (hm : m ≤ 6) : 12 ^ m ≤ 2985984 := by
  have := Nat.pow_le_pow_right (show 0 < 12 by decide) hm
  exact Nat.le_trans this (Nat.le_of_ble_eq_true rfl)
theorem l12 : (12 : Int64) = lN 12 := rfl
theorem itw_lt {i : Nat} (hi : i < n) : fb_ct (itw n c i) n ≤ n - 1 := by
  have h1 := fb_ct_not (itw n c i) n
  have h2 : 0 < fb_ct (fun k => !itw n c i k) n := fb_ct_pos.mpr ⟨i, hi, by unfold itw; rw [decide_eq_false (Nat.lt_irrefl _)]; simp⟩
  omega
theorem st_odds (p0 p1 : Int32) (hN : 300 < N) : StepI (f_X7_odds N p0 p1) (f_X8_odds N p0 p1) := by
  intro σ hI
  obtain ⟨n, nd, D, hs⟩ := hI.2.2.2.2.2
  have ok := hs.ok
  have hn := ok.1
  have hs2 : iScr (th0 σ) n nd D := hs.q (tl_sc th0_fr)
  rcases rc_cases (N := N) hs.scr ok p0 p1 (by omega) with ⟨a, ha, e1, e2⟩ | ⟨i, k, hin, hk, rfl, rfl, ho, e1, e2⟩
  · refine ⟨a, σ, th0 σ, ?_, (e2 σ hs2.mS).1, Inv_th0 hI⟩
    unfold f_X7_odds
    rw [e1, Option.bind_some, if_neg (show ¬ a = 0 by rcases ha with rfl | rfl <;> decide)]
  · have hm := itw_lt (n := n) (c := D nd) hin
    generalize hmm : fb_ct (itw n (D nd) i) n = m at *
    have b1 : k ^ m ≤ 12 ^ m := Nat.pow_le_pow_left hk m
    have b2 := pow12_lt (show m ≤ 6 by omega)
    have b3 : 0 < 12 ^ m := Nat.pow_pos (by decide)
    generalize hu : lN (k ^ m / Nat.gcd (k ^ m) (12 ^ m)) = u
    generalize hv : lN (12 ^ m / Nat.gcd (k ^ m) (12 ^ m)) = v
    have hs3 : iScr (th0 (tlF σ u v)) n nd D := hs.fr
    obtain ⟨τ, e, s1, s2, s3, s4, s5⟩ := sp_sees (N := N) hs3.mS ok (by omega)
    refine ⟨1, tlF σ u v, uL (uL τ 21 0 0 2 u) 21 0 0 3 v, ?_, ?_, Inv_fr hI (s5.q (fun _ _ _ _ => rgA_sc))⟩
    · unfold f_X7_odds
      rw [e1, Option.bind_some, if_pos rfl, sp_inTheWay hs.scr ok hin (by omega), Option.bind_some, bcI_msk N _ hn, hmm, Option.bind_some]
      dsimp only
      rw [sp_power7 (by omega) (by omega) (by omega), Option.bind_some, n12, sp_power7 (by decide) (by omega) (by omega), Option.bind_some]
      dsimp only
      rw [sp_tell (by omega) (by omega) b3 (by omega), hu, hv]
      rfl
    · rw [(e2 _ hs3.mS).1, e, Option.bind_some, sp_overIt s1 s3 ok hin (by omega), Option.bind_some]
      dsimp only
      rw [ones_set _ hn (by omega), hmm, Option.bind_some, nI_l (by omega)]
      dsimp only
      rw [sp_power8 (by omega) (by omega), Option.bind_some, l12]
      dsimp only
      rw [sp_power8 (by omega) (by omega), Option.bind_some]
      dsimp only
      rw [sp_frac (by omega) (by omega) b3 (by omega), hu, hv]
      rfl
/-! means -/
def sumN (f : Nat → Nat) : Nat → Nat
  | 0 => 0
  | m + 1 => sumN f m + f m
theorem sumN_s (f : Nat → Nat) (m : Nat) : sumN f (m + 1) = sumN f m + f m := rfl
theorem sumN_cong {f g : Nat → Nat} : ∀ {m : Nat}, (∀ k, k < m → f k = g k) → sumN f m = sumN g m
  | 0, _ => rfl
  | m + 1, h => by rw [sumN_s, sumN_s, sumN_cong (fun k hk => h k (by omega)), h m (by omega)]
theorem sumN_le {f : Nat → Nat} {B : Nat} : ∀ {m : Nat}, (∀ k, k < m → f k ≤ B) → sumN f m ≤ m * B
  | 0, _ => by rw [Nat.zero_mul]; exact Nat.le_refl _
  | m + 1, h => by
    have h1 := sumN_le (m := m) (fun k hk => h k (by omega))
    have h2 := h m (by omega)
    rw [sumN_s, Nat.succ_mul]; omega
theorem sumN_mul {f : Nat → Nat} (B : Nat) : ∀ m, sumN (fun k => f k * B) m = sumN f m * B
  | 0 => (Nat.zero_mul B).symm
  | m + 1 => by rw [sumN_s, sumN_s, sumN_mul B m, Nat.add_mul]
def ovx (n : Nat) (c : Scr) (i x : Nat) : Nat := fb_ct (fun j => (opn c j && decide (rk (c i) < rk (c j))) && cvr (c j) x) n
theorem ovx_lt {i x : Nat} (hi : i < n) : ovx n c i x ≤ n - 1 := by
  unfold ovx
  have h1 := fb_ct_not (fun j => (opn c j && decide (rk (c i) < rk (c j))) && cvr (c j) x) n
  have h2 : 0 < fb_ct (fun k => !((opn c k && decide (rk (c i) < rk (c k))) && cvr (c k) x)) n := fb_ct_pos.mpr ⟨i, hi, by rw [decide_eq_false (Nat.lt_irrefl _)]; simp⟩
  omega
def midf (n : Nat) (c : Scr) (i p m x : Nat) : Nat := if cvr (c i) x then p ^ ovx n c i x * 12 ^ (m - ovx n c i x) else 0
theorem ovx_itw {i x : Nat} (hx : x < 96) (hc : cvr (c i) x = true) : fb_ct (fun j => itw n c i j && cvr (c j) x) n = ovx n c i x := by
  unfold ovx itw
  refine fb_ct_cong (fun j _ => ?_)
  cases hj : cvr (c j) x with
  | false => simp
  | true =>
    have : anyb (fun x => cvr (c i) x && cvr (c j) x) 96 = true := anyb_iff.mpr ⟨x, hx, by rw [hc, hj]; rfl⟩
    rw [this]; simp
theorem cl_mid {i k : Nat} (hS : isScr σ 0 n c) (ok : okS n c) (hi : i < n) (hk : k ≤ 12) (K : Int64 → Int32 → Sg → Option (Int32 × Sg)) (hN : 300 < N) :
    L_X7_mid_30 N K (nI i) (nI k) (nI (n - 1)) N 0 0 σ = K (lN (sumN (midf n c i k (n - 1)) 96)) (nI 96) σ := by
  have hn := ok.1
  refine up_eq (fun q w s => L_X7_mid_30 N K (nI i) (nI k) (nI (n - 1)) q s w σ) (fun w s => K s w σ) (fun j => lN (sumN (midf n c i k (n - 1)) j)) 0 96 ?_ ?_ N (by omega) (by omega)
  · intro q
    show L_X7_mid_30 N K _ _ _ (q + 1) _ _ σ = _
    rw [L_X7_mid_30_s, n96, ile_t (Nat.le_refl _) (by decide)]
  · intro q x _ hx
    show L_X7_mid_30 N K _ _ _ (q + 1) _ _ σ = L_X7_mid_30 N K _ _ _ q _ _ σ
    have ho := ovx_lt (n := n) (c := c) (i := i) (x := x) hi
    rw [L_X7_mid_30_s, n96, ile_f hx (by decide), gi (by omega) (by decide), nI_clamp (by omega), sp_hasCell N 0 i (hS.2 i hi) hx, Option.bind_some, b2n_z, nI_1, sumN_s]
    unfold midf
    cases hc : cvr (c i) x with
    | false => rw [if_neg (by decide), if_neg (by decide)]; rfl
    | true =>
      rw [if_pos rfl, if_pos rfl]
      dsimp only
      rw [sp_howManyOver hS ok hi hx (by omega), Option.bind_some]
      dsimp only
      rw [show fb_ct (fun j => (opn c j && decide (rk (c i) < rk (c j))) && cvr (c j) x) n = ovx n c i x from rfl, sp_power7 (by omega) (by omega) (by omega), Option.bind_some, pk_sub ho, n12, sp_power7 (by decide) (by omega) (by omega), Option.bind_some]
      dsimp only
      rw [lN_mul, lN_add]
theorem mo_mid69 {i x : Nat} (K : Int32 → Int32 → Sg → Option (Int32 × Sg)) (a1 a2 : Int32) (a5 : Int64) (h0 : rI σ 21 0 0 10 = nI n) (hC : mC σ n c) (ok : okS n c) (hx : x < 96) (P : Nat → Bool) (hN : 300 < N) :
    L_X8_mid_69 N K a1 a2 (nI (msk P n)) a5 (nI x) N 0 0 σ = K (nI (fb_ct (fun j => P j && cvr (c j) x) n)) (nI n) σ := by
  have hn := ok.1
  refine up_eq (fun q w s => L_X8_mid_69 N K a1 a2 (nI (msk P n)) a5 (nI x) q s w σ) (fun w s => K s w σ) (fun j => nI (fb_ct (fun j => P j && cvr (c j) x) j)) 0 n ?_ ?_ N (by omega) (by omega)
  · intro q
    show L_X8_mid_69 N K _ _ _ _ _ (q + 1) _ _ σ = _
    rw [L_X8_mid_69_s, h0, ile_t (Nat.le_refl _) (by omega)]
  · intro q j _ hj
    show L_X8_mid_69 N K _ _ _ _ _ (q + 1) _ _ σ = L_X8_mid_69 N K _ _ _ _ _ q _ _ σ
    rw [L_X8_mid_69_s, h0, ile_f hj (by omega), has_bit hj hn, Option.bind_some, b2n_z, nI_1 j]
    cases hp : P j with
    | false => rw [if_neg (by decide), ct_f0 (p := fun j => P j && cvr (c j) x) (by simp [hp])]
    | true =>
      rw [if_pos rfl]
      dsimp only
      rw [sp_isCoverAt hC hj hn hx, Option.bind_some, b2n_z]
      cases hc : cvr (c j) x with
      | false => rw [if_neg (by decide), ct_f0 (p := fun j => P j && cvr (c j) x) (by simp [hc])]
      | true => rw [if_pos rfl, ct_t (p := fun j => P j && cvr (c j) x) (by simp [hp, hc])]
theorem mo_mid56 {i k : Nat} (K : Int64 → Int32 → Sg → Option (Int32 × Sg)) (h0 : rI σ 21 0 0 10 = nI n) (hC : mC σ n c) (ok : okS n c) (hi : i < n) (hk : k ≤ 12) (hN : 300 < N) :
    L_X8_mid_56 N K (nI i) (nI k) (nI (msk (itw n c i) n)) N 0 0 σ = K (lN (sumN (midf n c i k 6) 96)) (nI 96) σ := by
  have hn := ok.1
  refine up_eq (fun q w s => L_X8_mid_56 N K (nI i) (nI k) (nI (msk (itw n c i) n)) q s w σ) (fun w s => K s w σ) (fun j => lN (sumN (midf n c i k 6) j)) 0 96 ?_ ?_ N (by omega) (by omega)
  · intro q
    show L_X8_mid_56 N K _ _ _ (q + 1) _ _ σ = _
    rw [L_X8_mid_56_s, n96, ile_t (Nat.le_refl _) (by decide)]
  · intro q x _ hx
    show L_X8_mid_56 N K _ _ _ (q + 1) _ _ σ = L_X8_mid_56 N K _ _ _ q _ _ σ
    have ho := ovx_lt (n := n) (c := c) (i := i) (x := x) hi
    rw [L_X8_mid_56_s, n96, ile_f hx (by decide), mo_mid69 (i := i) _ _ _ _ h0 hC ok hx (itw n c i) hN, sp_isCoverAt hC hi hn hx, Option.bind_some, b2n_z, nI_1, sumN_s]
    unfold midf
    cases hc : cvr (c i) x with
    | false => rw [if_neg (by decide), if_neg (by decide), show (0 : Int64) = lN 0 from rfl, lN_add]
    | true =>
      rw [if_pos rfl, if_pos rfl, ovx_itw hx hc, nI_l (by omega)]
      dsimp only
      rw [sp_power8 (by omega) (by omega), Option.bind_some, n6, pk_sub (by omega), l12]
      dsimp only
      rw [sp_power8 (by omega) (by omega), Option.bind_some]
      dsimp only
      rw [lN_mul, lN_add]
theorem st_mid (p0 p1 : Int32) (hN : 300 < N) : StepI (f_X7_mid N p0 p1) (f_X8_mid N p0 p1) := by
  intro σ hI
  obtain ⟨n, nd, D, hs⟩ := hI.2.2.2.2.2
  have ok := hs.ok
  have hn := ok.1
  have hs2 : iScr (th0 σ) n nd D := hs.q (tl_sc th0_fr)
  rcases rc_cases (N := N) hs.scr ok p0 p1 (by omega) with ⟨a, ha, e1, e2⟩ | ⟨i, k, hin, hk, rfl, rfl, ho, e1, e2⟩
  · refine ⟨a, σ, th0 σ, ?_, (e2 σ hs2.mS).2, Inv_th0 hI⟩
    unfold f_X7_mid
    rw [e1, Option.bind_some, if_neg (show ¬ a = 0 by rcases ha with rfl | rfl <;> decide)]
  · have b2 := pow12_lt (show n - 1 ≤ 6 by omega)
    have b3 : 0 < 12 ^ (n - 1) := Nat.pow_pos (by decide)
    have bS : sumN (midf n (D nd) i k (n - 1)) 96 ≤ 96 * 2985984 := sumN_le (fun x _ => by
      unfold midf
      split
      · exact Nat.le_trans (pow_le12 hk (ovx_lt hin)) b2
      · omega)
    have eS : sumN (midf n (D nd) i k 6) 96 = sumN (midf n (D nd) i k (n - 1)) 96 * 12 ^ (7 - n) := by
      rw [← sumN_mul]
      refine sumN_cong (fun x _ => ?_)
      have ho := ovx_lt (n := n) (c := D nd) (i := i) (x := x) hin
      unfold midf
      split
      · rw [Nat.mul_assoc, ← Nat.pow_add, show n - 1 - ovx n (D nd) i x + (7 - n) = 6 - ovx n (D nd) i x by omega]
      · rw [Nat.zero_mul]
    have eB : (12 : Nat) ^ 6 = 12 ^ (n - 1) * 12 ^ (7 - n) := by rw [← Nat.pow_add, show n - 1 + (7 - n) = 6 by omega]
    have b4 : 0 < 12 ^ (7 - n) := Nat.pow_pos (by decide)
    have b5 : 12 ^ (7 - n) ≤ 2985984 := pow12_lt (by omega)
    generalize hS : sumN (midf n (D nd) i k (n - 1)) 96 = S at *
    generalize hu : lN (S / Nat.gcd S (12 ^ (n - 1))) = u
    generalize hv : lN (12 ^ (n - 1) / Nat.gcd S (12 ^ (n - 1))) = v
    have bS2 : S * 12 ^ (7 - n) < 1099511627776 := by
      have h1 : sumN (midf n (D nd) i k 6) 96 ≤ 96 * 2985984 := sumN_le (fun x _ => by
        have ho := ovx_lt (n := n) (c := D nd) (i := i) (x := x) hin
        unfold midf
        split
        · exact Nat.le_trans (pow_le12 hk (by omega)) (pow12_lt (by omega))
        · omega)
      rw [eS] at h1
      omega
    have hs3 : iScr (th0 (tlF σ u v)) n nd D := hs.fr
    obtain ⟨τ, e, s1, s2, s3, s4, s5⟩ := sp_sees (N := N) hs3.mS ok (by omega)
    refine ⟨1, tlF σ u v, uL (uL τ 21 0 0 2 u) 21 0 0 3 v, ?_, ?_, Inv_fr hI (s5.q (fun _ _ _ _ => rgA_sc))⟩
    · unfold f_X7_mid
      rw [e1, Option.bind_some, if_pos rfl]
      dsimp only
      rw [hs.scr.1, n1, pk_sub (by omega), cl_mid hs.scr ok hin hk _ hN, hS, n12, sp_power7 (by decide) (by omega) (by omega), Option.bind_some]
      dsimp only
      rw [sp_tell (by omega) (by omega) b3 (by omega), hu, hv]
      rfl
    · rw [(e2 _ hs3.mS).2, e, Option.bind_some, sp_overIt s1 s3 ok hin (by omega), Option.bind_some]
      dsimp only
      rw [mo_mid56 _ s1.1 s3 ok hin hk hN, l12, n6, sp_power8 (by decide) (by omega), Option.bind_some]
      dsimp only
      rw [eS, eB, sp_frac bS2 (by rw [← eB]; decide) (by rw [← eB]; decide) (by omega), Nat.gcd_mul_right, Nat.mul_div_mul_right _ _ b4, Nat.mul_div_mul_right _ _ b4, hu, hv]
      rfl
end Frac
