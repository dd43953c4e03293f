section Duel2
variable {N n nd : Nat} {σ : Sg} {D : Nat → Scr} {c : Scr}
/-- the set over it after the turns that a number tells -/
def Sq (n i A : Nat) : Nat → Nat → Nat
  | 0, _ => A
  | t + 1, e => upS i (Sq n i A t (e / n)) (e % n)
theorem Sq_s (n i A t e : Nat) : Sq n i A (t + 1) e = upS i (Sq n i A t (e / n)) (e % n) := rfl
theorem pow_b {T : Nat} (hn : n ≤ 7) (hT : T ≤ 4) : n ^ T ≤ 2401 := by
  have h1 : n ^ T ≤ 7 ^ T := Nat.pow_le_pow_left hn T
  have h2 : 7 ^ T ≤ 7 ^ 4 := Nat.pow_le_pow_right (by decide) hT
  omega
def r21 : Nat → Nat → Nat → Prop := fun t i j => t = 22 ∧ i = 21 ∧ j = 0
theorem mC_5 {c' : Scr} (h : mC σ n c) (s : sp5 c' c) : mC σ n c' := fun i hi => by
  obtain ⟨a, b⟩ := h i hi
  rw [a, b]
  exact ⟨by rw [msk_cong (fun x _ => (s.cv i x).symm)], by rw [msk_cong (fun x _ => (s.cv i (48 + x)).symm)]⟩
theorem mo_copy {c' : Scr} (K : Int32 → Sg → Option (Int32 × Sg)) (hS : mS σ n c) (hW : mW σ n c') (s : sp5 c' c) (ok : okS n c) (a1 a2 a3 a4 : Int32) (hN : 100 < N) :
    ∃ v υ, L_X8_duel_68 N K a1 a2 a3 a4 N 0 σ = K v υ ∧ mW υ n c ∧ Fr r21 σ υ := by
  have hn := ok.1
  obtain ⟨υ, e, h1, h2⟩ := up_rel (fun q v τ => L_X8_duel_68 N K a1 a2 a3 a4 q v τ) K
    (fun j τ => (∀ k, k < j → rI τ 22 21 0 (14 + k) = rI σ 22 14 0 (14 + k)) ∧ Fq (fun t i j k => t = 22 ∧ i = 21 ∧ j = 0 ∧ 14 ≤ k ∧ k < 21) σ τ) n
    (fun q τ h => by
      show L_X8_duel_68 N _ _ _ _ _ (q + 1) _ _ = _
      rw [L_X8_duel_68_s, (h.2 21 0 0 10 (by omega)).1, hS.1, ile_t (Nat.le_refl _) (by omega)])
    (fun q j τ hj h => by
      refine ⟨uI τ 22 21 0 (14 + j) (rI τ 22 14 0 (14 + j)), ?_, fun k hk => ?_, h.2.uI ⟨rfl, rfl, rfl, by omega, by omega⟩⟩
      · show L_X8_duel_68 N _ _ _ _ _ (q + 1) _ _ = L_X8_duel_68 N _ _ _ _ _ q _ _
        rw [L_X8_duel_68_s, (h.2 21 0 0 10 (by omega)).1, hS.1, ile_f hj (by omega), n14, nI_add, gi (by omega) (by decide), gi (by omega) (by decide), nI_clamp (by omega), nI_1]
      · rw [rI_uI]
        by_cases e : k = j
        · subst e
          rw [if_pos ⟨rfl, rfl, rfl, rfl⟩]
          exact (h.2 22 14 0 (14 + k) (by omega)).1
        · rw [if_neg (fun z => e (by omega))]
          exact h.1 k (by omega))
    n 0 σ N (by omega) ⟨fun k hk => by omega, Fq.rf⟩ (by omega)
  refine ⟨_, υ, e, ⟨((h2 21 0 0 10 (by omega)).1).trans hW.1, fun i hi => ?_, fun i hi => ?_, ?_⟩, fun t i j hn k => h2 t i j k (fun z => hn ⟨z.1, z.2.1, z.2.2.1⟩)⟩
  · obtain ⟨a, b, d⟩ := hW.2.1 i hi
    rw [s i 0 (by decide)] at a
    rw [s i 3 (by decide)] at b
    rw [s i 4 (by decide)] at d
    exact ⟨((h2 22 20 0 i (by omega)).1).trans a, ((h2 22 12 0 i (by omega)).1).trans b, ((h2 22 13 0 i (by omega)).1).trans d⟩
  · obtain ⟨a, b, -⟩ := hW.2.2.1 i hi
    have hp := (ok.2.1 i hi).2.1
    dsimp only at a b
    rw [s i 1 (by decide)] at a
    rw [s i 2 (by decide)] at b
    exact ⟨((h2 22 21 0 i (by omega)).1).trans a, ((h2 22 21 0 (7 + i) (by omega)).1).trans b, (h1 _ hp).trans (hS.2.2.1 i hi).2.2⟩
  · have := hW.2.2.2
    dsimp only at this
    rw [msk_cong (fun j _ => s.op j)] at this
    exact ((h2 22 21 0 21 (by omega)).1).trans this
theorem mo_turns {i T e : Nat} (K : Int32 → Int32 → Sg → Option (Int32 × Sg)) (hW : mW σ n c) (ok : okS n c) (hi : i < n) (hn2 : 2 ≤ n) (hT : T ≤ 4) (he : e < n ^ T) (a1 a3 : Int32) (hN : 100 < N) :
    ∃ v w υ c', L_X8_duel_109 N K a1 (nI T) a3 (nI e) N (nI (n ^ T)) 0 σ = K v w υ ∧ mW υ n c' ∧ okS n c' ∧ sp5 c' c ∧ aft n c' i = Sq n i (aft n c i) T e ∧ Fr r21 σ υ := by
  have hn := ok.1
  have hb := pow_b hn hT
  obtain ⟨⟨v, υ⟩, e1, -, c', h1, h2, h3, h4, h5⟩ := up_rel (fun q v (s : Int32 × Sg) => L_X8_duel_109 N K a1 (nI T) a3 (nI e) q s.1 v s.2) (fun v s => K s.1 v s.2)
    (fun t s => s.1 = nI (n ^ (T - t)) ∧ ∃ c', mW s.2 n c' ∧ okS n c' ∧ sp5 c' c ∧ aft n c' i = Sq n i (aft n c i) t (e / n ^ (T - t)) ∧ Fr r21 σ s.2) T
    (fun q s h => by
      show L_X8_duel_109 N _ _ _ _ _ (q + 1) _ _ _ = _
      rw [L_X8_duel_109_s, ile_t (Nat.le_refl _) (by omega)])
    (fun q t s ht h => by
      obtain ⟨v, τ⟩ := s
      obtain ⟨hv, c', h1, h2, h3, h4, h5⟩ := h
      dsimp only at hv h1 h5
      subst hv
      show ∃ s' : Int32 × Sg, L_X8_duel_109 N K a1 (nI T) a3 (nI e) (q + 1) (nI (n ^ (T - t))) (nI t) τ = L_X8_duel_109 N K a1 (nI T) a3 (nI e) q s'.1 (nI (t + 1)) s'.2 ∧ _
      have ep : n ^ (T - t) = n ^ (T - (t + 1)) * n := by rw [show T - t = T - (t + 1) + 1 by omega]; exact Nat.pow_succ _ _
      have eq1 : n ^ (T - t) / n = n ^ (T - (t + 1)) := by rw [ep, Nat.mul_div_cancel _ (by omega)]
      have hpos : 0 < n ^ (T - (t + 1)) := Nat.pow_pos (by omega)
      have hle1 := pow_b (T := T - t) hn (by omega)
      have hle2 := pow_b (T := T - (t + 1)) hn (by omega)
      have hed : e / n ^ (T - (t + 1)) ≤ e := Nat.div_le_self _ _
      have hm : e / n ^ (T - (t + 1)) % n < n := Nat.mod_lt _ (by omega)
      have edd : e / n ^ (T - (t + 1)) / n = e / n ^ (T - t) := by rw [Nat.div_div_eq_div_mul, ← ep]
      rw [L_X8_duel_109_s, ile_f ht (by omega), h1.1, show (decide (¬ nI n = 0)) = true from decide_eq_true (nI_ne0 (by omega) (by omega)), pk_div (by omega) (by omega) (by omega), eq1, show (decide (¬ nI (n ^ (T - (t + 1))) = 0)) = true from decide_eq_true (nI_ne0 hpos (by omega)), pk_div (by omega) hpos (by omega), pk_rem (by omega) (by omega) (by omega), nI_1]
      show ∃ s' : Int32 × Sg, (f_X8_placeIf N _ τ).bind _ = _ ∧ _
      generalize hj : e / n ^ (T - (t + 1)) % n = j at *
      have hp := (h2.2.1 j hm).2.1
      obtain ⟨υ, g1, g2, g3⟩ := sp_comesTo (N := N) (σ := τ) (ai := 21) (fr := c' j 5) (to_ := n - 1) rfl (by omega) (by omega) (by omega)
      rw [sp_placeIf h1.2.2 h2 hm (by omega), Option.bind_some]
      dsimp only
      rw [h1.1, n1, pk_sub (by omega), g1, Option.bind_some]
      refine ⟨(nI (n ^ (T - (t + 1))), υ), rfl, rfl, plc c' j (n - 1), ⟨((g3 21 0 0 10 (by omega)).1).trans h1.1, fun k hk => ?_, og_mod (g := fun k => rI τ 22 21 0 k) h1.2.2 h2 hm (by omega) g2 (fun k hk hr => (g3 22 21 0 k (by omega)).1)⟩, okS_plc h2 hm (by omega), sp5_plc h3 _ _, ?_, h5.tr (R' := r21) (fun t i j hn k => g3 t i j k (fun z => hn ⟨z.1, z.2.1, z.2.2.1⟩)) (fun _ _ _ z => z) (fun _ _ _ z => z)⟩
      · obtain ⟨a, b, d⟩ := h1.2.1 k hk
        exact ⟨((g3 22 20 0 k (by omega)).1).trans a, ((g3 22 12 0 k (by omega)).1).trans b, ((g3 22 13 0 k (by omega)).1).trans d⟩
      · rw [aft_plc h2 hi hm, Sq_s, edd, hj, h4])
    T 0 (nI (n ^ T), σ) N (by omega) ⟨rfl, c, hW, ok, fun _ _ _ => rfl, rfl, Fr.rf⟩ (by omega)
  refine ⟨v, _, υ, c', e1, h1, h2, h3, ?_, h5⟩
  rw [h4, Nat.sub_self, Nat.pow_zero, Nat.div_one]
def rgE : Nat → Nat → Nat → Prop := fun t i j => rgA t i j ∨ (t = 22 ∧ i = 26 ∧ j = 0)
theorem rgE_mS {τ : Sg} (h : Fr rgE σ τ) (hS : mS σ n c) : mS τ n c := hS.fr h (by unfold rgE rgA; omega) (by unfold rgE rgA; omega) (by unfold rgE rgA; omega) (by unfold rgE rgA; omega) (by unfold rgE rgA; omega)
theorem r21_E {t i j : Nat} (h : r21 t i j) : rgE t i j := by unfold r21 at h; unfold rgE rgA; omega
theorem rgV_E {t i j : Nat} (h : rgV t i j) : rgE t i j := Or.inl (rgV_A h)
theorem mo_leaves {i T : Nat} (K : Int32 → Sg → Option (Int32 × Sg)) (hS : mS σ n c) (hW : mW σ n c) (hC : mC σ n c) (ok : okS n c) (hi : i < n) (hn2 : 2 ≤ n) (hT : T ≤ 4) (hN : 3000 < N) :
    ∃ v υ, L_X8_duel_59 N K (nI i) (nI T) (nI (n ^ T)) N 0 σ = K v υ ∧ Fr rgE σ υ ∧ ∀ x, x < n ^ T → rI υ 22 26 0 x = nI (g0 n c i (Sq n i (aft n c i) T x)) := by
  have hn := ok.1
  have hb := pow_b hn hT
  obtain ⟨υ, e, -, -, h1, h2⟩ := up_rel (fun q v τ => L_X8_duel_59 N K (nI i) (nI T) (nI (n ^ T)) q v τ) K
    (fun e τ => (∃ c', sp5 c' c ∧ mW τ n c') ∧ mC τ n c ∧ Fr rgE σ τ ∧ ∀ x, x < e → rI τ 22 26 0 x = nI (g0 n c i (Sq n i (aft n c i) T x))) (n ^ T)
    (fun q τ h => by
      show L_X8_duel_59 N _ _ _ _ (q + 1) _ _ = _
      rw [L_X8_duel_59_s, ile_t (Nat.le_refl _) (by omega)])
    (fun q e τ he h => by
      obtain ⟨⟨c', s1, w1⟩, cc, h1, h2⟩ := h
      obtain ⟨v, υ, a1, a2, a3⟩ := mo_copy (N := N) (fun v5_6 σ_6 => L_X8_duel_109 N (fun v5_9 v6_9 σ_9 => (f_X8_seeing N σ_9).bind (fun w10 => (f_X8_cellsOf N (nI i) w10).bind (fun w11 => gd (ib (nI e) 2401) (L_X8_duel_59 N K (nI i) (nI T) (nI (n ^ T)) q (nI e + 1) (uI w11.2 22 26 0 (nI e).toNatClampNeg w11.1))))) (nI i) (nI T) (nI (n ^ T)) (nI e) N (nI (n ^ T)) (0 : Int32) σ_6) (rgE_mS h1 hS) w1 s1 ok (nI i) (nI T) (nI (n ^ T)) (nI e) (by omega)
      obtain ⟨v2, w2, ω, c2, b1, b2, b3, b4, b5, b6⟩ := mo_turns (N := N) (e := e) (fun v5_9 v6_9 σ_9 => (f_X8_seeing N σ_9).bind (fun w10 => (f_X8_cellsOf N (nI i) w10).bind (fun w11 => gd (ib (nI e) 2401) (L_X8_duel_59 N K (nI i) (nI T) (nI (n ^ T)) q (nI e + 1) (uI w11.2 22 26 0 (nI e).toNatClampNeg w11.1))))) a2 ok hi hn2 hT he (nI i) (nI (n ^ T)) (by omega)
      have cc2 : mC ω n c := (cc.fr a3 (by unfold r21; omega) (by unfold r21; omega)).fr b6 (by unfold r21; omega) (by unfold r21; omega)
      obtain ⟨ψ, d1, d2, d3⟩ := sp_seeing (N := N) b2 (mC_5 cc2 b4) b3 (by omega)
      have d4 := sp_cellsOf (N := N) d2 hi hn (by omega)
      rw [leaf b3 b4 hi, b5] at d4
      have f5 : Fr rgE σ ψ := ((h1.tr a3 (fun _ _ _ z => z) (fun _ _ _ z => r21_E z)).tr b6 (fun _ _ _ z => z) (fun _ _ _ z => r21_E z)).tr d3 (fun _ _ _ z => z) (fun _ _ _ z => rgV_E z)
      refine ⟨uI ψ 22 26 0 e (nI (g0 n c i (Sq n i (aft n c i) T e))), ?_, ⟨c2, b4, (rgV_mW d3 b2 : mW ψ n c2)⟩, (rgV_mC d3 cc2 : mC ψ n c), f5.uI (Or.inr ⟨rfl, rfl, rfl⟩), fun x hx => ?_⟩
      · show L_X8_duel_59 N K (nI i) (nI T) (nI (n ^ T)) (q + 1) (nI e) τ = L_X8_duel_59 N K (nI i) (nI T) (nI (n ^ T)) q (nI (e + 1)) _
        rw [L_X8_duel_59_s, ile_f he (by omega), a1]
        rw [b1, d1, Option.bind_some, d4, Option.bind_some, gi (by omega) (by decide), nI_clamp (by omega), nI_1]
      · rw [rI_uI]
        by_cases e2 : x = e
        · subst e2; rw [if_pos ⟨rfl, rfl, rfl, rfl⟩]
        · rw [if_neg (fun z => e2 z.2.2.2), (d3 22 26 0 (by unfold rgV; omega) x).1, (b6 22 26 0 (by unfold r21; omega) x).1, (a3 22 26 0 (by unfold r21; omega) x).1]
          exact h2 x (by omega))
    (n ^ T) 0 σ N (by omega) ⟨⟨c, fun _ _ _ => rfl, hW⟩, hC, Fr.rf, fun x hx => by omega⟩ (by omega)
  exact ⟨_, υ, e, h1, h2⟩
theorem mo_d223 {k e : Nat} {f : Nat → Nat} (K : Int32 → Int32 → Option (Int32 × Sg)) (h0 : rI σ 21 0 0 10 = nI n) (hn : n ≤ 7) (hn2 : 2 ≤ n) (hk : k ≤ 4) (he : n * e + n ≤ 2401) (hf : ∀ j, j < n → f j ≤ 96 ∧ rI σ 22 26 0 (n * e + j) = nI (f j)) (a3 : Int32) (hN : 100 < N) :
    ∃ v, L_X8_duel_223 N K a3 (nI k) (nI e) σ N (nI (f 0)) 1 = K (nI (optV (decide (k % 2 = 0)) f (n - 1))) v := by
  have hob : ∀ m, m < n → optV (decide (k % 2 = 0)) f m ≤ 96 := fun m hm => by
    obtain ⟨⟨j, hj, e⟩, -⟩ := optV_is (decide (k % 2 = 0)) f m
    rw [e]; exact (hf j (by omega)).1
  have e1 := up_eq (fun q v a => L_X8_duel_223 N K a3 (nI k) (nI e) σ q a v) (fun v a => K a v) (fun j => nI (optV (decide (k % 2 = 0)) f (j - 1))) 1 n
    (fun q => by
      show L_X8_duel_223 N _ _ _ _ _ (q + 1) _ _ = _
      rw [L_X8_duel_223_s, h0, ile_t (Nat.le_refl _) (by omega)])
    (fun q j hj1 hj => by
      show L_X8_duel_223 N _ _ _ _ _ (q + 1) _ _ = L_X8_duel_223 N _ _ _ _ _ q _ _
      obtain ⟨m, rfl⟩ : ∃ m, j = m + 1 := ⟨j - 1, by omega⟩
      have b1 := hob m (by omega)
      obtain ⟨b2, b3⟩ := hf (m + 1) hj
      rw [L_X8_duel_223_s, h0, ile_f hj (by omega), pk_mul, nI_add, gi (by omega) (by decide), nI_clamp (by omega), b3, n2, pk_rem (by omega) (by decide) (by decide), nI_1, Nat.add_sub_cancel, Nat.add_sub_cancel]
      show _ = L_X8_duel_223 N _ _ _ _ _ q (nI (bet (decide (k % 2 = 0)) (optV (decide (k % 2 = 0)) f m) (f (m + 1)))) _
      unfold bet
      by_cases hp : k % 2 = 0
      · rw [iz_t hp, decide_eq_true hp, if_pos (show true = true from rfl)]
        rw [decide_eq_true hp] at b1
        by_cases hl : optV true f m < f (m + 1)
        · rw [ile_f hl (by omega), if_pos hl]
        · rw [ile_t (by omega) (by omega), if_neg hl]
      · rw [iz_f hp (by omega), decide_eq_false hp, if_neg Bool.false_ne_true]
        rw [decide_eq_false hp] at b1
        by_cases hl : f (m + 1) < optV false f m
        · rw [ile_f hl (by omega), if_pos hl]
        · rw [ile_t (by omega) (by omega), if_neg hl]) N (by omega) (by omega)
  exact ⟨_, e1⟩
theorem mo_d200 {i k T : Nat} {A : Nat} (K : Int32 → Sg → Option (Int32 × Sg)) (h0 : rI σ 21 0 0 10 = nI n) (hn : n ≤ 7) (hn2 : 2 ≤ n) (hk : k < T) (hT : T ≤ 4) (h : ∀ x, x < n ^ (k + 1) → rI σ 22 26 0 x = nI (dU n c i T (T - (k + 1)) (Sq n i A (k + 1) x))) (hN : 3000 < N) :
    ∃ v υ, L_X8_duel_200 N K (nI (n ^ k)) (nI k) N 0 σ = K v υ ∧ Fr (fun t i j => t = 22 ∧ i = 26 ∧ j = 0) σ υ ∧ ∀ x, x < n ^ k → rI υ 22 26 0 x = nI (dU n c i T (T - k) (Sq n i A k x)) := by
  have hb := pow_b (T := k) hn (by omega)
  have hb2 := pow_b (T := k + 1) hn (by omega)
  have ep : n ^ (k + 1) = n ^ k * n := Nat.pow_succ _ _
  obtain ⟨υ, e, h1, h2⟩ := up_rel (fun q v τ => L_X8_duel_200 N K (nI (n ^ k)) (nI k) q v τ) K
    (fun e τ => Fr (fun t i j => t = 22 ∧ i = 26 ∧ j = 0) σ τ ∧ ∀ x, x < n ^ (k + 1) → rI τ 22 26 0 x = nI (if x < e then dU n c i T (T - k) (Sq n i A k x) else dU n c i T (T - (k + 1)) (Sq n i A (k + 1) x))) (n ^ k)
    (fun q τ h => by
      show L_X8_duel_200 N _ _ _ (q + 1) _ _ = _
      rw [L_X8_duel_200_s, ile_t (Nat.le_refl _) (by omega)])
    (fun q e τ he h' => by
      obtain ⟨h1, h2⟩ := h'
      have t0 : rI τ 21 0 0 10 = nI n := ((h1 21 0 0 (by omega) 10).1).trans h0
      have hen : n * e + n ≤ n ^ (k + 1) := by
        rw [ep, Nat.mul_comm n e, ← Nat.succ_mul]
        exact Nat.mul_le_mul_right n he
      have hge : e ≤ n * e := Nat.le_mul_of_pos_left e (by omega)
      have hf : ∀ j, j < n → dU n c i T (T - (k + 1)) (upS i (Sq n i A k e) j) ≤ 96 ∧ rI τ 22 26 0 (n * e + j) = nI (dU n c i T (T - (k + 1)) (upS i (Sq n i A k e) j)) := fun j hj => by
        refine ⟨dU_le _ _ _ _ _ _, ?_⟩
        rw [h2 _ (by omega), if_neg (by omega), Sq_s, Nat.mul_add_div (by omega), Nat.div_eq_of_lt hj, Nat.mul_add_mod, Nat.mod_eq_of_lt hj]
        rfl
      have hd : dU n c i T (T - k) (Sq n i A k e) = optV (decide (k % 2 = 0)) (fun j => dU n c i T (T - (k + 1)) (upS i (Sq n i A k e) j)) (n - 1) := by
        rw [show T - k = T - (k + 1) + 1 by omega, dU_s, show T - 1 - (T - (k + 1)) = k by omega]
      obtain ⟨v, e3⟩ := mo_d223 (N := N) (σ := τ) (k := k) (e := e) (f := fun j => dU n c i T (T - (k + 1)) (upS i (Sq n i A k e) j)) (fun v6_13 v7_13 => gd (ib (nI e) 2401) (L_X8_duel_200 N K (nI (n ^ k)) (nI k) q (nI e + 1) (uI τ 22 26 0 (nI e).toNatClampNeg v6_13))) t0 hn hn2 (by omega) (by omega) hf (nI (n ^ k)) (by omega)
      refine ⟨uI τ 22 26 0 e (nI (dU n c i T (T - k) (Sq n i A k e))), ?_, h1.uI ⟨rfl, rfl, rfl⟩, fun x hx => ?_⟩
      · show L_X8_duel_200 N K (nI (n ^ k)) (nI k) (q + 1) (nI e) τ = L_X8_duel_200 N K (nI (n ^ k)) (nI k) q (nI (e + 1)) _
        have z := (hf 0 (by omega)).2
        rw [Nat.add_zero] at z
        rw [L_X8_duel_200_s, ile_f he (by omega), t0, pk_mul, gi (show n * e < 2401 by omega) (by decide), nI_clamp (show n * e < 2 ^ 31 by omega), z, e3, ← hd]
        rw [gi (by omega) (by decide), nI_clamp (by omega), nI_1]
      · rw [rI_uI]
        by_cases e2 : x = e
        · subst e2; rw [if_pos ⟨rfl, rfl, rfl, rfl⟩, if_pos (by omega)]
        · rw [if_neg (fun z => e2 z.2.2.2), h2 x hx]
          by_cases e4 : x < e
          · rw [if_pos e4, if_pos (by omega)]
          · rw [if_neg e4, if_neg (by omega)])
    (n ^ k) 0 σ N (by omega) ⟨Fr.rf, fun x hx => by rw [if_neg (by omega)]; exact h x hx⟩ (by omega)
  refine ⟨_, υ, e, h1, fun x hx => ?_⟩
  rw [h2 x (by rw [ep]; exact Nat.lt_of_lt_of_le hx (Nat.le_mul_of_pos_right _ (by omega))), if_pos hx]
theorem mo_d185 {i T : Nat} {A : Nat} (K : Int32 → Int32 → Sg → Option (Int32 × Sg)) (h0 : rI σ 21 0 0 10 = nI n) (hn : n ≤ 7) (hn2 : 2 ≤ n) (hT : T ≤ 4) (h : ∀ x, x < n ^ T → rI σ 22 26 0 x = nI (g0 n c i (Sq n i A T x))) (hN : 3000 < N) :
    ∃ a b υ, L_X8_duel_185 N K N (nI (n ^ T)) (nI T - 1) σ = K a b υ ∧ Fr (fun t i j => t = 22 ∧ i = 26 ∧ j = 0) σ υ ∧ rI υ 22 26 0 0 = nI (dU n c i T T A) := by
  refine lp_gen (fun q (s : Int32 × Int32 × Sg) => L_X8_duel_185 N K q s.1 s.2.1 s.2.2)
    (fun k s => k ≤ T ∧ s.1 = nI (n ^ k) ∧ s.2.1 = nI k - 1 ∧ Fr (fun t i j => t = 22 ∧ i = 26 ∧ j = 0) σ s.2.2 ∧ ∀ x, x < n ^ k → rI s.2.2 22 26 0 x = nI (dU n c i T (T - k) (Sq n i A k x)))
    (fun o => ∃ a b υ, o = K a b υ ∧ Fr (fun t i j => t = 22 ∧ i = 26 ∧ j = 0) σ υ ∧ rI υ 22 26 0 0 = nI (dU n c i T T A)) ?_ N T (nI (n ^ T), nI T - 1, σ) ⟨Nat.le_refl _, rfl, rfl, Fr.rf, fun x hx => by rw [Nat.sub_self]; exact h x hx⟩ (by omega)
  rintro q k ⟨v, w, τ⟩ ⟨hk, hv, hw, hF, ht⟩
  dsimp only at hv hw hF ht ⊢
  subst hv hw
  rw [L_X8_duel_185_s]
  rcases Nat.eq_zero_or_pos k with rfl | hk0
  · right
    exact ⟨_, _, τ, if_pos (by decide), hF, ht 0 (by rw [Nat.pow_zero]; decide)⟩
  · left
    obtain ⟨e, rfl⟩ : ∃ e, k = e + 1 := ⟨k - 1, by omega⟩
    have ev : nI (e + 1) - 1 = nI e := by rw [n1, pk_sub (by omega)]; rfl
    have t0 : rI τ 21 0 0 10 = nI n := ((hF 21 0 0 (by omega) 10).1).trans h0
    have hb2 := pow_b (T := e + 1) hn (by omega)
    have ep : n ^ (e + 1) / n = n ^ e := by rw [Nat.pow_succ, Nat.mul_div_cancel _ (by omega)]
    obtain ⟨v', υ, e3, f3, t3⟩ := mo_d200 (N := N) (σ := τ) (fun v5_14 σ_14 => L_X8_duel_185 N K q (nI (n ^ e)) (nI e - 1) σ_14) t0 hn hn2 (by omega) hT ht hN
    refine ⟨(nI (n ^ e), nI e - 1, υ), e, by omega, ?_, by omega, rfl, rfl, hF.tr f3 (fun _ _ _ z => z) (fun _ _ _ z => z), t3⟩
    rw [ev, if_neg (show ¬ nI e < 0 by rw [n0]; exact nI_nlt (by omega) (by omega)), t0, show (decide (¬ nI n = 0)) = true from decide_eq_true (nI_ne0 (by omega) (by omega)), pk_div (by omega) (by omega) (by omega), ep, m1_sub]
    exact e3
theorem mo_d37 {T : Nat} (K : Int32 → Int32 → Option (Int32 × Sg)) (h0 : rI σ 21 0 0 10 = nI n) (hT : T ≤ 4) (a1 : Int32) (hN : 100 < N) : ∃ v, L_X8_duel_37 N K a1 (nI T) σ N 1 0 = K (nI (n ^ T)) v := by
  have e := up_eq (fun q v a => L_X8_duel_37 N K a1 (nI T) σ q a v) (fun v a => K a v) (fun j => nI (n ^ j)) 0 T
    (fun q => by
      show L_X8_duel_37 N _ _ _ _ (q + 1) _ _ = _
      rw [L_X8_duel_37_s, ile_t (Nat.le_refl _) (by omega)])
    (fun q j _ hj => by
      show L_X8_duel_37 N _ _ _ _ (q + 1) _ _ = L_X8_duel_37 N _ _ _ _ q _ _
      rw [L_X8_duel_37_s, ile_f hj (by omega), h0, pk_mul, nI_1, Nat.pow_succ]) N (by omega) (by omega)
  exact ⟨_, e⟩
theorem rgE_sc {t i j k : Nat} (h : rgE t i j) : scR t i j k := by
  rcases h with h | h
  · exact rgA_sc h
  · unfold scR; omega
theorem st_duel (p0 p1 : Int32) (hN : 3000 < N) : StepI (f_X7_duel N p0 p1) (f_X8_duel N p0 p1) := by
  intro σ hI
  obtain ⟨n, nd, D, hs⟩ := hI.2.2.2.2.2
  have ok := hs.ok
  have hn := ok.1
  have hs2 : iScr (th0 σ) n nd D := hs.q (tl_sc th0_fr)
  have z0 : (0 : Int32).toInt = 0 := by decide
  have z4 : (4 : Int32).toInt = 4 := by decide
  have l1 : (p1 < (0 : Int32)) ↔ p1.toInt < 0 := by rw [fa_lt, z0]
  have l2 : (p1 ≤ (4 : Int32)) ↔ p1.toInt ≤ 4 := by rw [fa_le, z4]
  have c0 : f_X7_duel N p0 p1 σ = (if (0 ≤ p0.toInt ∧ p0.toInt < (n : Nat)) then (if p1.toInt < 0 then (some ((-1 : Int32), σ)) else (if p1.toInt ≤ 4 then ((f_X6_cellsInTheEnd N 0 p0 p1 σ).bind (fun w2 => some (w2.1, w2.2))) else (some ((-1 : Int32), σ)))) else some (-1, σ)) := by
    unfold f_X7_duel
    rw [sp_has hs.scr hn, Option.bind_some, b2n_z]
    simp only [l1, l2]
    by_cases a : 0 ≤ p0.toInt ∧ p0.toInt < (n : Nat)
    · rw [decide_eq_true a, if_pos rfl, if_pos a]
    · rw [decide_eq_false a, if_neg (by decide), if_neg a]
  have m0 : ∀ τ, mS (th0 τ) n (D nd) → f_X8_duel N p0 p1 τ = (if (0 ≤ p0.toInt ∧ p0.toInt < (n : Nat)) then (if (0 ≤ p1.toInt ∧ p1.toInt ≤ 4) then ((f_X8_asNow N (th0 τ)).bind (fun w3 => (f_X8_coveringAll N w3).bind (fun w4 => L_X8_duel_37 N (fun v3_5 v4_5 => L_X8_duel_59 N (fun v4_12 σ_12 => L_X8_duel_185 N (fun v3_15 v4_15 σ_15 => gd (ib (0 : Int32) 2401) (some (rI σ_15 22 26 0 (0 : Int32).toNatClampNeg, σ_15))) N v3_5 (p1 - (1 : Int32)) σ_12) p0 p1 v3_5 N (0 : Int32) w4) p0 p1 w4 N (1 : Int32) (0 : Int32)))) else some (-1, th0 τ)) else some (-1, th0 τ)) := by
    intro τ hm
    unfold f_X8_duel
    rw [← th0, sp_isPane hm.1 hn, Option.bind_some, b2n_z]
    by_cases a : 0 ≤ p0.toInt ∧ p0.toInt < (n : Nat)
    · rw [decide_eq_true a, if_pos rfl, if_pos a]
      dsimp only
      rw [sp_in, Option.bind_some, b2n_z, z0, z4]
      by_cases b : 0 ≤ p1.toInt ∧ p1.toInt ≤ 4
      · rw [decide_eq_true b, if_pos rfl, if_pos b]
      · rw [decide_eq_false b, if_neg (by decide), if_neg b]
    · rw [decide_eq_false a, if_neg (by decide), if_neg a]
  by_cases a : 0 ≤ p0.toInt ∧ p0.toInt < (n : Nat)
  · by_cases b : 0 ≤ p1.toInt ∧ p1.toInt ≤ 4
    · obtain ⟨i, hi, rfl⟩ := in_nI a (by omega)
      obtain ⟨T, hT, rfl⟩ := in_nI (p := p1) (n := 5) ⟨b.1, by omega⟩ (by decide)
      have hn2 : 2 ≤ n := by rcases hs.1 with h | h <;> omega
      obtain ⟨τ, e1, f1⟩ := cl_duel (N := N) (T := T) hs.scr ok hi (by omega) (by omega)
      have q0 : Fq scR σ (th0 τ) := (f1.q (fun t i j k z => by unfold rg7 at z; unfold scR; omega)).tr th0_fr (fun _ _ _ _ z => z) (fun _ _ _ _ z => z)
      have hm : mS (th0 τ) n (D nd) := (hs.q (tl_sc q0)).mS
      obtain ⟨τ1, a1, w1, g1⟩ := sp_asNow (N := N) (by omega) hm ok
      obtain ⟨τ2, a2, w2, cc2, g2⟩ := sp_coveringAll (N := N) w1 ok (by omega)
      have fA : Fr rgA (th0 τ) τ2 := g1.tr g2 (fun _ _ _ z => rgW_A z) (fun _ _ _ z => rgC_A z)
      obtain ⟨v5, b5⟩ := mo_d37 (N := N) (T := T) (σ := τ2) (n := n) (fun v3_5 v4_5 => L_X8_duel_59 N (fun v4_12 σ_12 => L_X8_duel_185 N (fun v3_15 v4_15 σ_15 => gd (ib (0 : Int32) 2401) (some (rI σ_15 22 26 0 (0 : Int32).toNatClampNeg, σ_15))) N v3_5 (nI T - (1 : Int32)) σ_12) (nI i) (nI T) v3_5 N (0 : Int32) τ2) w2.1 (by omega) (nI i) (by omega)
      obtain ⟨v6, ψ, b6, f6, h6⟩ := mo_leaves (N := N) (i := i) (T := T) (fun v4_12 σ_12 => L_X8_duel_185 N (fun v3_15 v4_15 σ_15 => gd (ib (0 : Int32) 2401) (some (rI σ_15 22 26 0 (0 : Int32).toNatClampNeg, σ_15))) N (nI (n ^ T)) (nI T - (1 : Int32)) σ_12) (hm.frA fA) w2 cc2 ok hi hn2 (by omega) hN
      obtain ⟨v7, v8, ω, b7, f7, h7⟩ := mo_d185 (N := N) (fun v3_15 v4_15 σ_15 => gd (ib (0 : Int32) 2401) (some (rI σ_15 22 26 0 (0 : Int32).toNatClampNeg, σ_15))) (((f6 21 0 0 (by unfold rgE rgA; omega) 10).1).trans w2.1) hn hn2 (by omega) h6 hN
      have fE : Fr rgE (th0 τ) ω := (fA.tr f6 (fun _ _ _ z => Or.inl z) (fun _ _ _ z => z)).tr f7 (fun _ _ _ z => z) (fun _ _ _ z => Or.inr z)
      refine ⟨nI (dU n (D nd) i T T (aft n (D nd) i)), τ, ω, ?_, ?_, Inv_sc hI (q0.tr (fE.q (fun _ _ _ _ => rgE_sc)) (fun _ _ _ _ z => z) (fun _ _ _ _ z => z))⟩
      · rw [c0, if_pos a, if_neg (by omega), if_pos b.2, e1]; rfl
      · rw [m0 τ hm, if_pos a, if_pos b, a1, Option.bind_some, a2, Option.bind_some, b5]
        rw [b6, b7, n0, gi (by decide) (by decide), nI_clamp (by decide), h7]
    · refine ⟨-1, σ, th0 σ, ?_, by rw [m0 σ hs2.mS, if_pos a, if_neg b], Inv_th0 hI⟩
      rw [c0, if_pos a]
      by_cases b1 : p1.toInt < 0
      · rw [if_pos b1]
      · rw [if_neg b1, if_neg (by omega)]
  · refine ⟨-1, σ, th0 σ, by rw [c0, if_neg a], by rw [m0 σ hs2.mS, if_neg a], Inv_th0 hI⟩
end Duel2
