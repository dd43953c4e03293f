section Mod2
variable {N n : Nat} {σ : Sg} {c : Scr}
theorem pcn_le (k m : Nat) : pcn k m ≤ k := by rw [pcn_ct]; exact fb_ct_le _ _
theorem sp_ones {m : Nat} (hm : m < 9223372036854775808) (hN : 64 < N) : f_X8_ones N (lN m) σ = some (nI (pcn 63 m), σ) := by
  have hle := pcn_le 63 m
  unfold f_X8_ones
  refine lp_gen (fun q (s : Int32 × Int64) => L_X8_ones_4 N (fun v2_1 _ => some (v2_1, σ)) σ q s.1 s.2) (fun d s => ∃ k, k < 9223372036854775808 ∧ s.2 = lN k ∧ pcn 63 k = d ∧ d ≤ pcn 63 m ∧ s.1 = nI (pcn 63 m - d)) (fun o => o = some (nI (pcn 63 m), σ)) ?_ N (pcn 63 m) (0, lN m) ⟨m, hm, rfl, rfl, Nat.le_refl _, by rw [Nat.sub_self]; rfl⟩ (by omega)
  rintro q d ⟨v2, v3⟩ ⟨k, hk, h1, h2, h3, h4⟩
  simp only at h1 h4
  subst h1 h4
  dsimp only
  rw [L_X8_ones_4_s]
  rcases Nat.eq_zero_or_pos k with h0 | h0
  · right
    subst h0
    rw [pcn_0] at h2
    subst h2
    rw [if_pos ((lg_cmp_eq (lN 0) 0).mpr rfl), Nat.sub_zero]
  · left
    have hlow := pcn_low 63 k h0 hk
    refine ⟨(nI (pcn 63 m - d) + 1, lN (k &&& (k - 1))), d - 1, by omega, ?_, k &&& (k - 1), Nat.lt_of_le_of_lt Nat.and_le_left hk, rfl, by omega, by omega, ?_⟩
    · have hne : ¬ lg_cmp (lN k) 0 = 0 := fun z => by
        rw [lg_cmp_eq, show (0 : Int64) = lN 0 from rfl, fb_lN_inj hk (by decide)] at z
        omega
      rw [if_neg hne, show (1 : Int64) = lN 1 from rfl, lN_sub h0, fb_andL]
    · show nI (pcn 63 m - d) + 1 = _
      rw [nI_1, show pcn 63 m - d + 1 = pcn 63 m - (d - 1) by omega]
theorem ones_msk (P : Nat → Bool) (hN : 64 < N) : f_X8_ones N (lN (msk P 48)) σ = some (nI (fb_ct P 48), σ) := by
  have h := m48 P
  rw [sp_ones (by omega) hN, pcn_big (msk_lt P 48) (by decide), pcn_msk]
theorem ones_set (P : Nat → Bool) {k : Nat} (hk : k ≤ 7) (hN : 64 < N) : f_X8_ones N (nI (msk P k)).toInt64 σ = some (nI (fb_ct P k), σ) := by
  have h := msk_lt P k
  have h2 : 2 ^ k ≤ 2 ^ 7 := Nat.pow_le_pow_right (by decide) hk
  rw [nI_l (by omega), sp_ones (by omega) hN, pcn_big h (by omega), pcn_msk]
theorem sp_cellsOf {i : Nat} (hV : mV σ n c) (hi : i < n) (hn : n ≤ 7) (hN : 64 < N) : f_X8_cellsOf N (nI i) σ = some (nI (fb_ct (vis n c i) 96), σ) := by
  unfold f_X8_cellsOf
  simp (disch := omega) only [gi, nI_clamp, (hV i hi).1, (hV i hi).2, ones_msk _ hN, Option.bind_some]
  rw [ct96]
theorem sp_coveredOf {i : Nat} {P : Nat → Bool} (h1 : rL σ 23 22 0 i = lN (msk P 48)) (h2 : rL σ 23 23 0 i = lN (msk (fun x => P (48 + x)) 48)) (hi : i < 7) (hN : 64 < N) : f_X8_coveredOf N (nI i) σ = some (nI (fb_ct P 96), σ) := by
  unfold f_X8_coveredOf
  simp (disch := omega) only [gi, nI_clamp, h1, h2, ones_msk _ hN, Option.bind_some]
  rw [ct96]
theorem bit11 (b : Bool) : (lg_cmp (lN (if b then 1 else 0)) (1 : Int64) = 0) ↔ b = true := by
  rw [lg_cmp_eq]
  cases b <;> decide
theorem sp_isSeenAt {i x : Nat} (hV : mV σ n c) (hi : i < n) (hn : n ≤ 7) (hx : x < 96) : f_X8_isSeenAt N (nI i) (nI x) σ = some (nI (b2n (vis n c i x)), σ) := by
  unfold f_X8_isSeenAt
  simp (disch := omega) only [gi, nI_clamp, (hV i hi).1, (hV i hi).2]
  by_cases h : 48 ≤ x
  · rw [n48, ile_t h (by omega), pk_sub h, L_bitS _ (by omega), show 48 + (x - 48) = x by omega]
    simp only [bit11]
    cases vis n c i x <;> rfl
  · rw [n48, ile_f (by omega) (by omega), L_bitS _ (by omega)]
    simp only [bit11]
    cases vis n c i x <;> rfl
theorem sp_isCoverAt {i x : Nat} (hC : mC σ n c) (hi : i < n) (hn : n ≤ 7) (hx : x < 96) : f_X8_isCoverAt N (nI i) (nI x) σ = some (nI (b2n (cvr (c i) x)), σ) := by
  unfold f_X8_isCoverAt
  simp (disch := omega) only [gi, nI_clamp, (hC i hi).1, (hC i hi).2]
  by_cases h : 48 ≤ x
  · rw [n48, ile_t h (by omega), pk_sub h, L_bitS _ (by omega), show 48 + (x - 48) = x by omega]
    simp only [bit11]
    cases cvr (c i) x <;> rfl
  · rw [n48, ile_f (by omega) (by omega), L_bitS _ (by omega)]
    simp only [bit11]
    cases cvr (c i) x <;> rfl
theorem mo_whoAt {x : Nat} (h0 : rI σ 21 0 0 10 = nI n) (hV : mV σ n c) (hn : n ≤ 7) (hx : x < 96) (hN : 7 < N) : f_X8_whoAt N (nI x) σ = some (whoI n c x n, σ) := by
  unfold f_X8_whoAt
  refine up_eq (fun m v a => L_X8_whoAt_4 N (fun v2_2 _ σ_2 => some (v2_2, σ_2)) (nI x) m a v σ) (fun _ a => some (a, σ)) (fun j => whoI n c x j) 0 n ?_ ?_ N (by omega) (by omega)
  · intro m
    show L_X8_whoAt_4 N _ (nI x) (m + 1) _ _ _ = _
    rw [L_X8_whoAt_4_s, h0, ile_t (Nat.le_refl _) (by omega)]
  · intro m j _ hj
    show L_X8_whoAt_4 N _ (nI x) (m + 1) _ _ _ = L_X8_whoAt_4 N _ (nI x) m _ _ _
    rw [L_X8_whoAt_4_s, h0, ile_f hj (by omega), sp_isSeenAt hV hj hn hx, nI_1]
    simp only [Option.bind_some, b2n_z, whoI_s]
    cases vis n c j x <;> rfl
theorem mo_manySeen (h0 : rI σ 21 0 0 10 = nI n) (hV : mV σ n c) (hn : n ≤ 7) (hN : 7 < N) : f_X8_manySeen N σ = some (nI (fb_ct (fun i => anyb (vis n c i) 96) n), σ) := by
  unfold f_X8_manySeen
  refine up_eq (fun m v a => L_X8_manySeen_4 N (fun v2_2 _ => some (v2_2, σ)) σ m a v) (fun _ a => some (a, σ)) (fun j => nI (fb_ct (fun i => anyb (vis n c i) 96) j)) 0 n ?_ ?_ N (by omega) (by omega)
  · intro m
    show L_X8_manySeen_4 N _ σ (m + 1) _ _ = _
    rw [L_X8_manySeen_4_s, h0, ile_t (Nat.le_refl _) (by omega)]
  · intro m j _ hj
    show L_X8_manySeen_4 N _ σ (m + 1) _ _ = L_X8_manySeen_4 N _ σ m _ _
    rw [L_X8_manySeen_4_s, h0, ile_f hj (by omega)]
    simp (disch := omega) only [gi, nI_clamp, (hV j hj).1, (hV j hj).2, L_or, nI_1 j]
    have e : (lg_cmp (lN (msk (fun i => vis n c j i || vis n c j (48 + i)) 48)) 0 = 0) ↔ anyb (vis n c j) 96 = false := by
      rw [lg_cmp_eq, L_zero]
      constructor
      · intro h
        cases ha : anyb (vis n c j) 96 with
        | false => rfl
        | true =>
          obtain ⟨x, hx, hv⟩ := anyb_iff.mp ha
          by_cases h48 : x < 48
          · have := h x h48
            rw [hv] at this; cases this
          · have := h (x - 48) (by omega)
            rw [show 48 + (x - 48) = x by omega, hv] at this
            simp at this
      · intro h x hx
        cases hv : vis n c j x || vis n c j (48 + x) with
        | false => rfl
        | true =>
          have : anyb (vis n c j) 96 = true := by
            rw [Bool.or_eq_true] at hv
            rcases hv with hv | hv
            · exact anyb_iff.mpr ⟨x, by omega, hv⟩
            · exact anyb_iff.mpr ⟨48 + x, by omega, hv⟩
          rw [this] at h; cases h
    simp only [e]
    cases ha : anyb (vis n c j) 96 with
    | false => rw [if_pos rfl, ct_f0 (p := fun i => anyb (vis n c i) 96) ha]
    | true => rw [if_neg (by decide), ct_t (p := fun i => anyb (vis n c i) 96) ha]
/-- where one is open and covers, one is seen -/
theorem some_vis {x : Nat} (ok : okS n c) : ∀ d j, j < n → 14 - rk (c j) ≤ d → opn c j = true → cvr (c j) x = true → ∃ i, i < n ∧ vis n c i x = true := by
  intro d
  induction d with
  | zero =>
    intro j hj hd
    have := rk_lt ok hj
    omega
  | succ d ih =>
    intro j hj hd ho hc
    cases hv : vis n c j x with
    | true => exact ⟨j, hj, hv⟩
    | false =>
      have : ∃ k, k < n ∧ opn c k = true ∧ cvr (c k) x = true ∧ rk (c j) < rk (c k) := by
        unfold vis vo at hv
        rw [ho, hc, Bool.true_and, Bool.true_and, Bool.not_eq_false'] at hv
        obtain ⟨k, hk, h⟩ := anyb_iff.mp hv
        simp only [Bool.and_eq_true, decide_eq_true_eq] at h
        exact ⟨k, hk, h.1.1, h.2, h.1.2⟩
      obtain ⟨k, hk, h1, h2, h3⟩ := this
      have := rk_lt ok hk
      exact ih k hk (by omega) h1 h2
theorem any_vis (ok : okS n c) (x : Nat) : anyb (fun i => vis n c i x) n = anyb (fun j => opn c j && cvr (c j) x) n := by
  rw [Bool.eq_iff_iff, anyb_iff, anyb_iff]
  constructor
  · rintro ⟨i, hi, h⟩
    rw [vis_iff] at h
    exact ⟨i, hi, by rw [h.1, h.2.1]; rfl⟩
  · rintro ⟨j, hj, h⟩
    rw [Bool.and_eq_true] at h
    exact some_vis ok 14 j hj (by omega) h.1 h.2
def sumv (n : Nat) (c : Scr) : Nat → Nat
  | 0 => 0
  | j + 1 => sumv n c j + fb_ct (vis n c j) 96
theorem sumv_s (n : Nat) (c : Scr) (j : Nat) : sumv n c (j + 1) = sumv n c j + fb_ct (vis n c j) 96 := rfl
theorem sumv_ct (ok : okS n c) : ∀ j, j ≤ n → sumv n c j = fb_ct (fun x => anyb (fun i => vis n c i x) j) 96 := by
  intro j
  induction j with
  | zero => intro _; exact (fb_ct_zero.mpr (fun _ _ => rfl)).symm
  | succ j ih =>
    intro hj
    rw [sumv_s, ih (by omega), ← fb_ct_or]
    · exact fb_ct_cong (fun x _ => (anyb_s _ _).symm)
    · rintro x _ ⟨h1, h2⟩
      obtain ⟨i, hi, h⟩ := anyb_iff.mp h1
      have := vis_one ok (show i < n by omega) (show j < n by omega) h h2
      omega
theorem mo_shown (h0 : rI σ 21 0 0 10 = nI n) (hV : mV σ n c) (ok : okS n c) (hN : 64 < N) : f_X8_shown N σ = some (nI (fb_ct (fun x => anyb (fun j => opn c j && cvr (c j) x) n) 96), σ) := by
  have hn := ok.1
  unfold f_X8_shown
  rw [show fb_ct (fun x => anyb (fun j => opn c j && cvr (c j) x) n) 96 = sumv n c n by rw [sumv_ct ok n (Nat.le_refl _)]; exact fb_ct_cong (fun x _ => (any_vis ok x).symm)]
  refine up_eq (fun m v a => L_X8_shown_4 N (fun v2_2 _ σ_2 => some (v2_2, σ_2)) m a v σ) (fun _ a => some (a, σ)) (fun j => nI (sumv n c j)) 0 n ?_ ?_ N (by omega) (by omega)
  · intro m
    show L_X8_shown_4 N _ (m + 1) _ _ _ = _
    rw [L_X8_shown_4_s, h0, ile_t (Nat.le_refl _) (by omega)]
  · intro m j _ hj
    show L_X8_shown_4 N _ (m + 1) _ _ _ = L_X8_shown_4 N _ m _ _ _
    rw [L_X8_shown_4_s, h0, ile_f hj (by omega), sp_cellsOf hV hj hn hN, sumv_s, ← nI_add, nI_1]
    rfl
/-- the place of a pane, looked up in the order -/
theorem ord_ne {g : Nat → Int32} (hg : isMod g n c) (ok : okS n c) {i k : Nat} (hi : i < n) (hk : k < c i 5) : g (14 + k) ≠ nI i := by
  have hp := (ok.2.1 i hi).2.1
  have hn := ok.1
  obtain ⟨j, hj, e⟩ := ord_at ok (show k < n by omega)
  intro h
  have h2 := (hg.1 j hj).2.2
  rw [e, h, nI_eq (by omega) (by omega)] at h2
  subst h2
  omega
theorem sp_placeOf {i : Nat} (hg : isMod (fun k => rI σ 22 14 0 k) n c) (ok : okS n c) (hi : i < n) (hN : 7 < N) : f_X8_placeOf N (nI i) σ = some (nI (c i 5), σ) := by
  have hp := (ok.2.1 i hi).2.1
  have hn := ok.1
  unfold f_X8_placeOf
  refine lp_gen (fun q v => L_X8_placeOf_2 N (fun v2_1 => some (v2_1, σ)) (nI i) σ q v) (fun d v => ∃ k, k + d = c i 5 ∧ v = nI k) (fun o => o = some (nI (c i 5), σ)) ?_ N (c i 5) 0 ⟨0, by omega, rfl⟩ (by omega)
  rintro q d v ⟨k, hk, rfl⟩
  show (∃ s' d', d' < d ∧ L_X8_placeOf_2 N _ (nI i) σ (q + 1) _ = L_X8_placeOf_2 N _ (nI i) σ q s' ∧ _) ∨ L_X8_placeOf_2 N _ (nI i) σ (q + 1) _ = _
  rw [L_X8_placeOf_2_s]
  simp (disch := omega) only [n14, nI_add, gi, nI_clamp, nI_1]
  rcases Nat.eq_zero_or_pos d with h0 | h0
  · right
    have e : k = c i 5 := by omega
    subst e
    have := (hg.1 i hi).2.2
    simp only at this
    rw [if_pos this]
  · left
    have hne := ord_ne hg ok hi (show k < c i 5 by omega)
    exact ⟨nI (k + 1), d - 1, by omega, by rw [if_neg hne], k + 1, by omega, rfl⟩
theorem sp_placeIf {i : Nat} (hg : isMod (fun k => rI σ 22 21 0 k) n c) (ok : okS n c) (hi : i < n) (hN : 7 < N) : f_X8_placeIf N (nI i) σ = some (nI (c i 5), σ) := by
  have hp := (ok.2.1 i hi).2.1
  have hn := ok.1
  unfold f_X8_placeIf
  refine lp_gen (fun q v => L_X8_placeIf_2 N (fun v2_1 => some (v2_1, σ)) (nI i) σ q v) (fun d v => ∃ k, k + d = c i 5 ∧ v = nI k) (fun o => o = some (nI (c i 5), σ)) ?_ N (c i 5) 0 ⟨0, by omega, rfl⟩ (by omega)
  rintro q d v ⟨k, hk, rfl⟩
  show (∃ s' d', d' < d ∧ L_X8_placeIf_2 N _ (nI i) σ (q + 1) _ = L_X8_placeIf_2 N _ (nI i) σ q s' ∧ _) ∨ L_X8_placeIf_2 N _ (nI i) σ (q + 1) _ = _
  rw [L_X8_placeIf_2_s]
  simp (disch := omega) only [n14, nI_add, gi, nI_clamp, nI_1]
  rcases Nat.eq_zero_or_pos d with h0 | h0
  · right
    have e : k = c i 5 := by omega
    subst e
    have := (hg.1 i hi).2.2
    simp only at this
    rw [if_pos this]
  · left
    have hne := ord_ne hg ok hi (show k < c i 5 by omega)
    exact ⟨nI (k + 1), d - 1, by omega, by rw [if_neg hne], k + 1, by omega, rfl⟩
theorem sp_isOver {i j : Nat} (hS : mS σ n c) (ok : okS n c) (hi : i < n) (hj : j < n) (hN : 7 < N) : f_X8_isOver N (nI i) (nI j) σ = some (nI (b2n (decide (rk (c j) < rk (c i)))), σ) := by
  have hn := ok.1
  have pi := (ok.2.1 i hi).2.1
  have pj := (ok.2.1 j hj).2.1
  have ki := (ok.2.1 i hi).1.1
  have kj := (ok.2.1 j hj).1.1
  unfold f_X8_isOver
  simp (disch := omega) only [gi, nI_clamp, (hS.2.1 i hi).1, (hS.2.1 j hj).1, sp_placeOf hS.2.2 ok hi hN, sp_placeOf hS.2.2 ok hj hN, Option.bind_some]
  unfold rk
  by_cases h1 : c i 0 = 3 <;> by_cases h2 : c j 0 = 3
  · rw [n3, ieq_t h1, ieq_t h2, if_pos h1, if_pos h2]
    by_cases h : c i 5 ≤ c j 5
    · rw [ile_t h (by omega), decide_eq_false (by omega)]; rfl
    · rw [ile_f (by omega) (by omega), decide_eq_true (by omega)]; rfl
  · rw [n3, ieq_t h1, ieq_f h2 (by omega) (by decide), if_pos h1, if_neg h2, decide_eq_true (by omega)]; rfl
  · rw [n3, ieq_f h1 (by omega) (by decide), ieq_t h2, if_neg h1, if_pos h2, decide_eq_false (by omega)]; rfl
  · rw [n3, ieq_f h1 (by omega) (by decide), ieq_f h2 (by omega) (by decide), if_neg h1, if_neg h2]
    by_cases h : c i 5 ≤ c j 5
    · rw [ile_t h (by omega), decide_eq_false (by omega)]; rfl
    · rw [ile_f (by omega) (by omega), decide_eq_true (by omega)]; rfl
theorem ior0 (a : Int32) : a ||| (0 : Int32) = a := Int32.or_zero
theorem share_iff {i j : Nat} : ((¬ lN (msk (fun x => cvr (c i) x && cvr (c j) x) 48) = 0) ∨ (¬ lN (msk (fun x => cvr (c i) (48 + x) && cvr (c j) (48 + x)) 48) = 0)) ↔ anyb (fun x => cvr (c i) x && cvr (c j) x) 96 = true := by
  rw [L_zero, L_zero, anyb_iff]
  constructor
  · rintro (h | h)
    · obtain ⟨x, hx⟩ := Classical.not_forall.mp h
      obtain ⟨hx1, hx2⟩ := Classical.not_imp.mp hx
      exact ⟨x, by omega, by simpa using hx2⟩
    · obtain ⟨x, hx⟩ := Classical.not_forall.mp h
      obtain ⟨hx1, hx2⟩ := Classical.not_imp.mp hx
      exact ⟨48 + x, by omega, by simpa using hx2⟩
  · rintro ⟨x, hx, h⟩
    by_cases h48 : x < 48
    · left; intro hz
      rw [hz x h48] at h; cases h
    · right; intro hz
      have := hz (x - 48) (by omega)
      rw [show 48 + (x - 48) = x by omega, h] at this; cases this
theorem sp_overIt {i : Nat} (hS : mS σ n c) (hC : mC σ n c) (ok : okS n c) (hi : i < n) (hN : 7 < N) : f_X8_overIt N (nI i) σ = some (nI (msk (itw n c i) n), σ) := by
  have hn := ok.1
  unfold f_X8_overIt
  refine up_eq (fun m v a => L_X8_overIt_4 N (fun v2_2 _ σ_2 => some (v2_2, σ_2)) (nI i) m a v σ) (fun _ a => some (a, σ)) (fun j => nI (msk (itw n c i) j)) 0 n ?_ ?_ N (by omega) (by omega)
  · intro m
    show L_X8_overIt_4 N _ (nI i) (m + 1) _ _ _ = _
    rw [L_X8_overIt_4_s, hS.1, ile_t (Nat.le_refl _) (by omega)]
  · intro m j _ hj
    show L_X8_overIt_4 N _ (nI i) (m + 1) _ _ _ = L_X8_overIt_4 N _ (nI i) m _ _ _
    have g21 : rI σ 22 14 0 21 = nI (msk (opn c) n) := hS.2.2.2
    rw [L_X8_overIt_4_s, hS.1, ile_f hj (by omega)]
    simp (disch := omega) only [gi, nI_clamp, gi21, cl21, g21, has_bit hj hn, Option.bind_some, b2n_z, ior0, sp_isOver hS ok hj hi hN, (hC i hi).1, (hC i hi).2, (hC j hj).1, (hC j hj).2, L_and, nI_1 j, lg_cmp_eq, decide_eq_true_eq]
    by_cases hij : j = i
    · rw [ieq_t hij, msk_f]
      unfold itw
      rw [hij, decide_eq_false (Nat.lt_irrefl _)]; simp
    · rw [ieq_f hij (by omega) (by omega)]
      cases ho : opn c j with
      | false =>
        rw [msk_f (by unfold itw; rw [ho]; rfl)]; rfl
      | true =>
        rw [if_pos rfl]
        by_cases hr : rk (c i) < rk (c j)
        · rw [if_pos hr]
          by_cases hz : anyb (fun x => cvr (c i) x && cvr (c j) x) 96 = true
          · have hw := share_iff.mpr hz
            rw [← msk_t (p := itw n c i) (by unfold itw; rw [ho, hz, decide_eq_true hr]; rfl) (by omega)]
            by_cases z1 : lN (msk (fun x => cvr (c i) x && cvr (c j) x) 48) = 0
            · rw [if_pos z1, if_neg (by rcases hw with h | h; exact absurd z1 h; exact h)]
            · rw [if_neg z1]
          · have z1 : lN (msk (fun x => cvr (c i) x && cvr (c j) x) 48) = 0 := Classical.byContradiction (fun h => hz (share_iff.mp (Or.inl h)))
            have z2 : lN (msk (fun x => cvr (c i) (48 + x) && cvr (c j) (48 + x)) 48) = 0 := Classical.byContradiction (fun h => hz (share_iff.mp (Or.inr h)))
            rw [if_pos z1, if_pos z2, msk_f]
            unfold itw
            rw [Bool.not_eq_true _ |>.mp hz, Bool.and_false]
        · rw [if_neg hr, msk_f (by unfold itw; rw [decide_eq_false hr]; simp)]
theorem mS.fr {R : Nat → Nat → Nat → Prop} {τ : Sg} (h : Fr R σ τ) (hS : mS σ n c) (h1 : ¬ R 21 0 0) (h11 : ¬ R 22 11 0) (h12 : ¬ R 22 12 0) (h13 : ¬ R 22 13 0) (h14 : ¬ R 22 14 0) : mS τ n c := by
  obtain ⟨s0, s1, s2, s3⟩ := hS
  refine ⟨((h 21 0 0 h1 10).1).trans s0, fun i hi => ?_, fun i hi => ?_, ((h 22 14 0 h14 21).1).trans s3⟩
  · obtain ⟨a0, a1, a2⟩ := s1 i hi
    exact ⟨((h 22 11 0 h11 i).1).trans a0, ((h 22 12 0 h12 i).1).trans a1, ((h 22 13 0 h13 i).1).trans a2⟩
  · obtain ⟨a0, a1, a2⟩ := s2 i hi
    exact ⟨((h 22 14 0 h14 i).1).trans a0, ((h 22 14 0 h14 (7 + i)).1).trans a1, ((h 22 14 0 h14 (14 + c i 5)).1).trans a2⟩
theorem mC.fr {R : Nat → Nat → Nat → Prop} {τ : Sg} (h : Fr R σ τ) (hC : mC σ n c) (h22 : ¬ R 23 22 0) (h23 : ¬ R 23 23 0) : mC τ n c :=
  fun i hi => ⟨((h 23 22 0 h22 i).2).trans (hC i hi).1, ((h 23 23 0 h23 i).2).trans (hC i hi).2⟩
/-- what the reference may write over while it looks -/
def rgA : Nat → Nat → Nat → Prop := fun t i j => (t = 22 ∧ (i = 20 ∨ i = 21) ∧ j = 0) ∨ (t = 23 ∧ j = 0)
theorem rgW_A {t i j : Nat} (h : rgW t i j) : rgA t i j := Or.inl h
theorem rgC_A {t i j : Nat} (h : rgC t i j) : rgA t i j := Or.inr ⟨h.1, h.2.2⟩
theorem rgV_A {t i j : Nat} (h : rgV t i j) : rgA t i j := Or.inr ⟨h.1, h.2.2⟩
theorem mS.frA {τ : Sg} (h : Fr rgA σ τ) (hS : mS σ n c) : mS τ n c :=
  hS.fr h (fun z => by rcases z with z | z <;> exact absurd z.1 (by decide)) (fun z => by rcases z with z | z; exact absurd z.2.1 (by decide); exact absurd z.1 (by decide)) (fun z => by rcases z with z | z; exact absurd z.2.1 (by decide); exact absurd z.1 (by decide)) (fun z => by rcases z with z | z; exact absurd z.2.1 (by decide); exact absurd z.1 (by decide)) (fun z => by rcases z with z | z; exact absurd z.2.1 (by decide); exact absurd z.1 (by decide))
theorem sp_sees (hS : mS σ n c) (ok : okS n c) (hN : 64 < N) : ∃ τ, f_X8_sees N σ = some τ ∧ mS τ n c ∧ mW τ n c ∧ mC τ n c ∧ mV τ n c ∧ Fr rgA σ τ := by
  obtain ⟨τ1, e1, w1, f1⟩ := sp_asNow (N := N) (by omega) hS ok
  obtain ⟨τ2, e2, w2, c2, f2⟩ := sp_coveringAll (N := N) w1 ok (by omega)
  obtain ⟨τ3, e3, v3, f3⟩ := sp_seeing (N := N) w2 c2 ok (by omega)
  have f : Fr rgA σ τ3 := (f1.tr f2 (fun _ _ _ => rgW_A) (fun _ _ _ => rgC_A)).tr f3 (fun _ _ _ z => z) (fun _ _ _ => rgV_A)
  refine ⟨τ3, ?_, hS.frA f, w2.fr f3 (fun z => absurd z.1 (by decide)) (fun _ z => absurd z.1 (by decide)), c2.fr f3 (fun z => absurd z.2.1 (by decide)) (fun z => absurd z.2.1 (by decide)), v3, f⟩
  unfold f_X8_sees
  rw [e1]
  simp only [Option.bind_some]
  rw [e2]
  simp only [Option.bind_some]
  rw [e3]
  rfl
end Mod2
