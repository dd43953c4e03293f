section Undo
variable {N n nd : Nat} {σ : Sg} {D : Nat → Scr} {c : Scr}
theorem okH_at {m : Nat} (h : okH n nd D (D nd)) (hm : m ≤ nd) : okH n m D (D m) :=
  ⟨by have := h.1; omega, fun d hd => ⟨(h.2 d (by omega)).1, (h.2 d (by omega)).2.tr (h.2 m hm).2.sy⟩⟩
theorem cl_undo {m : Nat} (h : cH σ 0 0 n nd D) (oks : ∀ d, d ≤ nd → okS n (D d)) (hd : nd ≤ 40) (hm : m ≤ nd) (hN : 100 < N) : ∃ τ, f_X7_undo N (nI m) σ = some (nI (nd - m), τ) ∧ cH τ 0 0 n m D ∧ Fq cdR σ τ := by
  unfold f_X7_undo
  rw [h.2.1, if_neg (nI_pos (by omega)), ile_t hm (by omega), pk_sub hm]
  obtain ⟨τ, e, h1, h2⟩ := up_rel (fun q v τ => L_X7_undo_29 N (fun _ σ_2 => some (nI (nd - m), σ_2)) (nI (nd - m)) q v τ) (fun _ τ => some (nI (nd - m), τ)) (fun k τ => cH τ 0 0 n (nd - k) D ∧ Fq cdR σ τ) (nd - m)
    (fun q τ h => by
      show L_X7_undo_29 N _ _ (q + 1) _ _ = _
      rw [L_X7_undo_29_s, ile_t (Nat.le_refl _) (by omega)])
    (fun q k τ hk h => by
      obtain ⟨e1, e2⟩ : nd - k = (nd - (k + 1)) + 1 ∧ nd - (k + 1) < 40 := by omega
      have hc := h.1
      rw [e1] at hc
      obtain ⟨υ, x1, x2, x3, x4⟩ := sp_takeBack (N := N) hc.1 (oks _ (by omega)) (oks (nd - (k + 1)) (by omega)) e2 hc.2.1 (hc.2.2 _ (by omega)) (by omega)
      refine ⟨υ, ?_, ⟨x2, x3, fun d hd => ?_⟩, h.2.tr x4 (fun _ _ _ _ z => z) (fun t i j k z => by unfold rgB at z; unfold cdR; omega)⟩
      · show L_X7_undo_29 N _ _ (q + 1) _ _ = L_X7_undo_29 N _ _ q _ _
        rw [L_X7_undo_29_s, ile_f hk (by omega), x1, Option.bind_some, nI_1]
      · have g : ∀ j, rI υ 11 0 j d = rI τ 11 0 j d := fun j => (x4 11 0 j d (by unfold rgB; omega)).1
        rw [g, g, g, g]
        exact hc.2.2 d (by omega))
    (nd - m) 0 σ N (by omega) ⟨h, Fq.rf⟩ (by omega)
  refine ⟨τ, e, ?_, h2⟩
  rw [show nd - (nd - m) = m by omega] at h1
  exact h1
theorem mo_undo {m : Nat} (h : mH σ n nd D) (oks : ∀ d, d ≤ nd → okS n (D d)) (hd : nd ≤ 40) (hm : m ≤ nd) (hN : 100 < N) (K : Int32) :
    ∃ τ v, L_X8_undo_28 N (fun _ σ_2 => some (K, uI σ_2 21 0 0 16 (nI m))) (nI m) (nI (nd - m)) N 0 σ = some (K, uI τ 21 0 0 16 (nI m)) ∧ mH (uI τ 21 0 0 16 (nI m)) n m D ∧ Fq mdR σ (uI τ 21 0 0 16 (nI m)) ∧ v = σ := by
  by_cases e : m = nd
  · subst e
    obtain ⟨q, rfl⟩ : ∃ q, N = q + 1 := ⟨N - 1, by omega⟩
    refine ⟨σ, σ, ?_, ?_, Fq.rf.uI (Or.inr ⟨rfl, rfl⟩), rfl⟩
    · rw [L_X8_undo_28_s, n22, show (0 : Int32) = nI 0 from rfl, ile_f (by decide) (by decide), Nat.sub_self, ile_t (Nat.le_refl _) (by decide)]
    · have f : Fq (fun t _ _ k => t = 21 ∧ k = 16) σ (uI σ 21 0 0 16 (nI m)) := Fq.rf.uI ⟨rfl, rfl⟩
      exact ⟨isMod_fr h.1 (fun k => (f 22 14 0 k (by omega)).1), by rw [rI_uI, if_pos ⟨rfl, rfl, rfl, rfl⟩], fun d hd => isMod_fr (h.2.2 d hd) (fun k => (f 22 15 0 _ (by omega)).1)⟩
  · obtain ⟨τ, e1, h1, h2⟩ := up_rel (fun q v τ => L_X8_undo_28 N (fun _ σ_2 => some (K, uI σ_2 21 0 0 16 (nI m))) (nI m) (nI (nd - m)) q v τ) (fun _ τ => some (K, uI τ 21 0 0 16 (nI m))) (fun j τ => (∀ k, k < j → rI τ 22 14 0 k = rI σ 22 15 0 (22 * m + k)) ∧ Fq (fun t i _ _ => t = 22 ∧ i = 14) σ τ) 22
      (fun q τ h => by
        show L_X8_undo_28 N _ _ _ (q + 1) _ _ = _
        rw [L_X8_undo_28_s, n22, ile_t (Nat.le_refl _) (by decide)])
      (fun q j τ hj h => by
        refine ⟨uI τ 22 14 0 j (rI τ 22 15 0 (22 * m + j)), ?_, fun k hk => ?_, h.2.uI ⟨rfl, rfl⟩⟩
        · show L_X8_undo_28 N _ _ _ (q + 1) _ _ = L_X8_undo_28 N _ _ _ q _ _
          rw [L_X8_undo_28_s, n22, ile_f hj (by decide), n0, ile_f (show 0 < nd - m by omega) (by omega), pk_mul, nI_add, gi (by omega) (by decide), gi hj (by decide), nI_clamp (by omega), nI_clamp (by omega), nI_1]
        · rw [rI_uI]
          by_cases e : k = j
          · subst e
            rw [if_pos ⟨rfl, rfl, rfl, rfl⟩]
            exact (h.2 22 15 0 (22 * m + k) (by omega)).1
          · rw [if_neg (fun z => e z.2.2.2)]; exact h.1 k (by omega))
      22 0 σ N (by omega) ⟨fun k hk => by omega, Fq.rf⟩ (by omega)
    have f : Fq mdR σ (uI τ 21 0 0 16 (nI m)) := (h2.mono (fun t i j k z => Or.inl ⟨z.1, Or.inl z.2⟩)).uI (Or.inr ⟨rfl, rfl⟩)
    refine ⟨τ, σ, e1, ⟨?_, by rw [rI_uI, if_pos ⟨rfl, rfl, rfl, rfl⟩], fun d hd => isMod_fr (h.2.2 d (by omega)) (fun k => ?_)⟩, f, rfl⟩
    · refine (h.2.2 m (by omega)).cong (fun k hk => ?_) (oks m hm)
      rw [rI_uI, if_neg (by simp)]
      exact h1 k hk
    · rw [rI_uI, if_neg (by simp)]
      exact (h2 22 15 0 _ (by omega)).1
theorem st_undo (p0 : Int32) (hN : 100 < N) : StepI (f_X7_undo N p0) (f_X8_undo N p0) := by
  intro σ hI
  obtain ⟨n, nd, D, hs⟩ := hI.2.2.2.2.2
  have hd := hs.2.1.1
  have hs2 : iScr (th0 σ) n nd D := hs.q (tl_sc th0_fr)
  have z0 : (0 : Int32).toInt = 0 := by decide
  have tn : (nI nd).toInt = nd := nI_toInt (by omega)
  by_cases h : 0 ≤ p0.toInt ∧ p0.toInt ≤ (nd : Int)
  · obtain ⟨m, hm, rfl⟩ := in_nI (p := p0) (n := nd + 1) ⟨h.1, by omega⟩ (by omega)
    obtain ⟨σ1, c1, c2, c3⟩ := cl_undo (N := N) hs.2.2.1 hs.oks hd (show m ≤ nd by omega) hN
    have hmH := mH_cd hs.2.2.2.1 c3
    obtain ⟨τ, v, x1, x2, x3, -⟩ := mo_undo (N := N) hmH hs.oks hd (show m ≤ nd by omega) hN (nI (nd - m))
    obtain ⟨g1, g2⟩ := fq_cm c3 x3
    refine ⟨_, σ1, _, c1, ?_, Inv_deed hI g1 (iScr_new hs g1 (okH_at hs.2.1 (by omega)) (hs.2.1.2 m (by omega)).2 (cH_md c2 g2) x2)⟩
    unfold f_X8_undo
    rw [th_d, hmH.2.1, sp_in, Option.bind_some, b2n_z, z0, tn, decide_eq_true h, if_pos rfl]
    dsimp only
    rw [hmH.2.1, pk_sub (by omega)]
    exact x1
  · refine ⟨-1, σ, th0 σ, ?_, ?_, Inv_th0 hI⟩
    · unfold f_X7_undo
      rw [hs.2.2.1.2.1]
      have e1 : (p0 < 0) ↔ p0.toInt < 0 := fa_lt p0 0
      have e2 : (p0 ≤ nI nd) ↔ p0.toInt ≤ (nd : Int) := by rw [fa_le, tn]
      simp only [e1, e2]
      by_cases a : p0.toInt < 0
      · rw [if_pos a]
      · rw [if_neg a, if_neg (by omega)]
    · unfold f_X8_undo
      rw [th_d, hs2.2.2.2.1.2.1, sp_in, Option.bind_some, b2n_z, z0, tn, decide_eq_false h]; rfl
/-! kept screens -/
theorem sp_isKept (p : Int32) : f_X7_isKept N p σ = some (nI (b2n (decide (0 ≤ p.toInt ∧ p.toInt < (3 : Nat)))), σ) := by
  unfold f_X7_isKept
  have e1 : (p < 0) ↔ p.toInt < 0 := fa_lt p 0
  have e2 : ((3 : Int32) ≤ p) ↔ 3 ≤ p.toInt := fa_le 3 p
  simp only [e1, e2]
  by_cases a1 : p.toInt < 0
  · rw [if_pos a1, decide_eq_false (by omega)]; rfl
  · by_cases a2 : 3 ≤ p.toInt
    · rw [if_neg a1, if_pos a2, decide_eq_false (by omega)]; rfl
    · rw [if_neg a1, if_neg a2, decide_eq_true (by omega)]; rfl
/-- screen and deeds of the class, copied -/
theorem cl_copy {s q s' q' : Nat} (h : cH σ s' q' n nd D) (ok : okS n (D nd)) (hd : nd ≤ 40) (hs : s' ≠ s) (hq : q' ≠ q) (hN : 100 < N) :
    ∃ τ υ, f_X4_become N s s' σ = some τ ∧ f_X1_become N q q' τ = some υ ∧ cH υ s q n nd D ∧ cH υ s' q' n nd D ∧ Fq (fun t i _ _ => ((t = 7 ∨ t = 9) ∧ i = s) ∨ ((t = 10 ∨ t = 11) ∧ i = q)) σ υ := by
  obtain ⟨τ, e1, h1, h2⟩ := sp_become (N := N) hs h.1 ok (by omega)
  have h4 : rI τ 10 q' 0 4 = nI nd := ((h2 10 q' 0 (fun z => by rcases z.1 with z | z <;> exact absurd z (by decide)) 4).1).trans h.2.1
  obtain ⟨υ, e2, h3, h5, h6⟩ := sp_becomeD (N := N) (σ := τ) hq h4 hd (by omega)
  have f1 : Fq (fun t i _ _ => ((t = 7 ∨ t = 9) ∧ i = s) ∨ ((t = 10 ∨ t = 11) ∧ i = q)) σ τ := h2.q (fun t i j k z => Or.inl z)
  have f : Fq (fun t i _ _ => ((t = 7 ∨ t = 9) ∧ i = s) ∨ ((t = 10 ∨ t = 11) ∧ i = q)) σ υ := f1.tr h6 (fun _ _ _ _ z => z) (fun t i j k z => Or.inr z)
  refine ⟨τ, υ, e1, e2, ⟨h1.frq h6 (fun j k z => by rcases z.1 with z | z <;> exact absurd z (by decide)) (fun j k z => by rcases z.1 with z | z <;> exact absurd z (by decide)), h3, fun d hdd => ?_⟩, cH_fr f h (fun j k => by omega) (fun j k => by omega) (by omega) (fun j k => by omega), f⟩
  have g : ∀ a, a < 4 → rI υ 11 q a d = rI σ 11 q' a d := fun a ha => (h5 a d ha hdd).trans ((h2 11 q' a (fun z => by rcases z.1 with z | z <;> exact absurd z (by decide)) d).1)
  rw [g 0 (by decide), g 1 (by decide), g 2 (by decide), g 3 (by decide)]
  exact h.2.2 d hdd
/-- the reference's, into a kept place -/
theorem mo_keep {k : Nat} (h : mH σ n nd D) (oks : ∀ d, d ≤ nd → okS n (D d)) (hd : nd ≤ 40) (hk : k < 3) (hN : 1000 < N) :
    ∃ τ, L_X8_keep_28 N (fun _ σ_2 => L_X8_keep_59 N (fun _ σ_3 => gd (ib (nI k) 3) (some (rI (uI σ_3 22 19 0 (nI k).toNatClampNeg (rI σ_3 21 0 0 16)) 21 0 0 16, uI σ_3 22 19 0 (nI k).toNatClampNeg (rI σ_3 21 0 0 16)))) (nI k) N (0 : Int32) σ_2) (nI k) N 0 σ = some (nI nd, τ) ∧ mHk τ k n nd D ∧ Fq (fun t i j l => t = 22 ∧ j = 0 ∧ ((i = 17 ∧ 22 * k ≤ l ∧ l < 22 * k + 22) ∨ (i = 18 ∧ 880 * k ≤ l ∧ l < 880 * k + 880) ∨ (i = 19 ∧ l = k))) σ τ := by
  obtain ⟨τ, e1, h1, h2⟩ := up_rel (fun q v τ => L_X8_keep_28 N (fun _ σ_2 => L_X8_keep_59 N (fun _ σ_3 => gd (ib (nI k) 3) (some (rI (uI σ_3 22 19 0 (nI k).toNatClampNeg (rI σ_3 21 0 0 16)) 21 0 0 16, uI σ_3 22 19 0 (nI k).toNatClampNeg (rI σ_3 21 0 0 16)))) (nI k) N (0 : Int32) σ_2) (nI k) q v τ) (fun _ τ => L_X8_keep_59 N (fun _ σ_3 => gd (ib (nI k) 3) (some (rI (uI σ_3 22 19 0 (nI k).toNatClampNeg (rI σ_3 21 0 0 16)) 21 0 0 16, uI σ_3 22 19 0 (nI k).toNatClampNeg (rI σ_3 21 0 0 16)))) (nI k) N (0 : Int32) τ) (fun j τ => (∀ l, l < j → rI τ 22 17 0 (22 * k + l) = rI σ 22 14 0 l) ∧ Fq (fun t i j l => t = 22 ∧ j = 0 ∧ (i = 17 ∧ 22 * k ≤ l ∧ l < 22 * k + 22)) σ τ) 22
    (fun q τ h => by
      show L_X8_keep_28 N _ _ (q + 1) _ _ = _
      rw [L_X8_keep_28_s, n22, ile_t (Nat.le_refl _) (by decide)])
    (fun q j τ hj h => by
      refine ⟨uI τ 22 17 0 (22 * k + j) (rI τ 22 14 0 j), ?_, fun l hl => ?_, h.2.uI ⟨rfl, rfl, rfl, by omega, by omega⟩⟩
      · show L_X8_keep_28 N _ _ (q + 1) _ _ = L_X8_keep_28 N _ _ q _ _
        rw [L_X8_keep_28_s, n22, ile_f hj (by decide), pk_mul, nI_add, gi hj (by decide), gi (by omega) (by decide), nI_clamp (show 22 * k + j < 2 ^ 31 by omega), nI_clamp (show j < 2 ^ 31 by omega), nI_1]
      · rw [rI_uI]
        by_cases e : l = j
        · subst e
          rw [if_pos ⟨rfl, rfl, rfl, rfl⟩]
          exact (h.2 22 14 0 l (by omega)).1
        · rw [if_neg (fun z => e (by omega))]; exact h.1 l (by omega))
    22 0 σ N (by omega) ⟨fun l hl => by omega, Fq.rf⟩ (by omega)
  obtain ⟨υ, e2, h3, h4⟩ := up_rel (fun q v τ => L_X8_keep_59 N (fun _ σ_3 => gd (ib (nI k) 3) (some (rI (uI σ_3 22 19 0 (nI k).toNatClampNeg (rI σ_3 21 0 0 16)) 21 0 0 16, uI σ_3 22 19 0 (nI k).toNatClampNeg (rI σ_3 21 0 0 16)))) (nI k) q v τ) (fun _ τ => gd (ib (nI k) 3) (some (rI (uI τ 22 19 0 (nI k).toNatClampNeg (rI τ 21 0 0 16)) 21 0 0 16, uI τ 22 19 0 (nI k).toNatClampNeg (rI τ 21 0 0 16)))) (fun j υ => (∀ l, l < j → rI υ 22 18 0 (880 * k + l) = rI σ 22 15 0 l) ∧ Fq (fun t i j l => t = 22 ∧ j = 0 ∧ (i = 18 ∧ 880 * k ≤ l ∧ l < 880 * k + 880)) τ υ) 880
    (fun q τ h => by
      show L_X8_keep_59 N _ _ (q + 1) _ _ = _
      rw [L_X8_keep_59_s, n880, ile_t (Nat.le_refl _) (by decide)])
    (fun q j υ hj h => by
      refine ⟨uI υ 22 18 0 (880 * k + j) (rI υ 22 15 0 j), ?_, fun l hl => ?_, h.2.uI ⟨rfl, rfl, rfl, by omega, by omega⟩⟩
      · show L_X8_keep_59 N _ _ (q + 1) _ _ = L_X8_keep_59 N _ _ q _ _
        rw [L_X8_keep_59_s, n880, ile_f hj (by decide), pk_mul, nI_add, gi hj (by decide), gi (by omega) (by decide), nI_clamp (show 880 * k + j < 2 ^ 31 by omega), nI_clamp (show j < 2 ^ 31 by omega), nI_1]
      · rw [rI_uI]
        by_cases e : l = j
        · subst e
          rw [if_pos ⟨rfl, rfl, rfl, rfl⟩]
          exact ((h.2 22 15 0 l (by omega)).1).trans (h2 22 15 0 l (by omega)).1
        · rw [if_neg (fun z => e (by omega))]; exact h.1 l (by omega))
    880 0 τ N (by omega) ⟨fun l hl => by omega, Fq.rf⟩ (by omega)
  have h16 : rI υ 21 0 0 16 = nI nd := ((h4 21 0 0 16 (by omega)).1).trans (((h2 21 0 0 16 (by omega)).1).trans h.2.1)
  have r : ∀ i l, i ≠ 19 → rI (uI υ 22 19 0 k (nI nd)) 22 i 0 l = rI υ 22 i 0 l := fun i l hi => by rw [rI_uI, if_neg (fun z => hi z.2.1)]
  refine ⟨uI υ 22 19 0 k (nI nd), ?_, ⟨?_, by rw [rI_uI, if_pos ⟨rfl, rfl, rfl, rfl⟩], fun d hdd => ?_⟩, ((h2.mono (fun t i j l z => ⟨z.1, z.2.1, Or.inl z.2.2⟩)).tr h4 (fun _ _ _ _ z => z) (fun t i j l z => ⟨z.1, z.2.1, Or.inr (Or.inl z.2.2)⟩)).uI ⟨rfl, rfl, Or.inr (Or.inr ⟨rfl, rfl⟩)⟩⟩
  · refine (e1.trans e2).trans ?_
    rw [gi hk (by decide), nI_clamp (by omega), h16, rI_uI, if_neg (by simp), h16]
  · refine h.1.cong (fun l hl => ?_) (oks nd (Nat.le_refl _))
    rw [r 17 _ (by decide), (h4 22 17 0 (22 * k + l) (by omega)).1]
    exact h1 l hl
  · refine (h.2.2 d hdd).cong (fun l hl => ?_) (oks d (by omega))
    rw [r 18 _ (by decide)]
    exact h3 (22 * d + l) (by omega)
/-- .. and out of it -/
theorem mo_on {k : Nat} (h : mHk σ k n nd D) (oks : ∀ d, d ≤ nd → okS n (D d)) (hd : nd ≤ 40) (hk : k < 3) (hN : 1000 < N) :
    ∃ τ, L_X8_on_33 N (fun _ σ_2 => L_X8_on_64 N (fun _ σ_3 => gd (ib (nI k) 3) (some (rI (uI σ_3 21 0 0 16 (rI σ_3 22 19 0 (nI k).toNatClampNeg)) 21 0 0 16, uI σ_3 21 0 0 16 (rI σ_3 22 19 0 (nI k).toNatClampNeg)))) (nI k) N (0 : Int32) σ_2) (nI k) N 0 σ = some (nI nd, τ) ∧ mH τ n nd D ∧ Fq mdR σ τ := by
  obtain ⟨τ, e1, h1, h2⟩ := up_rel (fun q v τ => L_X8_on_33 N (fun _ σ_2 => L_X8_on_64 N (fun _ σ_3 => gd (ib (nI k) 3) (some (rI (uI σ_3 21 0 0 16 (rI σ_3 22 19 0 (nI k).toNatClampNeg)) 21 0 0 16, uI σ_3 21 0 0 16 (rI σ_3 22 19 0 (nI k).toNatClampNeg)))) (nI k) N (0 : Int32) σ_2) (nI k) q v τ) (fun _ τ => L_X8_on_64 N (fun _ σ_3 => gd (ib (nI k) 3) (some (rI (uI σ_3 21 0 0 16 (rI σ_3 22 19 0 (nI k).toNatClampNeg)) 21 0 0 16, uI σ_3 21 0 0 16 (rI σ_3 22 19 0 (nI k).toNatClampNeg)))) (nI k) N (0 : Int32) τ) (fun j τ => (∀ l, l < j → rI τ 22 14 0 l = rI σ 22 17 0 (22 * k + l)) ∧ Fq (fun t i _ _ => t = 22 ∧ i = 14) σ τ) 22
    (fun q τ h => by
      show L_X8_on_33 N _ _ (q + 1) _ _ = _
      rw [L_X8_on_33_s, n22, ile_t (Nat.le_refl _) (by decide)])
    (fun q j τ hj h => by
      refine ⟨uI τ 22 14 0 j (rI τ 22 17 0 (22 * k + j)), ?_, fun l hl => ?_, h.2.uI ⟨rfl, rfl⟩⟩
      · show L_X8_on_33 N _ _ (q + 1) _ _ = L_X8_on_33 N _ _ q _ _
        rw [L_X8_on_33_s, n22, ile_f hj (by decide), pk_mul, nI_add, gi (by omega) (by decide), gi hj (by decide), nI_clamp (show 22 * k + j < 2 ^ 31 by omega), nI_clamp (show j < 2 ^ 31 by omega), nI_1]
      · rw [rI_uI]
        by_cases e : l = j
        · subst e
          rw [if_pos ⟨rfl, rfl, rfl, rfl⟩]
          exact (h.2 22 17 0 (22 * k + l) (by omega)).1
        · rw [if_neg (fun z => e z.2.2.2)]; exact h.1 l (by omega))
    22 0 σ N (by omega) ⟨fun l hl => by omega, Fq.rf⟩ (by omega)
  obtain ⟨υ, e2, h3, h4⟩ := up_rel (fun q v τ => L_X8_on_64 N (fun _ σ_3 => gd (ib (nI k) 3) (some (rI (uI σ_3 21 0 0 16 (rI σ_3 22 19 0 (nI k).toNatClampNeg)) 21 0 0 16, uI σ_3 21 0 0 16 (rI σ_3 22 19 0 (nI k).toNatClampNeg)))) (nI k) q v τ) (fun _ τ => gd (ib (nI k) 3) (some (rI (uI τ 21 0 0 16 (rI τ 22 19 0 (nI k).toNatClampNeg)) 21 0 0 16, uI τ 21 0 0 16 (rI τ 22 19 0 (nI k).toNatClampNeg)))) (fun j υ => (∀ l, l < j → rI υ 22 15 0 l = rI σ 22 18 0 (880 * k + l)) ∧ Fq (fun t i _ _ => t = 22 ∧ i = 15) τ υ) 880
    (fun q τ h => by
      show L_X8_on_64 N _ _ (q + 1) _ _ = _
      rw [L_X8_on_64_s, n880, ile_t (Nat.le_refl _) (by decide)])
    (fun q j υ hj h => by
      refine ⟨uI υ 22 15 0 j (rI υ 22 18 0 (880 * k + j)), ?_, fun l hl => ?_, h.2.uI ⟨rfl, rfl⟩⟩
      · show L_X8_on_64 N _ _ (q + 1) _ _ = L_X8_on_64 N _ _ q _ _
        rw [L_X8_on_64_s, n880, ile_f hj (by decide), pk_mul, nI_add, gi (by omega) (by decide), gi hj (by decide), nI_clamp (show 880 * k + j < 2 ^ 31 by omega), nI_clamp (show j < 2 ^ 31 by omega), nI_1]
      · rw [rI_uI]
        by_cases e : l = j
        · subst e
          rw [if_pos ⟨rfl, rfl, rfl, rfl⟩]
          exact ((h.2 22 18 0 (880 * k + l) (by omega)).1).trans (h2 22 18 0 (880 * k + l) (by omega)).1
        · rw [if_neg (fun z => e z.2.2.2)]; exact h.1 l (by omega))
    880 0 τ N (by omega) ⟨fun l hl => by omega, Fq.rf⟩ (by omega)
  have h19 : rI υ 22 19 0 k = nI nd := ((h4 22 19 0 k (by omega)).1).trans (((h2 22 19 0 k (by omega)).1).trans h.2.1)
  have r : ∀ i l, rI (uI υ 21 0 0 16 (nI nd)) 22 i 0 l = rI υ 22 i 0 l := fun i l => by rw [rI_uI, if_neg (by simp)]
  refine ⟨uI υ 21 0 0 16 (nI nd), ?_, ⟨?_, by rw [rI_uI, if_pos ⟨rfl, rfl, rfl, rfl⟩], fun d hdd => ?_⟩, ((h2.mono (R2 := mdR) (fun t i j l z => Or.inl ⟨z.1, Or.inl z.2⟩)).tr h4 (fun _ _ _ _ z => z) (fun t i j l z => Or.inl ⟨z.1, Or.inr z.2⟩)).uI (Or.inr ⟨rfl, rfl⟩)⟩
  · refine (e1.trans e2).trans ?_
    rw [gi hk (by decide), nI_clamp (by omega), h19, rI_uI, if_pos ⟨rfl, rfl, rfl, rfl⟩]
  · refine h.1.cong (fun l hl => ?_) (oks nd (Nat.le_refl _))
    rw [r, (h4 22 14 0 l (by omega)).1]
    exact h1 l hl
  · refine (h.2.2 d hdd).cong (fun l hl => ?_) (oks d (by omega))
    rw [r]
    exact h3 (22 * d + l) (by omega)
theorem st_keep (p0 : Int32) (hN : 1000 < N) : StepI (f_X7_keep N p0) (f_X8_keep N p0) := by
  intro σ hI
  obtain ⟨n, nd, D, hs⟩ := hI.2.2.2.2.2
  have ok := hs.ok
  have hn := ok.1
  have hs2 : iScr (th0 σ) n nd D := hs.q (tl_sc th0_fr)
  by_cases hk : 0 ≤ p0.toInt ∧ p0.toInt < (3 : Nat)
  · obtain ⟨k, hk3, rfl⟩ := in_nI hk (by decide)
    by_cases h0 : n = 0
    · refine ⟨-4, σ, th0 σ, ?_, ?_, Inv_th0 hI⟩
      · unfold f_X7_keep
        rw [sp_isKept, Option.bind_some, b2n_z, decide_eq_true hk, if_pos rfl]
        dsimp only
        rw [hs.scr.1, iz_t h0]
      · unfold f_X8_keep
        rw [th_d, sp_in, in_le (nI k) (m := 3) _ _ (by decide) (by decide), Option.bind_some, b2n_z, decide_eq_true hk, if_pos rfl]
        dsimp only
        rw [hs2.mS.1, iz_t h0]
    · obtain ⟨τ, υ, e1, e2, c1, c2, f1⟩ := cl_copy (N := N) (s := k + 2) (q := k + 1) hs.2.2.1 ok hs.2.1.1 (by omega) (by omega) (by omega)
      have f1' : Fq syR σ (th0 υ) := f1.tr th0_fr (fun t i j l z => Or.inr (by unfold fScr; omega)) (fun _ _ _ _ z => Or.inl z)
      have fm : Fq (fun t i j k' => (((t = 7 ∨ t = 9) ∧ i = k + 2) ∨ ((t = 10 ∨ t = 11) ∧ i = k + 1)) ∨ scR t i j k') σ (th0 υ) := f1.tr th0_fr (fun _ _ _ _ z => Or.inl z) (fun _ _ _ _ z => Or.inr z)
      have hmH : mH (th0 υ) n nd D := mH_fr fm hs.2.2.2.1 (fun l => by unfold scR; omega) (fun l => by unfold scR; omega) (by unfold scR; omega)
      have hmK : mK (th0 υ) n (D nd) := mK_fr fm hs.2.2.2.2.1 (by unfold scR; omega) (fun l => by unfold scR; omega) (fun l => by unfold scR; omega) (fun l => by unfold scR; omega)
      obtain ⟨ω, x1, x2, x3⟩ := mo_keep (N := N) hmH hs.oks hs.2.1.1 hk3 (by omega)
      have fw : Fq (fun t i j l => (((t = 7 ∨ t = 9) ∧ i = k + 2) ∨ ((t = 10 ∨ t = 11) ∧ i = k + 1)) ∨ scR t i j l ∨ (t = 22 ∧ j = 0 ∧ ((i = 17 ∧ 22 * k ≤ l ∧ l < 22 * k + 22) ∨ (i = 18 ∧ 880 * k ≤ l ∧ l < 880 * k + 880) ∨ (i = 19 ∧ l = k)))) σ ω := fm.tr x3 (fun t i j l z => by rcases z with z | z; exact Or.inl z; exact Or.inr (Or.inl z)) (fun t i j l z => Or.inr (Or.inr z))
      have fx : Fq (fun t i j l => scR t i j l ∨ (t = 22 ∧ j = 0 ∧ ((i = 17 ∧ 22 * k ≤ l ∧ l < 22 * k + 22) ∨ (i = 18 ∧ 880 * k ≤ l ∧ l < 880 * k + 880) ∨ (i = 19 ∧ l = k)))) υ ω := th0_fr.tr x3 (fun _ _ _ _ z => Or.inl z) (fun _ _ _ _ z => Or.inr z)
      refine ⟨nI nd, υ, ω, ?_, ?_, Inv_scr (n := n) (nd := nd) (D := D) hI (f1'.tr x3 (fun _ _ _ _ z => z) (fun t i j l z => Or.inr (by unfold fScr; omega))) ⟨hs.1, hs.2.1, ?_, ?_, ?_, fun q hq => ?_⟩⟩
      · unfold f_X7_keep
        rw [sp_isKept, Option.bind_some, b2n_z, decide_eq_true hk, if_pos rfl]
        dsimp only
        rw [hs.scr.1, iz_f h0 (by omega), gi hk3 (by decide), nI_clamp (by omega), e1, Option.bind_some, gi hk3 (by decide), e2, Option.bind_some, c2.2.1]
      · unfold f_X8_keep
        rw [th_d, sp_in, in_le (nI k) (m := 3) _ _ (by decide) (by decide), Option.bind_some, b2n_z, decide_eq_true hk, if_pos rfl]
        dsimp only
        rw [hmK.1, iz_f h0 (by omega)]
        exact x1
      · exact cH_fr fx c2 (fun j l => by unfold scR; omega) (fun j l => by unfold scR; omega) (by unfold scR; omega) (fun j l => by unfold scR; omega)
      · exact mH_fr x3 hmH (fun l => by omega) (fun l => by omega) (by omega)
      · exact mK_fr x3 hmK (by omega) (fun l => by omega) (fun l => by omega) (fun l => by omega)
      · by_cases e : q = k
        · subst e
          exact Or.inr ⟨nd, D, hs.2.1, cH_fr fx c1 (fun j l => by unfold scR; omega) (fun j l => by unfold scR; omega) (by unfold scR; omega) (fun j l => by unfold scR; omega), x2⟩
        · exact keptOK_fr fw (hs.2.2.2.2.2 q hq) (fun j l => by unfold scR; omega) (fun j l => by unfold scR; omega) (by unfold scR; omega) (fun j l => by unfold scR; omega) (fun l hl => by unfold scR; omega) (fun l hl => by unfold scR; omega) (by unfold scR; omega)
  · refine ⟨-1, σ, th0 σ, ?_, ?_, Inv_th0 hI⟩
    · unfold f_X7_keep
      rw [sp_isKept, Option.bind_some, b2n_z, decide_eq_false hk]; rfl
    · unfold f_X8_keep
      rw [th_d, sp_in, in_le p0 (m := 3) _ _ (by decide) (by decide), Option.bind_some, b2n_z, decide_eq_false hk]; rfl
theorem st_on (p0 : Int32) (hN : 1000 < N) : StepI (f_X7_on N p0) (f_X8_on N p0) := by
  intro σ hI
  obtain ⟨n, nd, D, hs⟩ := hI.2.2.2.2.2
  have ok := hs.ok
  have hn := ok.1
  have hs2 : iScr (th0 σ) n nd D := hs.q (tl_sc th0_fr)
  by_cases hk : 0 ≤ p0.toInt ∧ p0.toInt < (3 : Nat)
  · obtain ⟨k, hk3, rfl⟩ := in_nI hk (by decide)
    rcases hs.2.2.2.2.2 k hk3 with ⟨a, b⟩ | ⟨nd', D', ho, hc, hm⟩
    · refine ⟨-3, fdS σ 1, fdM (th0 (fdS σ 1)) 1, ?_, ?_, Inv_found hI (by decide)⟩
      · unfold f_X7_on
        rw [sp_isKept, Option.bind_some, b2n_z, decide_eq_true hk, if_pos rfl, gi hk3 (by decide), nI_clamp (by omega)]
        dsimp only
        rw [a, if_pos rfl, n1, sp_found7 (by decide)]; rfl
      · unfold f_X8_on
        rw [th_d, sp_in, in_le (nI k) (m := 3) _ _ (by decide) (by decide), Option.bind_some, b2n_z, decide_eq_true hk, if_pos rfl, gi hk3 (by decide), nI_clamp (by omega)]
        dsimp only
        rw [th0_rI (by omega), fdS_rI (by omega), b, if_neg (by decide), n1, sp_found8 (by decide)]; rfl
    · have oks' : ∀ d, d ≤ nd' → okS n (D' d) := fun d hd => (ho.2 d hd).1
      obtain ⟨τ, υ, e1, e2, c1, c2, f1⟩ := cl_copy (N := N) (s := 0) (q := 0) hc (oks' nd' (Nat.le_refl _)) ho.1 (by omega) (by omega) (by omega)
      have f1c : Fq cdR σ υ := f1.mono (fun t i j l z => by unfold cdR; omega)
      have hmk : mHk (th0 υ) k n nd' D' := mHk_fr (R := ccR) (f1c.tr th0_fr (fun _ _ _ _ z => Or.inl z) (fun _ _ _ _ z => Or.inr z)) hm (fun l _ => by unfold ccR cdR scR; omega) (fun l _ => by unfold ccR cdR scR; omega) (by unfold ccR cdR scR; omega) oks' ho.1
      obtain ⟨ω, x1, x2, x3⟩ := mo_on (N := N) hmk oks' ho.1 hk3 (by omega)
      obtain ⟨g1, g2⟩ := fq_cm f1c x3
      refine ⟨nI nd', υ, ω, ?_, ?_, Inv_deed hI g1 (iScr_new hs g1 ⟨ho.1, fun d hd => ⟨oks' d hd, (ho.2 d hd).2.tr (ho.2 nd' (Nat.le_refl _)).2.sy⟩⟩ (ho.2 nd' (Nat.le_refl _)).2 (cH_md c1 g2) x2)⟩
      · unfold f_X7_on
        rw [sp_isKept, Option.bind_some, b2n_z, decide_eq_true hk, if_pos rfl, gi hk3 (by decide), nI_clamp (by omega)]
        dsimp only
        rw [hc.2.1, if_neg (nI_ne_m1 (by have := ho.1; omega)), gi hk3 (by decide), e1, Option.bind_some, gi hk3 (by decide), e2, Option.bind_some, c1.2.1]
      · unfold f_X8_on
        rw [th_d, sp_in, in_le (nI k) (m := 3) _ _ (by decide) (by decide), Option.bind_some, b2n_z, decide_eq_true hk, if_pos rfl, gi hk3 (by decide)]
        have h19 : rI (th0 υ) 22 19 0 (nI k).toNatClampNeg = nI nd' := by rw [nI_clamp (by omega)]; exact hmk.2.1
        dsimp only
        rw [h19, if_pos (nI_pos' (by have := ho.1; omega))]
        exact x1
  · refine ⟨-1, σ, th0 σ, ?_, ?_, Inv_th0 hI⟩
    · unfold f_X7_on
      rw [sp_isKept, Option.bind_some, b2n_z, decide_eq_false hk]; rfl
    · unfold f_X8_on
      rw [th_d, sp_in, in_le p0 (m := 3) _ _ (by decide) (by decide), Option.bind_some, b2n_z, decide_eq_false hk]; rfl
end Undo
