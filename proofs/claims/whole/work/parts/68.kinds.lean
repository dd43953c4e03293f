section Kinds
variable {N n nd : Nat} {σ : Sg} {D : Nat → Scr} {c : Scr}
theorem sets_sets {i f p k : Nat} : sets (sets c i f p) i f k = sets c i f k := by
  funext a b
  unfold sets
  by_cases h : a = i ∧ b = f
  · rw [if_pos h, if_pos h]
  · rw [if_neg h, if_neg h, if_neg h]
theorem sets_same {i f : Nat} : sets c i f (c i f) = c := by
  funext a b
  unfold sets
  by_cases h : a = i ∧ b = f
  · rw [if_pos h, h.1, h.2]
  · rw [if_neg h]
theorem mv_mv {i l t l' t' : Nat} : mvS (mvS c i l t) i l' t' = mvS c i l' t' := by
  funext a b
  unfold mvS up
  by_cases h : a = i
  · rw [if_pos h, if_pos h]
    by_cases h1 : b = 2
    · rw [if_pos h1, if_pos h1]
    · by_cases h2 : b = 1
      · rw [if_neg h1, if_neg h1, if_pos h2, if_pos h2]
      · simp [h1, h2]
  · rw [if_neg h, if_neg h, if_neg h]
theorem mv_same {i : Nat} : mvS c i (c i 1) (c i 2) = c := by
  funext a b
  unfold mvS up
  by_cases h : a = i
  · rw [if_pos h]
    by_cases h1 : b = 2
    · rw [if_pos h1, h, h1]
    · by_cases h2 : b = 1
      · rw [if_neg h1, if_pos h2, h, h2]
      · rw [if_neg h1, if_neg h2, h]
  · rw [if_neg h]
theorem okS_kind {i k : Nat} (ok : okS n c) (hi : i < n) (hk : k < 6) : okS n (sets c i 0 k) := by
  have h5 : ∀ j f, f ≠ 0 → sets c i 0 k j f = c j f := fun j f h => by unfold sets; rw [if_neg (fun z => h z.2)]
  refine ⟨ok.1, fun j hj => ⟨?_, ?_, ?_⟩, fun a b ha hb h => ?_⟩
  · by_cases e : j = i
    · subst e; exact okB_kind (ok.2.1 j hj).1 hk
    · have : sets c i 0 k j = c j := by funext f; unfold sets; rw [if_neg (fun z => e z.1)]
      rw [this]; exact (ok.2.1 j hj).1
  · rw [h5 j 5 (by decide)]; exact (ok.2.1 j hj).2.1
  · rw [h5 j 6 (by decide)]; exact (ok.2.1 j hj).2.2
  · rw [h5 a 5 (by decide), h5 b 5 (by decide)] at h
    exact ok.2.2 a b ha hb h
theorem prs.fr {R : Nat → Nat → Nat → Prop} {τ : Sg} {r m : Nat} {cl : Nat → Nat} {tl : Nat → Int32} (h : Fr R σ τ) (hp : prs σ r m cl tl) (h2 : ¬ R 2 r 0) (h3 : ¬ R 3 r 0) : prs τ r m cl tl :=
  ⟨hp.1, ((h 2 r 0 h2 1).1).trans hp.2.1, fun j hj => ⟨(hp.2.2 j hj).1, ((h 3 r 0 h3 _).1).trans (hp.2.2 j hj).2.1, ((h 3 r 0 h3 _).1).trans (hp.2.2 j hj).2.2⟩⟩
theorem prM.fr {R : Nat → Nat → Nat → Prop} {τ : Sg} {r m : Nat} {cl : Nat → Nat} {tl : Nat → Int32} (h : Fr R σ τ) (hp : prM σ r m cl tl) (h2 : ¬ R 22 6 0) (h3 : ¬ R 22 7 0) : prM τ r m cl tl :=
  ⟨hp.1, ((h 22 7 0 h3 r).1).trans hp.2.1, fun j hj => ⟨(hp.2.2 j hj).1, ((h 22 6 0 h2 _).1).trans (hp.2.2 j hj).2.1, ((h 22 6 0 h2 _).1).trans (hp.2.2 j hj).2.2⟩⟩
theorem scr1_sc {t i j k : Nat} (h : scrR 1 t i j) : scR t i j k := Or.inl h
/-- the class turns the pane of its aside -/
theorem cl_turn {i p k : Nat} (hS : isScr σ 1 n (sets c i 0 p)) (ok : okS n c) (hi : i < n) (hk : k < 6) (hN : 100 < N) : ∃ τ, f_X2_turnInto N 1 i (nI k) σ = some τ ∧ isScr τ 1 n (sets c i 0 k) ∧ Fr (scrR 1) σ τ := by
  have e : up (sets c i 0 p i) 0 k = sets c i 0 k i := by
    funext f
    unfold up sets
    by_cases h : f = 0
    · rw [if_pos h, if_pos ⟨rfl, h⟩]
    · rw [if_neg h, if_neg (fun z => h z.2), if_neg (fun z => h z.2)]
  obtain ⟨τ, h1, h2, h3⟩ := sp_turnInto N 1 i (k := k) (hS.2 i hi) (by rw [e]; exact okB_kind (ok.2.1 i hi).1 hk) (by omega)
  refine ⟨τ, h1, ?_, h3.mono (fun t a b z => ⟨Or.inr z.1, z.2.1⟩)⟩
  have h4 := isScr_pane hS h2 h3
  rw [e] at h4
  have e2 : (fun j => if j = i then sets c i 0 k i else sets c i 0 p j) = sets c i 0 k := by
    funext j f
    by_cases h : j = i
    · rw [if_pos h, h]
    · rw [if_neg h]
      unfold sets
      rw [if_neg (fun z => h z.1), if_neg (fun z => h z.1)]
  rw [e2] at h4
  exact h4
theorem cl_kinds {i r m : Nat} {cl : Nat → Nat} {tl : Nat → Int32} (hS : isScr σ 0 n c) (ok : okS n c) (hi : i < n) (hr : r < 6) (hp : prs σ r m cl tl) (hN : 100 < N) :
    ∃ τ p, p < 6 ∧ f_X7_possibleKinds N (nI i) r σ = some (nI (msk (fun k => agr n (sets c i 0 k) cl tl m) 6), τ) ∧ isScr τ 1 n (sets c i 0 p) ∧ Fr (scrR 1) σ τ := by
  have hn := ok.1
  obtain ⟨τ, e, h1, h2⟩ := sp_become (N := N) (s := 1) (s' := 0) (by decide) hS ok (by omega)
  unfold f_X7_possibleKinds
  rw [e, Option.bind_some]
  obtain ⟨⟨a, υ⟩, e2, ha, p, hp6, hS2, hF⟩ := up_rel (fun q v (s : Int32 × Sg) => L_X7_possibleKinds_16 N (fun v3_4 v4_4 σ_4 => some (v3_4, σ_4)) (nI i) r q s.1 v s.2) (fun _ s => some (s.1, s.2))
    (fun j s => s.1 = nI (msk (fun k => agr n (sets c i 0 k) cl tl m) j) ∧ ∃ p, p < 6 ∧ isScr s.2 1 n (sets c i 0 p) ∧ Fr (scrR 1) σ s.2) 6
    (fun q s h => by
      show L_X7_possibleKinds_16 N _ (nI i) r (q + 1) _ _ _ = _
      rw [L_X7_possibleKinds_16_s, n6, ile_t (Nat.le_refl _) (by decide)])
    (fun q j s hj h => by
      obtain ⟨h0, p, hp6, hS2, hF⟩ := h
      obtain ⟨υ, e3, t1, t2⟩ := cl_turn (k := j) hS2 ok hi hj hN
      have f2 : Fr (scrR 1) σ υ := hF.tr t2 (fun _ _ _ z => z) (fun _ _ _ z => z)
      have e4 := sp_agrees (N := N) t1 (okS_kind ok hi hj) (hp.fr f2 (fun z => by unfold scrR at z; omega) (fun z => by unfold scrR at z; omega)) (by omega)
      refine ⟨(nI (msk (fun k => agr n (sets c i 0 k) cl tl m) (j + 1)), υ), ?_, rfl, j, hj, t1, f2⟩
      show L_X7_possibleKinds_16 N _ (nI i) r (q + 1) _ _ _ = L_X7_possibleKinds_16 N _ (nI i) r q _ _ _
      rw [L_X7_possibleKinds_16_s, n6, ile_f hj (by decide), gi (by omega) (by decide), nI_clamp (by omega), e3, Option.bind_some, e4, Option.bind_some, b2n_z, nI_1, h0]
      by_cases hg : agr n (sets c i 0 j) cl tl m = true
      · rw [if_pos hg, msk_t (p := fun k => agr n (sets c i 0 k) cl tl m) (j := j) hg (by omega)]
      · have hf : agr n (sets c i 0 j) cl tl m = false := by simpa using hg
        rw [if_neg hg, msk_f (p := fun k => agr n (sets c i 0 k) cl tl m) hf])
    6 0 ((0 : Int32), τ) N (by omega) ⟨rfl, c i 0, (ok.2.1 i hi).1.1, by rw [sets_same]; exact h1, h2⟩ (by omega)
  refine ⟨υ, p, hp6, ?_, hS2, hF⟩
  rw [← ha]; exact e2
theorem mo_isSo {r m : Nat} {cl : Nat → Nat} {tl : Nat → Int32} (hW : mW σ n c) (hC : mC σ n c) (ok : okS n c) (hr : r < 6) (hp : prM σ r m cl tl) (hN : 100 < N) :
    ∃ τ, f_X8_isSo N (nI r) σ = some (nI (b2n (agr n c cl tl m)), τ) ∧ Fr rgV σ τ := by
  have hn := ok.1
  obtain ⟨τ, e, h1, h2⟩ := sp_seeing (N := N) hW hC ok (by omega)
  obtain ⟨hm, hsz, hp⟩ := hp.fr h2 (fun z => by unfold rgV at z; omega) (fun z => by unfold rgV at z; omega)
  have h0 : rI τ 21 0 0 10 = nI n := ((h2 21 0 0 (fun z => by unfold rgV at z; omega) 10).1).trans hW.1
  refine ⟨τ, ?_, h2⟩
  unfold f_X8_isSo
  rw [e, Option.bind_some]
  refine lp_gen (fun q v => L_X8_isSo_6 N (fun _ σ_3 => some ((1 : Int32), σ_3)) (nI r) q v τ) (fun d v => ∃ j, j + d = m ∧ v = nI (2 * j) ∧ agr n c cl tl j = true) (fun o => o = some (nI (b2n (agr n c cl tl m)), τ)) ?_ N m 0 ⟨0, by omega, rfl, rfl⟩ (by omega)
  rintro q d v ⟨j, hd, rfl, ha⟩
  rw [L_X8_isSo_6_s, gi hr (by decide), nI_clamp (by omega), hsz]
  by_cases hj : j < m
  · obtain ⟨g1, g2, g3⟩ := hp j hj
    rw [ile_f (by omega) (by omega), n40, pk_mul, nI_add, gi (by omega) (by decide), nI_clamp (by omega), g2, mo_whoAt h0 h1 hn g1 (by omega), Option.bind_some, nI_1, gi (by omega) (by decide), nI_clamp (by omega), n2, nI_add]
    dsimp only
    rw [g3]
    by_cases hw : whoI n c (cl j) n = tl j
    · left
      refine ⟨nI (2 * j + 2), d - 1, by omega, ?_, j + 1, by omega, by rw [show 2 * (j + 1) = 2 * j + 2 by omega], ?_⟩
      · rw [if_pos hw]
      · rw [agr_s, ha, hw]; simp
    · right
      rw [if_neg hw, agr_mono hj hw]
      rfl
  · right
    have e : j = m := by omega
    subst e
    rw [ile_t (by omega) (by omega), ha]
    rfl
theorem mC_cv {i : Nat} {c' : Scr} (hC : mC σ n c) (h : ∀ j, j < n → j ≠ i → c' j = c j) : mC (cvS σ i (cvr (c' i))) n c' := fun j hj => by
  by_cases e : j = i
  · subst e; exact cv_at
  · have o := cv_off (σ := σ) (P := cvr (c' i)) e
    rw [o.1, o.2, h j hj e]
    exact hC j hj
theorem sets_off {i j f k : Nat} (h : j ≠ i) : sets c i f k j = c j := by
  funext g; unfold sets; rw [if_neg (fun z => h z.1)]
theorem rgC_mW {τ : Sg} (h : Fr rgC σ τ) (hW : mW σ n c) : mW τ n c := hW.fr h (fun z => by unfold rgC at z; omega) (fun i z => by unfold rgC at z; omega)
theorem rgV_mW {τ : Sg} (h : Fr rgV σ τ) (hW : mW σ n c) : mW τ n c := hW.fr h (fun z => by unfold rgV at z; omega) (fun i z => by unfold rgV at z; omega)
theorem rgV_mC {τ : Sg} (h : Fr rgV σ τ) (hC : mC σ n c) : mC τ n c := hC.fr h (fun z => by unfold rgV at z; omega) (fun z => by unfold rgV at z; omega)
/-- the reference asks whether the pairs hold, with the pane of another kind -/
theorem mo_turn {i p k : Nat} (hW : mW σ n (sets c i 0 p)) (hC : mC σ n (sets c i 0 p)) (ok : okS n c) (hi : i < n) (hk : k < 6) (hN : 100 < N) :
    ∃ τ, f_X8_covering N (nI i) (uI σ 22 20 0 i (nI k)) = some τ ∧ mW τ n (sets c i 0 k) ∧ mC τ n (sets c i 0 k) ∧ Fr rgA σ τ := by
  have hn := ok.1
  have w2 := mW_kind (i := i) (k := k) hW
  rw [sets_sets] at w2
  refine ⟨cvS (uI σ 22 20 0 i (nI k)) i (cvr (sets c i 0 k i)), sp_covering w2 (okB_kind (ok.2.1 i hi).1 hk) hi hn (by omega), mW_cv w2, mC_cv (c := sets c i 0 p) hC (fun j _ h => by rw [sets_off h, sets_off h]), Fr_cv (Fr.rf.uI (Or.inl ⟨rfl, Or.inl rfl, rfl⟩)) (fun _ _ _ z => rgC_A z)⟩
theorem prM_A {τ : Sg} {r m : Nat} {cl : Nat → Nat} {tl : Nat → Int32} (h : Fr rgA σ τ) (hp : prM σ r m cl tl) : prM τ r m cl tl := hp.fr h (fun z => by unfold rgA at z; omega) (fun z => by unfold rgA at z; omega)
theorem frA_tr {τ υ : Sg} (h : Fr rgA σ τ) (h2 : Fr rgA τ υ) : Fr rgA σ υ := h.tr h2 (fun _ _ _ z => z) (fun _ _ _ z => z)
theorem mo_kinds {i r m : Nat} {cl : Nat → Nat} {tl : Nat → Int32} (hS : mS σ n c) (ok : okS n c) (hi : i < n) (hr : r < 6) (hp : prM σ r m cl tl) (hN : 100 < N) :
    ∃ τ p, p < 6 ∧ f_X8_kindsOf N (nI i) (nI r) σ = some (nI (msk (fun k => agr n (sets c i 0 k) cl tl m) 6), τ) ∧ mW τ n (sets c i 0 p) ∧ mC τ n (sets c i 0 p) ∧ Fr rgA σ τ := by
  have hn := ok.1
  obtain ⟨τ0, e0, w0, f0⟩ := sp_asNow (N := N) (by omega) hS ok
  obtain ⟨τ, e, h1, hc, h2⟩ := sp_coveringAll (N := N) w0 ok (by omega)
  have fA : Fr rgA σ τ := f0.tr h2 (fun _ _ _ z => rgW_A z) (fun _ _ _ z => rgC_A z)
  unfold f_X8_kindsOf
  rw [e0, Option.bind_some, e, Option.bind_some]
  obtain ⟨⟨a, υ⟩, e2, ha, p, hp6, hW2, hC2, hF⟩ := up_rel (fun q v (s : Int32 × Sg) => L_X8_kindsOf_13 N (fun v3_5 v4_5 σ_5 => some (v3_5, σ_5)) (nI i) (nI r) q s.1 v s.2) (fun _ s => some (s.1, s.2))
    (fun j s => s.1 = nI (msk (fun k => agr n (sets c i 0 k) cl tl m) j) ∧ ∃ p, p < 6 ∧ mW s.2 n (sets c i 0 p) ∧ mC s.2 n (sets c i 0 p) ∧ Fr rgA σ s.2) 6
    (fun q s h => by
      show L_X8_kindsOf_13 N _ (nI i) (nI r) (q + 1) _ _ _ = _
      rw [L_X8_kindsOf_13_s, n6, ile_t (Nat.le_refl _) (by decide)])
    (fun q j s hj h => by
      obtain ⟨h0, p, hp6, hW2, hC2, hF⟩ := h
      obtain ⟨υ, e3, t1, t2, t3⟩ := mo_turn (k := j) hW2 hC2 ok hi hj hN
      have f2 : Fr rgA σ υ := frA_tr hF t3
      obtain ⟨ω, e4, f4⟩ := mo_isSo (N := N) t1 t2 (okS_kind ok hi hj) hr (prM_A f2 hp) hN
      refine ⟨(nI (msk (fun k => agr n (sets c i 0 k) cl tl m) (j + 1)), ω), ?_, rfl, j, hj, rgV_mW f4 t1, rgV_mC f4 t2, frA_tr f2 (f4.mono (fun _ _ _ z => rgV_A z))⟩
      show L_X8_kindsOf_13 N _ (nI i) (nI r) (q + 1) _ _ _ = L_X8_kindsOf_13 N _ (nI i) (nI r) q _ _ _
      rw [L_X8_kindsOf_13_s, n6, ile_f hj (by decide), gi (by omega) (by decide), nI_clamp (by omega), e3, Option.bind_some, e4, Option.bind_some, b2n_z, nI_1, h0]
      by_cases hg : agr n (sets c i 0 j) cl tl m = true
      · rw [if_pos hg, msk_t (p := fun k => agr n (sets c i 0 k) cl tl m) (j := j) hg (by omega)]
      · have hf : agr n (sets c i 0 j) cl tl m = false := by simpa using hg
        rw [if_neg hg, ior0, msk_f (p := fun k => agr n (sets c i 0 k) cl tl m) hf])
    6 0 ((0 : Int32), τ) N (by omega) ⟨rfl, c i 0, (ok.2.1 i hi).1.1, by rw [sets_same]; exact h1, by rw [sets_same]; exact hc, fA⟩ (by omega)
  refine ⟨υ, p, hp6, ?_, hW2, hC2, hF⟩
  rw [← ha]; exact e2
theorem fq_rows {τ : Sg} (h : Fq scR σ τ) : ∀ k, rI τ 22 7 0 k = rI σ 22 7 0 k ∧ rI τ 22 6 0 k = rI σ 22 6 0 k := fun k => ⟨(h 22 7 0 k (fun z => by unfold scR at z; omega)).1, (h 22 6 0 k (fun z => by unfold scR at z; omega)).1⟩
theorem fd_mS {f : Nat} (h : mS σ n c) : mS (th0 (fdS σ f)) n c := h
theorem st_kinds (p0 p1 : Int32) (hN : 100 < N) : StepI (f_X7_kinds N p0 p1) (f_X8_kinds N p0 p1) := by
  intro σ hI
  obtain ⟨n, nd, D, hs⟩ := hI.2.2.2.2.2
  have ok := hs.ok
  have hn := ok.1
  have hs2 : iScr (th0 σ) n nd D := hs.q (tl_sc th0_fr)
  rcases rs_cases (N := N) hI.1 hs.scr ok p0 p1 hN with ⟨e1, e2⟩ | ⟨f, hf, e1, e2⟩ | ⟨i, r, m, cl, tl, hi, hr, rfl, rfl, hp, htl, e1, e2⟩
  · refine ⟨-1, σ, th0 σ, ?_, ?_, Inv_th0 hI⟩
    · unfold f_X7_kinds
      rw [e1]; rfl
    · unfold f_X8_kinds
      rw [← th0, e2 _ hs2.mS (fq_rows th0_fr)]; rfl
  · refine ⟨-3, fdS σ f, fdM (th0 (fdS σ f)) f, ?_, ?_, Inv_found hI hf⟩
    · unfold f_X7_kinds
      rw [e1]; rfl
    · unfold f_X8_kinds
      rw [← th0, e2 _ (fd_mS hs.mS) (fun k => ⟨rfl, rfl⟩)]; rfl
  · obtain ⟨τ, p, hp6, k1, k2, k3⟩ := cl_kinds (N := N) hs.scr ok hi hr hp hN
    have q1 : Fq scR σ (th0 τ) := (k3.q (fun _ _ _ _ z => scr1_sc z)).tr th0_fr (fun _ _ _ _ z => z) (fun _ _ _ _ z => z)
    obtain ⟨e3, hpm⟩ := e2 (th0 τ) (hs.q (tl_sc q1)).mS (fq_rows q1)
    obtain ⟨υ, p', hp6', g1, g2, g3, g4⟩ := mo_kinds (N := N) (hs.q (tl_sc q1)).mS ok hi hr hpm hN
    refine ⟨nI (msk (fun k => agr n (sets (D nd) i 0 k) cl tl m) 6), τ, υ, ?_, ?_, Inv_sc hI (q1.tr (g4.q (fun _ _ _ _ => rgA_sc)) (fun _ _ _ _ z => z) (fun _ _ _ _ z => z))⟩
    · unfold f_X7_kinds
      rw [e1, Option.bind_some, if_pos rfl, gi hr (by decide), nI_clamp (by omega), k1, Option.bind_some]
    · unfold f_X8_kinds
      rw [← th0, e3, Option.bind_some, if_pos rfl, g1, Option.bind_some]
end Kinds
