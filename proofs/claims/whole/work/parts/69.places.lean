section Places
variable {N n nd : Nat} {σ : Sg} {D : Nat → Scr} {c : Scr}
theorem mo_mv21 {i l t : Nat} {τ : Sg} (hm : isMod (fun k => rI τ 22 21 0 k) n c) (ok : okS n c) (hi : i < n) : isMod (fun k => rI (uI (uI τ 22 21 0 i (nI l)) 22 21 0 (7 + i) (nI t)) 22 21 0 k) n (mvS c i l t) ∧ Fq (fun t i _ _ => t = 22 ∧ i = 21) τ (uI (uI τ 22 21 0 i (nI l)) 22 21 0 (7 + i) (nI t)) := by
  have hn := ok.1
  refine ⟨⟨fun j hj => ?_, ?_⟩, (Fq.rf.uI ⟨rfl, rfl⟩).uI ⟨rfl, rfl⟩⟩
  · obtain ⟨a, b, d⟩ := hm.1 j hj
    have hpj := (ok.2.1 j hj).2.1
    dsimp only at a b d ⊢
    by_cases e : j = i
    · subst e
      have e1 : mvS c j l t j 1 = l := by unfold mvS; rw [if_pos rfl]; rfl
      have e2 : mvS c j l t j 2 = t := by unfold mvS; rw [if_pos rfl]; rfl
      have e5 : mvS c j l t j 5 = c j 5 := by unfold mvS; rw [if_pos rfl]; rfl
      rw [e1, e2, e5]
      refine ⟨?_, ?_, ?_⟩
      · rw [rI_uI, if_neg (by omega), rI_uI, if_pos ⟨rfl, rfl, rfl, rfl⟩]
      · rw [rI_uI, if_pos ⟨rfl, rfl, rfl, rfl⟩]
      · rw [rI_uI, if_neg (by omega), rI_uI, if_neg (by omega)]; exact d
    · have e1 : ∀ f, mvS c i l t j f = c j f := fun f => by unfold mvS; rw [if_neg e]
      rw [e1, e1, e1]
      refine ⟨?_, ?_, ?_⟩
      · rw [rI_uI, if_neg (by omega), rI_uI, if_neg (by omega)]; exact a
      · rw [rI_uI, if_neg (by omega), rI_uI, if_neg (by omega)]; exact b
      · rw [rI_uI, if_neg (by omega), rI_uI, if_neg (by omega)]; exact d
  · dsimp only
    rw [rI_uI, if_neg (by omega), rI_uI, if_neg (by omega)]
    have : msk (opn (mvS c i l t)) n = msk (opn c) n := msk_cong (fun j _ => by
      unfold opn mvS
      by_cases e : j = i
      · rw [if_pos e, e]; rfl
      · rw [if_neg e])
    rw [this]; exact hm.2
theorem mv_f {i l t j f : Nat} (h1 : f ≠ 1) (h2 : f ≠ 2) : mvS c i l t j f = c j f := by
  unfold mvS
  by_cases e : j = i
  · rw [if_pos e, up_f, if_neg h2, if_neg h1, e]
  · rw [if_neg e]
theorem mv_off {i l t j : Nat} (h : j ≠ i) : mvS c i l t j = c j := if_neg h
theorem mW_mv {i l t : Nat} (hW : mW σ n c) (ok : okS n c) (hi : i < n) : mW (uI (uI σ 22 21 0 i (nI l)) 22 21 0 (7 + i) (nI t)) n (mvS c i l t) := by
  refine ⟨by rw [rI_uI, if_neg (by simp), rI_uI, if_neg (by simp)]; exact hW.1, fun j hj => ?_, (mo_mv21 hW.2.2 ok hi).1⟩
  rw [mv_f (by decide) (by decide), mv_f (by decide) (by decide), mv_f (by decide) (by decide)]
  exact hW.2.1 j hj
theorem mo_lie {i l t l' t' : Nat} (hW : mW σ n (mvS c i l t)) (hC : mC σ n (mvS c i l t)) (ok : okS n c) (hi : i < n) (hl : l + c i 3 ≤ 12) (ht : t + c i 4 ≤ 8) (hl' : l' + c i 3 ≤ 12) (ht' : t' + c i 4 ≤ 8) (hN : 100 < N) :
    ∃ τ, f_X8_covering N (nI i) (uI (uI σ 22 21 0 i (nI l')) 22 21 0 (7 + i) (nI t')) = some τ ∧ mW τ n (mvS c i l' t') ∧ mC τ n (mvS c i l' t') ∧ Fr rgA σ τ := by
  have hn := ok.1
  have w2 := mW_mv (i := i) (l := l') (t := t') hW (okS_mv ok hi hl ht) hi
  rw [mv_mv] at w2
  refine ⟨cvS (uI (uI σ 22 21 0 i (nI l')) 22 21 0 (7 + i) (nI t')) i (cvr (mvS c i l' t' i)), sp_covering w2 ((okS_mv ok hi hl' ht').2.1 i hi).1 hi hn (by omega), mW_cv w2, mC_cv (c := mvS c i l t) hC (fun j _ h => by rw [mv_off h, mv_off h]), Fr_cv ((Fr.rf.uI (Or.inl ⟨rfl, Or.inr rfl, rfl⟩)).uI (Or.inl ⟨rfl, Or.inr rfl, rfl⟩)) (fun _ _ _ z => rgC_A z)⟩
theorem cl_lie {i l t l' t' : Nat} (hS : isScr σ 1 n (mvS c i l t)) (ok : okS n c) (hi : i < n) (hl' : l' + c i 3 ≤ 12) (ht' : t' + c i 4 ≤ 8) (hN : 100 < N) :
    ∃ τ, f_X2_lieAt N 1 i (nI l') (nI t') σ = some τ ∧ isScr τ 1 n (mvS c i l' t') ∧ Fr (scrR 1) σ τ := by
  have e : up (up (mvS c i l t i) 1 l') 2 t' = mvS c i l' t' i := by
    have := congrFun (mv_mv (c := c) (i := i) (l := l) (t := t) (l' := l') (t' := t')) i
    rw [← this]
    unfold mvS
    rw [if_pos rfl, if_pos rfl]
  obtain ⟨τ, h1, h2, h3⟩ := sp_lieAt N 1 i (c := l') (l := t') (hS.2 i hi) (by rw [e]; exact ((okS_mv ok hi hl' ht').2.1 i hi).1) (by omega)
  refine ⟨τ, h1, ?_, h3.mono (fun t a b z => ⟨Or.inr z.1, z.2.1⟩)⟩
  have h4 := isScr_pane hS h2 h3
  rw [e] at h4
  have e2 : (fun j => if j = i then mvS c i l' t' i else mvS c i l t j) = mvS c i l' t' := by
    funext j
    by_cases h : j = i
    · rw [if_pos h, h]
    · rw [if_neg h, mv_off h, mv_off h]
  rw [e2] at h4
  exact h4
/-- whether the pane may lie with its corner at a cell -/
def gpl (n : Nat) (c : Scr) (cl : Nat → Nat) (tl : Nat → Int32) (m i x : Nat) : Bool := decide (x % 12 + c i 3 ≤ 12 ∧ x / 12 + c i 4 ≤ 8) && agr n (mvS c i (x % 12) (x / 12)) cl tl m
theorem cl_places {i r m : Nat} {cl : Nat → Nat} {tl : Nat → Int32} (K : Int32 → Int32 → Int32 → Sg → Option (Int32 × Sg)) (hS : isScr σ 1 n c) (ok : okS n c) (hi : i < n) (hr : r < 6) (hp : prs σ r m cl tl) (hN : 100 < N) :
    ∃ a b v τ, L_X7_places_45 N K (nI r) i N 0 0 95 σ = K a b v τ ∧ Fr (scrR 1) σ τ ∧ a = nI (fb_ct (gpl n c cl tl m i) 96) ∧ (fb_ct (gpl n c cl tl m i) 96 = 0 ∨ ∃ x, x < 96 ∧ gpl n c cl tl m i x = true ∧ fb_ct (gpl n c cl tl m i) x = 0 ∧ b = nI x) := by
  have hn := ok.1
  obtain ⟨o0, o1, o2, o3, o4⟩ := (ok.2.1 i hi).1
  generalize hG : gpl n c cl tl m i = G
  refine lp_gen (fun q (s : Int32 × Int32 × Int32 × Sg) => L_X7_places_45 N K (nI r) i q s.1 s.2.1 s.2.2.1 s.2.2.2)
    (fun d s => d ≤ 96 ∧ s.2.2.1 = nI d - 1 ∧ s.1 = nI (fb_ct G 96 - fb_ct G d) ∧ (fb_ct G 96 = fb_ct G d ∨ ∃ x, x < 96 ∧ d ≤ x ∧ G x = true ∧ fb_ct G x = fb_ct G d ∧ s.2.1 = nI x) ∧ Fr (scrR 1) σ s.2.2.2 ∧ ∃ l t, l + c i 3 ≤ 12 ∧ t + c i 4 ≤ 8 ∧ isScr s.2.2.2 1 n (mvS c i l t))
    (fun o => ∃ a b v τ, o = K a b v τ ∧ Fr (scrR 1) σ τ ∧ a = nI (fb_ct G 96) ∧ (fb_ct G 96 = 0 ∨ ∃ x, x < 96 ∧ G x = true ∧ fb_ct G x = 0 ∧ b = nI x)) ?_ N 96 (0, 0, 95, σ) ⟨Nat.le_refl _, show (95 : Int32) = nI 96 - 1 by decide, by rw [Nat.sub_self]; rfl, Or.inl rfl, Fr.rf, c i 1, c i 2, by omega, by omega, by rw [mv_same]; exact hS⟩ (by omega)
  rintro q d ⟨a, b, v, τ⟩ ⟨hd, hv, ha, hb, hF, l, t, hl, ht, hT⟩
  dsimp only at hv ha hb hF hT ⊢
  subst hv
  rw [L_X7_places_45_s]
  rcases Nat.eq_zero_or_pos d with rfl | hd0
  · right
    refine ⟨a, b, _, τ, if_pos (by decide), hF, by rw [ha]; rfl, ?_⟩
    rcases hb with hb | ⟨x, h1, _, h2, h3, h4⟩
    · exact Or.inl hb
    · exact Or.inr ⟨x, h1, h2, h3, h4⟩
  · left
    obtain ⟨e, rfl⟩ : ∃ e, d = e + 1 := ⟨d - 1, by omega⟩
    have ev : nI (e + 1) - 1 = nI e := by rw [n1, pk_sub (by omega)]; rfl
    have hx : e % 12 < 12 := Nat.mod_lt _ (by decide)
    have hy : e / 12 < 8 := by omega
    have tx : (nI (e % 12)).toInt = (e % 12 : Nat) := nI_toInt (by omega)
    have ty : (nI (e / 12)).toInt = (e / 12 : Nat) := nI_toInt (by omega)
    have okm := okS_mv ok hi hl ht
    have hs := fb_ct_succ G e
    have hle : fb_ct G (e + 1) ≤ fb_ct G 96 := fb_ct_mono G (by omega)
    rw [ev, if_neg (show ¬ nI e < 0 by rw [n0]; exact nI_nlt (by omega) (by omega)), n12, pk_rem (by omega) (by decide) (by decide), pk_div (by omega) (by decide) (by decide), sp_fitsAt N 1 i (hT.2 i hi) (okm.2.1 i hi).1 (by rw [tx]; omega) (by rw [ty]; omega), Option.bind_some, b2n_z, tx, ty, mv_f (by decide) (by decide), mv_f (by decide) (by decide), m1_sub]
    by_cases hf : e % 12 + c i 3 ≤ 12 ∧ e / 12 + c i 4 ≤ 8
    · obtain ⟨υ, e3, t1, t2⟩ := cl_lie (l' := e % 12) (t' := e / 12) hT ok hi hf.1 hf.2 hN
      have f2 : Fr (scrR 1) σ υ := hF.tr t2 (fun _ _ _ z => z) (fun _ _ _ z => z)
      have e4 := sp_agrees (N := N) t1 (okS_mv ok hi hf.1 hf.2) (hp.fr f2 (fun z => by unfold scrR at z; omega) (fun z => by unfold scrR at z; omega)) (by omega)
      rw [decide_eq_true (show (0 ≤ ((e % 12 : Nat) : Int) ∧ ((e % 12 : Nat) : Int) + c i 3 ≤ 12) ∧ (0 ≤ ((e / 12 : Nat) : Int) ∧ ((e / 12 : Nat) : Int) + c i 4 ≤ 8) by omega), if_pos rfl]
      dsimp only
      rw [e3, Option.bind_some, gi hr (by decide), nI_clamp (by omega), e4, Option.bind_some, b2n_z, ha]
      have eG : G e = agr n (mvS c i (e % 12) (e / 12)) cl tl m := by
        rw [← hG]; unfold gpl; rw [decide_eq_true hf]; rfl
      by_cases hg : agr n (mvS c i (e % 12) (e / 12)) cl tl m = true
      · rw [hg] at eG
        rw [eG, if_pos rfl] at hs
        rw [if_pos hg, nI_1]
        exact ⟨(nI (fb_ct G 96 - fb_ct G (e + 1) + 1), nI e, nI e - 1, υ), e, by omega, rfl, by omega, rfl, by rw [show fb_ct G 96 - fb_ct G (e + 1) + 1 = fb_ct G 96 - fb_ct G e by omega], Or.inr ⟨e, by omega, Nat.le_refl _, eG, rfl, rfl⟩, f2, _, _, hf.1, hf.2, t1⟩
      · have hg' : agr n (mvS c i (e % 12) (e / 12)) cl tl m = false := by simpa using hg
        rw [hg'] at eG
        rw [eG, if_neg (by decide)] at hs
        rw [if_neg hg]
        refine ⟨(nI (fb_ct G 96 - fb_ct G (e + 1)), b, nI e - 1, υ), e, by omega, rfl, by omega, rfl, by rw [hs]; rfl, ?_, f2, _, _, hf.1, hf.2, t1⟩
        rcases hb with hb | ⟨x, h1, h2, h3, h4, h5⟩
        · exact Or.inl (by omega)
        · exact Or.inr ⟨x, h1, by omega, h3, by omega, h5⟩
    · have eG : G e = false := by
        rw [← hG]; unfold gpl; rw [decide_eq_false hf]; rfl
      rw [eG, if_neg (by decide)] at hs
      rw [decide_eq_false (show ¬ ((0 ≤ ((e % 12 : Nat) : Int) ∧ ((e % 12 : Nat) : Int) + c i 3 ≤ 12) ∧ (0 ≤ ((e / 12 : Nat) : Int) ∧ ((e / 12 : Nat) : Int) + c i 4 ≤ 8)) by omega), if_neg (by decide)]
      refine ⟨(a, b, nI e - 1, τ), e, by omega, rfl, by omega, rfl, by rw [ha, hs]; rfl, ?_, hF, l, t, hl, ht, hT⟩
      rcases hb with hb | ⟨x, h1, h2, h3, h4, h5⟩
      · exact Or.inl (by omega)
      · exact Or.inr ⟨x, h1, by omega, h3, by omega, h5⟩
theorem mo_places {i r m : Nat} {cl : Nat → Nat} {tl : Nat → Int32} (K : Int32 → Int32 → Int32 → Sg → Option (Int32 × Sg)) (hW : mW σ n c) (hC : mC σ n c) (ok : okS n c) (hi : i < n) (hr : r < 6) (hp : prM σ r m cl tl) (hN : 100 < N) :
    ∃ a b v τ, L_X8_places_36 N K (nI i) (nI r) N 0 (-9) 0 σ = K a b v τ ∧ Fr rgA σ τ ∧ a = nI (fb_ct (gpl n c cl tl m i) 96) ∧ (fb_ct (gpl n c cl tl m i) 96 = 0 ∨ ∃ x, x < 96 ∧ gpl n c cl tl m i x = true ∧ fb_ct (gpl n c cl tl m i) x = 0 ∧ b = nI x) := by
  have hn := ok.1
  obtain ⟨o0, o1, o2, o3, o4⟩ := (ok.2.1 i hi).1
  generalize hG : gpl n c cl tl m i = G
  obtain ⟨⟨a, b, τ⟩, e2, ha, hb, hF, -⟩ := up_rel (fun q v (s : Int32 × Int32 × Sg) => L_X8_places_36 N K (nI i) (nI r) q s.1 s.2.1 v s.2.2) (fun v s => K s.1 s.2.1 v s.2.2)
    (fun j s => s.1 = nI (fb_ct G j) ∧ (fb_ct G j = 0 ∨ ∃ x, x < j ∧ G x = true ∧ fb_ct G x = 0 ∧ s.2.1 = nI x) ∧ Fr rgA σ s.2.2 ∧ ∃ l t, l + c i 3 ≤ 12 ∧ t + c i 4 ≤ 8 ∧ mW s.2.2 n (mvS c i l t) ∧ mC s.2.2 n (mvS c i l t)) 96
    (fun q s h => by
      show L_X8_places_36 N _ (nI i) (nI r) (q + 1) _ _ _ _ = _
      rw [L_X8_places_36_s, n96, ile_t (Nat.le_refl _) (by decide)])
    (fun q j s hj h => by
      obtain ⟨a, b, τ⟩ := s
      obtain ⟨ha, hb, hF, l, t, hl, ht, hW2, hC2⟩ := h
      dsimp only at ha hb hF hW2 hC2
      show ∃ s' : Int32 × Int32 × Sg, L_X8_places_36 N K (nI i) (nI r) (q + 1) a b (nI j) τ = L_X8_places_36 N K (nI i) (nI r) q s'.1 s'.2.1 (nI (j + 1)) s'.2.2 ∧ _
      have hx : j % 12 < 12 := Nat.mod_lt _ (by decide)
      have hy : j / 12 < 8 := by omega
      have hs := fb_ct_succ G j
      have q3 : rI τ 22 12 0 i = nI (c i 3) := by rw [(hW2.2.1 i hi).2.1, mv_f (by decide) (by decide)]
      have q4 : rI τ 22 13 0 i = nI (c i 4) := by rw [(hW2.2.1 i hi).2.2, mv_f (by decide) (by decide)]
      rw [L_X8_places_36_s, n96, ile_f hj (by decide), gi (by omega) (by decide), gi (by omega) (by decide), nI_clamp (by omega), q3, q4, n12, n8, pk_sub (by omega), pk_sub (by omega), pk_rem (by omega) (by decide) (by decide), pk_div (by omega) (by decide) (by decide), nI_1]
      by_cases hf1 : j % 12 + c i 3 ≤ 12
      · rw [ilt_f (by omega) (by omega)]
        by_cases hf2 : j / 12 + c i 4 ≤ 8
        · rw [ilt_f (by omega) (by omega), z_add, n7, nI_add, gi (by omega) (by decide), gi (by omega) (by decide), nI_clamp (by omega), nI_clamp (by omega)]
          obtain ⟨υ, e3, t1, t2, t3⟩ := mo_lie (l' := j % 12) (t' := j / 12) hW2 hC2 ok hi hl ht hf1 hf2 hN
          have f2 : Fr rgA σ υ := frA_tr hF t3
          obtain ⟨ω, e4, f4⟩ := mo_isSo (N := N) t1 t2 (okS_mv ok hi hf1 hf2) hr (prM_A f2 hp) hN
          have f5 : Fr rgA σ ω := frA_tr f2 (f4.mono (fun _ _ _ z => rgV_A z))
          rw [e3, Option.bind_some, e4, Option.bind_some, b2n_z, ha]
          have eG : G j = agr n (mvS c i (j % 12) (j / 12)) cl tl m := by
            rw [← hG]; unfold gpl; rw [decide_eq_true ⟨hf1, hf2⟩]; rfl
          by_cases hg : agr n (mvS c i (j % 12) (j / 12)) cl tl m = true
          · rw [hg] at eG
            rw [eG, if_pos rfl] at hs
            rw [if_pos hg, nI_1]
            have hle := fb_ct_le G j
            by_cases h0 : fb_ct G j = 0
            · rw [iz_t h0]
              exact ⟨(nI (fb_ct G j + 1), nI j, ω), rfl, by rw [hs], Or.inr ⟨j, by omega, eG, h0, rfl⟩, f5, _, _, hf1, hf2, rgV_mW f4 t1, rgV_mC f4 t2⟩
            · rw [iz_f h0 (by omega)]
              refine ⟨(nI (fb_ct G j + 1), b, ω), rfl, by rw [hs], Or.inr ?_, f5, _, _, hf1, hf2, rgV_mW f4 t1, rgV_mC f4 t2⟩
              obtain ⟨x, h1, h2, h3, h4⟩ := hb.resolve_left h0
              exact ⟨x, by omega, h2, h3, h4⟩
          · have hg' : agr n (mvS c i (j % 12) (j / 12)) cl tl m = false := by simpa using hg
            rw [hg'] at eG
            rw [eG, if_neg (by decide)] at hs
            rw [if_neg hg]
            refine ⟨(nI (fb_ct G j), b, ω), rfl, by rw [hs]; rfl, ?_, f5, _, _, hf1, hf2, rgV_mW f4 t1, rgV_mC f4 t2⟩
            rcases hb with hb | ⟨x, h1, h2, h3, h4⟩
            · exact Or.inl (by omega)
            · exact Or.inr ⟨x, by omega, h2, h3, h4⟩
        · have eG : G j = false := by
            rw [← hG]; unfold gpl; rw [decide_eq_false (fun z => hf2 z.2)]; rfl
          rw [eG, if_neg (by decide)] at hs
          rw [ilt_t (by omega) (by omega)]
          refine ⟨(a, b, τ), rfl, by rw [ha, hs]; rfl, ?_, hF, l, t, hl, ht, hW2, hC2⟩
          rcases hb with hb | ⟨x, h1, h2, h3, h4⟩
          · exact Or.inl (by omega)
          · exact Or.inr ⟨x, by omega, h2, h3, h4⟩
      · have eG : G j = false := by
          rw [← hG]; unfold gpl; rw [decide_eq_false (fun z => hf1 z.1)]; rfl
        rw [eG, if_neg (by decide)] at hs
        rw [ilt_t (by omega) (by omega)]
        refine ⟨(a, b, τ), rfl, by rw [ha, hs]; rfl, ?_, hF, l, t, hl, ht, hW2, hC2⟩
        rcases hb with hb | ⟨x, h1, h2, h3, h4⟩
        · exact Or.inl (by omega)
        · exact Or.inr ⟨x, by omega, h2, h3, h4⟩)
    96 0 ((0 : Int32), (-9 : Int32), σ) N (by omega) ⟨rfl, Or.inl rfl, Fr.rf, c i 1, c i 2, by omega, by omega, by rw [mv_same]; exact hW, by rw [mv_same]; exact hC⟩ (by omega)
  exact ⟨a, b, _, τ, e2, hF, ha, hb⟩
theorem st_places (p0 p1 : Int32) (hN : 100 < N) : StepI (f_X7_places N p0 p1) (f_X8_places N p0 p1) := by
  intro σ hI
  obtain ⟨n, nd, D, hs⟩ := hI.2.2.2.2.2
  have ok := hs.ok
  have hn := ok.1
  have hs2 : iScr (th0 σ) n nd D := hs.q (tl_sc th0_fr)
  rcases rs_cases (N := N) hI.1 hs.scr ok p0 p1 hN with ⟨e1, e2⟩ | ⟨f, hf, e1, e2⟩ | ⟨i, r, m, cl, tl, hi, hr, rfl, rfl, hp, htl, e1, e2⟩
  · refine ⟨-1, σ, th0 σ, ?_, ?_, Inv_th0 hI⟩
    · unfold f_X7_places
      rw [e1]; rfl
    · unfold f_X8_places
      rw [← th0, e2 _ hs2.mS (fq_rows th0_fr)]; rfl
  · refine ⟨-3, fdS σ f, fdM (th0 (fdS σ f)) f, ?_, ?_, Inv_found hI hf⟩
    · unfold f_X7_places
      rw [e1]; rfl
    · unfold f_X8_places
      rw [← th0, e2 _ (fd_mS hs.mS) (fun k => ⟨rfl, rfl⟩)]; rfl
  · obtain ⟨τ0, k0, k1, k2⟩ := sp_become (N := N) (s := 1) (s' := 0) (by decide) hs.scr ok (by omega)
    have c0 : f_X7_places N (nI i) (nI r) σ = f_X7_places N (nI i) (nI r) σ := rfl
    conv at c0 =>
      rhs
      rw [f_X7_places, e1, Option.bind_some, if_pos rfl]
      dsimp only
      rw [k0, Option.bind_some, gi (show i < 7 by omega) (by decide), nI_clamp (show i < 2 ^ 31 by omega)]
    obtain ⟨a, b, v, τ, l1, l2, l3, l4⟩ := cl_places (N := N) (fun v5_6 v6_6 v7_6 σ_6 => if v5_6 = 0 then (some ((-9 : Int32), σ_6)) else (some (v5_6, uI σ_6 0 0 0 12 v6_6))) k1 ok hi hr (hp.fr k2 (fun z => by unfold scrR at z; omega) (fun z => by unfold scrR at z; omega)) hN
    rw [l1] at c0
    have q0 : Fq scR σ τ := (k2.q (fun _ _ _ _ z => scr1_sc z)).tr (l2.q (fun _ _ _ _ z => scr1_sc z)) (fun _ _ _ _ z => z) (fun _ _ _ _ z => z)
    have hle := fb_ct_le (gpl n (D nd) cl tl m i) 96
    have m0 : ∀ υ, Fq tlR σ υ → (∀ k, rI υ 22 7 0 k = rI σ 22 7 0 k ∧ rI υ 22 6 0 k = rI σ 22 6 0 k) → ∃ a b ω, f_X8_places N (nI i) (nI r) υ = (if a = 0 then (some ((-9 : Int32), ω)) else ((f_X8_tells N a b ω).bind (fun w7 => some (w7.1, w7.2)))) ∧ Fr rgA (th0 υ) ω ∧ a = nI (fb_ct (gpl n (D nd) cl tl m i) 96) ∧ (fb_ct (gpl n (D nd) cl tl m i) 96 = 0 ∨ ∃ x, x < 96 ∧ gpl n (D nd) cl tl m i x = true ∧ fb_ct (gpl n (D nd) cl tl m i) x = 0 ∧ b = nI x) := by
      intro υ hq hrow
      have hm : mS (th0 υ) n (D nd) := (hs.q (hq.tr (tl_sc th0_fr) (fun _ _ _ _ z => z) (fun _ _ _ _ z => z))).mS
      obtain ⟨e3, hpm⟩ := e2 (th0 υ) hm (fun k => hrow k)
      obtain ⟨τ1, a1, w1, f1⟩ := sp_asNow (N := N) (by omega) hm ok
      obtain ⟨τ2, a2, w2, c2, f2⟩ := sp_coveringAll (N := N) w1 ok (by omega)
      have fA : Fr rgA (th0 υ) τ2 := f1.tr f2 (fun _ _ _ z => rgW_A z) (fun _ _ _ z => rgC_A z)
      obtain ⟨a, b, v, ω, g1, g2, g3, g4⟩ := mo_places (N := N) (fun v4_6 v5_6 v6_6 σ_6 => if v4_6 = 0 then (some ((-9 : Int32), σ_6)) else ((f_X8_tells N v4_6 v5_6 σ_6).bind (fun w7 => some (w7.1, w7.2)))) w2 c2 ok hi hr (prM_A fA hpm) hN
      refine ⟨a, b, ω, ?_, frA_tr fA g2, g3, g4⟩
      unfold f_X8_places
      rw [← th0, e3, Option.bind_some, if_pos rfl]
      dsimp only
      rw [a1, Option.bind_some, a2, Option.bind_some, g1]
    by_cases hz : fb_ct (gpl n (D nd) cl tl m i) 96 = 0
    · rw [l3, iz_t hz] at c0
      obtain ⟨a', b', ω, g1, g2, g3, g4⟩ := m0 τ (tl_sc q0) (fq_rows q0)
      refine ⟨-9, τ, ω, c0, ?_, Inv_sc hI ((q0.tr th0_fr (fun _ _ _ _ z => z) (fun _ _ _ _ z => z)).tr (g2.q (fun _ _ _ _ => rgA_sc)) (fun _ _ _ _ z => z) (fun _ _ _ _ z => z))⟩
      rw [g1, g3, iz_t hz]
    · obtain ⟨x, x1, x2, x3, x4⟩ := l4.resolve_left hz
      rw [l3, iz_f hz (by omega), x4] at c0
      have qt : Fq tlR σ (tel τ (nI x)) := (tl_sc q0).uI (Or.inr (Or.inl ⟨rfl, rfl⟩))
      obtain ⟨a', b', ω, g1, g2, g3, g4⟩ := m0 (tel τ (nI x)) qt (fun k => fq_rows q0 k)
      obtain ⟨x', y1, y2, y3, y4⟩ := g4.resolve_left hz
      have ex : x' = x := fb_ct_kth_one y2 x2 (by omega)
      subst ex
      refine ⟨nI (fb_ct (gpl n (D nd) cl tl m i) 96), tel τ (nI x'), uI ω 21 0 0 1 (nI x'), c0, ?_, Inv_tells (Inv_sc hI q0) (g2.q (fun _ _ _ _ => rgA_sc))⟩
      rw [g1, g3, iz_f hz (by omega), y4, sp_tells, Option.bind_some]
end Places
