section Query
variable {N n nd : Nat} {σ : Sg} {D : Nat → Scr}
theorem rgA_sc {t i j k : Nat} (h : rgA t i j) : scR t i j k := by unfold rgA at h; unfold scR; omega
theorem iScr.mS (h : iScr σ n nd D) : mS σ n (D nd) := ⟨h.2.2.2.2.1.1, h.2.2.2.2.1.2, h.2.2.2.1.1⟩
theorem iScr.ok (h : iScr σ n nd D) : okS n (D nd) := (h.2.1.2 nd (Nat.le_refl _)).1
theorem iScr.scr (h : iScr σ n nd D) : isScr σ 0 n (D nd) := h.2.2.1.1
theorem iScr.q {τ : Sg} (h : iScr σ n nd D) (hf : Fq tlR σ τ) : iScr τ n nd D := iScr_fr hf h (fun t i j k ha hb => by simp only [fScr, tlR, scR, fTold] at ha hb; omega)
theorem tl_sc {τ : Sg} (h : Fq scR σ τ) : Fq tlR σ τ := h.mono (fun _ _ _ _ z => Or.inl z)
def tel (σ : Sg) (v : Int32) : Sg := uI σ 0 0 0 12 v
theorem tel_fr {v : Int32} : Fq tlR σ (tel σ v) := Fq.rf.uI (Or.inr (Or.inl ⟨rfl, rfl⟩))
/-- the end of a call that tells a number -/
theorem Inv_tells {τ : Sg} {v : Int32} (hI : Inv σ) (h : Fq scR (th0 (tel σ v)) τ) : Inv (uI τ 21 0 0 1 v) := by
  have f0 : Fq tlR σ (th0 (tel σ v)) := tel_fr.tr th0_fr (fun _ _ _ _ z => z) (fun _ _ _ _ z => Or.inl z)
  have f : Fq tlR σ (uI τ 21 0 0 1 v) := (f0.tr h (fun _ _ _ _ z => z) (fun _ _ _ _ z => Or.inl z)).uI (Or.inr (Or.inr ⟨rfl, rfl⟩))
  refine Inv_tell hI f ?_
  unfold iTold
  have a := (h 0 0 0 12 (by unfold scR; omega)).1
  rw [rI_uI, if_neg (by simp), rI_uI, if_pos ⟨rfl, rfl, rfl, rfl⟩, a]
  unfold th0 tel
  simp [rI_uI]
theorem sp_tells (a b : Int32) : f_X8_tells N a b σ = some (a, uI σ 21 0 0 1 b) := rfl
theorem sp_isPane {p : Int32} (h : rI σ 21 0 0 10 = nI n) (hn : n ≤ 7) : f_X8_isPane N p σ = some (nI (b2n (decide (0 ≤ p.toInt ∧ p.toInt < (n : Nat)))), σ) := by
  unfold f_X8_isPane
  rw [h, sp_in, in_le p (m := n) _ _ (by decide) (sub1_toInt (by omega))]
  rfl
theorem st_asked : StepI (f_X7_asked N) (f_X8_asked N) := by
  intro σ hI
  refine ⟨rI σ 0 0 0 12, σ, th0 σ, rfl, ?_, Inv_th0 hI⟩
  unfold f_X8_asked
  rw [th_d, th0_rI (by omega), ← hI.2.2.1]
theorem st_finding : StepI (f_X7_finding N) (f_X8_finding N) := by
  intro σ hI
  refine ⟨rI σ 0 0 0 11, σ, th0 σ, rfl, ?_, Inv_th0 hI⟩
  unfold f_X8_finding
  rw [th_d, th0_rI (by omega), ← hI.2.2.2.2.1.1]
theorem st_upper : StepL (f_X7_upper N) (f_X8_upper N) := by
  intro σ hI
  refine ⟨rL σ 0 0 0 13, σ, th0 σ, rfl, ?_, Inv_th0 hI⟩
  unfold f_X8_upper
  rw [th_d, th0_rL, ← hI.2.2.2.1.1]
theorem st_lower : StepL (f_X7_lower N) (f_X8_lower N) := by
  intro σ hI
  refine ⟨rL σ 0 0 0 14, σ, th0 σ, rfl, ?_, Inv_th0 hI⟩
  unfold f_X8_lower
  rw [th_d, th0_rL, ← hI.2.2.2.1.2.1]
theorem st_findings (p0 : Int32) : StepI (f_X7_findings N p0) (f_X8_findings N p0) := by
  intro σ hI
  have e1 : (p0 < 1) ↔ p0.toInt < 1 := fa_lt p0 1
  have e2 : (p0 ≤ (5 : Int32)) ↔ p0.toInt ≤ 5 := fa_le p0 5
  have z1 : (1 : Int32).toInt = 1 := by decide
  have z5 : (5 : Int32).toInt = 5 := by decide
  by_cases h : 1 ≤ p0.toInt ∧ p0.toInt ≤ 5
  · obtain ⟨f, hf, rfl⟩ := in_nI (p := p0) (n := 6) ⟨by omega, by omega⟩ (by decide)
    refine ⟨rI σ 20 0 0 f, σ, th0 σ, ?_, ?_, Inv_th0 hI⟩
    · unfold f_X7_findings
      rw [if_neg (fun z => by have := e1.mp z; omega), if_pos (e2.mpr h.2), gi hf (by decide), nI_clamp (by omega)]
    · unfold f_X8_findings
      rw [th_d, sp_in, Option.bind_some, b2n_z, z1, z5, decide_eq_true h, if_pos rfl, gi hf (by decide), nI_clamp (by omega), th0_rI (by omega), ← hI.2.2.2.2.1.2 f hf]
  · refine ⟨-1, σ, th0 σ, ?_, ?_, Inv_th0 hI⟩
    · unfold f_X7_findings
      simp only [e1, e2]
      by_cases a : p0.toInt < 1
      · rw [if_pos a]
      · rw [if_neg a, if_neg (by omega)]
    · unfold f_X8_findings
      rw [th_d, sp_in, Option.bind_some, b2n_z, z1, z5, decide_eq_false h]; rfl
theorem sp_isCell (p : Int32) : f_X7_isCell N p σ = some (nI (b2n (decide (0 ≤ p.toInt ∧ p.toInt < (96 : Nat)))), σ) := by
  unfold f_X7_isCell
  have e1 : (p < 0) ↔ p.toInt < 0 := fa_lt p 0
  have e2 : ((96 : Int32) ≤ p) ↔ 96 ≤ p.toInt := fa_le 96 p
  simp only [e1, e2]
  by_cases a1 : p.toInt < 0
  · rw [if_pos a1, decide_eq_false (by omega)]; rfl
  · by_cases a2 : 96 ≤ p.toInt
    · rw [if_neg a1, if_pos a2, decide_eq_false (by omega)]; rfl
    · rw [if_neg a1, if_neg a2, decide_eq_true (by omega)]; rfl
theorem st_covers (p0 p1 : Int32) : StepI (f_X7_covers N p0 p1) (f_X8_covers N p0 p1) := by
  intro σ hI
  obtain ⟨n, nd, D, hs⟩ := hI.2.2.2.2.2
  have ok := hs.ok
  have hn := ok.1
  have hs2 : iScr (th0 σ) n nd D := hs.q (tl_sc th0_fr)
  by_cases hi : 0 ≤ p0.toInt ∧ p0.toInt < (n : Nat)
  · by_cases hx : 0 ≤ p1.toInt ∧ p1.toInt < (96 : Nat)
    · obtain ⟨i, hin, rfl⟩ := in_nI hi (by omega)
      obtain ⟨x, hx96, rfl⟩ := in_nI hx (by decide)
      refine ⟨nI (b2n (cvr (D nd i) x)), σ, th0 σ, ?_, ?_, Inv_th0 hI⟩
      · unfold f_X7_covers
        rw [sp_has hs.scr hn, Option.bind_some, b2n_z, decide_eq_true hi, if_pos rfl, sp_isCell, Option.bind_some, b2n_z, decide_eq_true hx, if_pos rfl, gi (by omega) (by decide), nI_clamp (by omega), sp_hasCell N 0 i (hs.scr.2 i hin) hx96, Option.bind_some, b2n_z]
        cases cvr (D nd i) x <;> rfl
      · obtain ⟨m0, m1, m2, m3⟩ := hs2.mS
        unfold f_X8_covers
        rw [th_d, sp_isPane m0 hn, Option.bind_some, b2n_z, decide_eq_true hi, if_pos rfl, sp_in, in_le (nI x) (m := 96) _ _ (by decide) (by decide), Option.bind_some, b2n_z, decide_eq_true hx, if_pos rfl]
        have q1 : rI (th0 σ) 22 14 0 i = nI (D nd i 1) := (m2 i hin).1
        have q2 : rI (th0 σ) 22 14 0 (7 + i) = nI (D nd i 2) := (m2 i hin).2.1
        simp (disch := omega) only [gi, nI_clamp, z_add, n7, nI_add, (m1 i hin).1, q1, q2, sp_isCovered (N := N) (m1 i hin).2.1 (m1 i hin).2.2 (ok.2.1 i hin).1 (ok.2.1 i hin).1.1 (show i < 7 by omega) hx96, Option.bind_some, b2n_z]
        have e : cvk (D nd i 0) (D nd i) x = cvr (D nd i) x := rfl
        rw [e]
        cases cvr (D nd i) x <;> rfl
    · refine ⟨-1, σ, th0 σ, ?_, ?_, Inv_th0 hI⟩
      · unfold f_X7_covers
        rw [sp_has hs.scr hn, Option.bind_some, b2n_z, decide_eq_true hi, if_pos rfl, sp_isCell, Option.bind_some, b2n_z, decide_eq_false hx]; rfl
      · unfold f_X8_covers
        rw [th_d, sp_isPane hs2.mS.1 hn, Option.bind_some, b2n_z, decide_eq_true hi, if_pos rfl, sp_in, in_le p1 (m := 96) _ _ (by decide) (by decide), Option.bind_some, b2n_z, decide_eq_false hx]; rfl
  · refine ⟨-1, σ, th0 σ, ?_, ?_, Inv_th0 hI⟩
    · unfold f_X7_covers
      rw [sp_has hs.scr hn, Option.bind_some, b2n_z, decide_eq_false hi]; rfl
    · unfold f_X8_covers
      rw [th_d, sp_isPane hs2.mS.1 hn, Option.bind_some, b2n_z, decide_eq_false hi]; rfl
/-! of a pane -/
def pv (n : Nat) (c : Scr) (i k : Nat) : Nat := if k = 7 then fb_ct (vis n c i) 96 else c i k
theorem sp_ofPane7 {c : Scr} {i k : Nat} (hS : isScr σ 0 n c) (ok : okS n c) (hi : i < n) (hk : k < 8) (hN : 7 < N) : f_X7_ofPane N (nI i) (nI k) σ = some (nI (pv n c i k), σ) := by
  have hn := ok.1
  have e6 : ∀ d : Nat, ((nI k).toInt = 0 + (d : Int)) ↔ k = d := by
    intro d; rw [nI_toInt (by omega)]; omega
  unfold f_X7_ofPane pv
  rw [gi (by omega) (by decide), nI_clamp (by omega), hS.o ok hi, b2n_z, sp_shownNow hS ok hi hN]
  simp only [hS.f hi (show 0 < 7 by decide), hS.f hi (show 1 < 7 by decide), hS.f hi (show 2 < 7 by decide), hS.f hi (show 3 < 7 by decide), hS.f hi (show 4 < 7 by decide), hS.f hi (show 5 < 7 by decide), e6, Option.bind_some]
  rcases (by omega : k = 0 ∨ k = 1 ∨ k = 2 ∨ k = 3 ∨ k = 4 ∨ k = 5 ∨ k = 6 ∨ k = 7) with rfl | rfl | rfl | rfl | rfl | rfl | rfl | rfl
  · rfl
  · rfl
  · rfl
  · rfl
  · rfl
  · rfl
  · have h := (ok.2.1 i hi).2.2
    unfold opn
    rcases (by omega : c i 6 = 0 ∨ c i 6 = 1) with e | e <;> simp [e, n0, n1]
  · rfl
theorem sp_ofPane8 {c : Scr} {i k : Nat} (hS : mS σ n c) (ok : okS n c) (hi : i < n) (hk : k < 8) (hN : 64 < N) : ∃ τ, f_X8_ofPane N (nI i) (nI k) σ = some (nI (pv n c i k), τ) ∧ Fr rgA σ τ := by
  have hn := ok.1
  have hM := hS.2.2
  obtain ⟨m0, m1, m2, m3⟩ := hS
  have e6 : ∀ d : Nat, d < 8 → ((nI k = nI d) ↔ k = d) := fun d hd => nI_eq (by omega) (by omega)
  obtain ⟨τ, e, s1, s2, s3, s4, s5⟩ := sp_sees (N := N) ⟨m0, m1, m2, m3⟩ ok hN
  have q1 : rI σ 22 14 0 i = nI (c i 1) := (m2 i hi).1
  have q2 : rI σ 22 14 0 (7 + i) = nI (c i 2) := (m2 i hi).2.1
  have q3 : rI σ 22 14 0 21 = nI (msk (opn c) n) := m3
  by_cases h7 : k = 7
  · subst h7
    refine ⟨τ, ?_, s5⟩
    unfold f_X8_ofPane pv
    rw [n5, ile_t (by decide) (by decide), n7, ieq_t rfl, e, Option.bind_some, sp_cellsOf s4 hi hn hN]
    rfl
  · refine ⟨σ, ?_, Fr.rf⟩
    unfold f_X8_ofPane pv
    rw [if_neg h7]
    simp (disch := omega) only [gi, nI_clamp, z_add, n7, nI_add, (m1 i hi).1, (m1 i hi).2.1, (m1 i hi).2.2, q1, q2, q3, gi21, cl21, sp_placeOf hM ok hi (show 7 < N by omega), Option.bind_some, I_bitM _ (show n ≤ 31 by omega) hi]
    rcases (by omega : k = 0 ∨ k = 1 ∨ k = 2 ∨ k = 3 ∨ k = 4 ∨ k = 5 ∨ k = 6) with rfl | rfl | rfl | rfl | rfl | rfl | rfl
    · rfl
    · rfl
    · rfl
    · rfl
    · rfl
    · rfl
    · have h := (ok.2.1 i hi).2.2
      rw [n5, ile_t (by decide) (by decide), ieq_f (by decide) (by decide) (by decide), ieq_f (by decide) (by decide) (by decide)]
      unfold opn
      rcases (by omega : c i 6 = 0 ∨ c i 6 = 1) with e | e <;> simp [e]
theorem st_pane (p0 p1 : Int32) (hN : 100 < N) : StepI (f_X7_pane N p0 p1) (f_X8_pane N p0 p1) := by
  intro σ hI
  obtain ⟨n, nd, D, hs⟩ := hI.2.2.2.2.2
  have ok := hs.ok
  have hn := ok.1
  have hs2 : iScr (th0 σ) n nd D := hs.q (tl_sc th0_fr)
  have e1 : (p1 < 0) ↔ p1.toInt < 0 := fa_lt p1 0
  have e2 : (p1 ≤ (7 : Int32)) ↔ p1.toInt ≤ 7 := fa_le p1 7
  by_cases hi : 0 ≤ p0.toInt ∧ p0.toInt < (n : Nat)
  · by_cases hk : 0 ≤ p1.toInt ∧ p1.toInt < (8 : Nat)
    · obtain ⟨i, hin, rfl⟩ := in_nI hi (by omega)
      obtain ⟨k, hk8, rfl⟩ := in_nI hk (by decide)
      have hs3 : iScr (th0 (tel σ (nI (pv n (D nd) i k)))) n nd D := hs.q (tel_fr.tr th0_fr (fun _ _ _ _ z => z) (fun _ _ _ _ z => Or.inl z))
      obtain ⟨τ, e, hf⟩ := sp_ofPane8 (N := N) hs3.mS ok hin hk8 (by omega)
      refine ⟨1, tel σ (nI (pv n (D nd) i k)), uI τ 21 0 0 1 (nI (pv n (D nd) i k)), ?_, ?_, Inv_tells hI (hf.q (fun _ _ _ _ => rgA_sc))⟩
      · unfold f_X7_pane
        rw [sp_has hs.scr hn, Option.bind_some, b2n_z, decide_eq_true hi, if_pos rfl, if_neg (fun z => by have := e1.mp z; omega), if_pos (e2.mpr (by omega)), sp_ofPane7 hs.scr ok hin hk8 (by omega)]
        rfl
      · unfold f_X8_pane
        rw [th_d, sp_isPane hs3.mS.1 hn, Option.bind_some, b2n_z, decide_eq_true hi, if_pos rfl, sp_in, in_le (nI k) (m := 8) _ _ (by decide) (by decide), Option.bind_some, b2n_z, decide_eq_true hk, if_pos rfl]
        simp only [e, Option.bind_some, sp_tells]
    · refine ⟨-1, σ, th0 σ, ?_, ?_, Inv_th0 hI⟩
      · unfold f_X7_pane
        rw [sp_has hs.scr hn, Option.bind_some, b2n_z, decide_eq_true hi, if_pos rfl]
        simp only [e1, e2]
        by_cases a : p1.toInt < 0
        · rw [if_pos a]
        · rw [if_neg a, if_neg (by omega)]
      · unfold f_X8_pane
        rw [th_d, sp_isPane hs2.mS.1 hn, Option.bind_some, b2n_z, decide_eq_true hi, if_pos rfl, sp_in, in_le p1 (m := 8) _ _ (by decide) (by decide), Option.bind_some, b2n_z, decide_eq_false hk]; rfl
  · refine ⟨-1, σ, th0 σ, ?_, ?_, Inv_th0 hI⟩
    · unfold f_X7_pane
      rw [sp_has hs.scr hn, Option.bind_some, b2n_z, decide_eq_false hi]; rfl
    · unfold f_X8_pane
      rw [th_d, sp_isPane hs2.mS.1 hn, Option.bind_some, b2n_z, decide_eq_false hi]; rfl
/-! who is seen -/
theorem sp_seen39 {c : Scr} {x : Nat} (K : Int32 → Int32 → Sg → Option (Int32 × Sg)) (a : Int32) (hS : mS σ n c) (hC : mC σ n c) (ok : okS n c) (hx : x < 96) (hN : 7 < N) : L_X8_seen_39 N K (nI x) a N 0 0 σ = K (nI (fb_ct (fun j => opn c j && cvr (c j) x) n)) (nI n) σ := by
  have hn := ok.1
  have q3 : rI σ 22 14 0 21 = nI (msk (opn c) n) := hS.2.2.2
  refine up_eq (fun m v s => L_X8_seen_39 N K (nI x) a m s v σ) (fun v s => K s v σ) (fun j => nI (fb_ct (fun j => opn c j && cvr (c j) x) j)) 0 n ?_ ?_ N (by omega) (by omega)
  · intro m
    show L_X8_seen_39 N K (nI x) a (m + 1) _ _ _ = _
    rw [L_X8_seen_39_s, hS.1, ile_t (Nat.le_refl _) (by omega)]
  · intro m j _ hj
    show L_X8_seen_39 N K (nI x) a (m + 1) _ _ _ = L_X8_seen_39 N K (nI x) a m _ _ _
    rw [L_X8_seen_39_s, hS.1, ile_f hj (by omega), gi21, cl21, q3, has_bit hj hn, Option.bind_some, b2n_z, nI_1 j]
    cases ho : opn c j with
    | false => rw [if_neg (by decide), ct_f0 (p := fun j => opn c j && cvr (c j) x) (by simp [ho])]
    | true =>
      rw [if_pos rfl, sp_isCoverAt hC hj hn hx, Option.bind_some, b2n_z]
      cases hc : cvr (c j) x with
      | false => rw [if_neg (by decide), ct_f0 (p := fun j => opn c j && cvr (c j) x) (by simp [hc])]
      | true => rw [if_pos rfl, ct_t (p := fun j => opn c j && cvr (c j) x) (by simp [ho, hc])]
theorem st_seen (p0 : Int32) (hN : 100 < N) : StepI (f_X7_seen N p0) (f_X8_seen N p0) := by
  intro σ hI
  obtain ⟨n, nd, D, hs⟩ := hI.2.2.2.2.2
  have ok := hs.ok
  have hn := ok.1
  have hs2 : iScr (th0 σ) n nd D := hs.q (tl_sc th0_fr)
  by_cases hx : 0 ≤ p0.toInt ∧ p0.toInt < (96 : Nat)
  · obtain ⟨x, hx96, rfl⟩ := in_nI hx (by decide)
    rcases whoI_cases ok x with ⟨i, hi, hv, hw⟩ | ⟨hv, hw⟩
    · generalize hc : nI (fb_ct (fun j => opn (D nd) j && cvr (D nd j) x) n) = v
      have hs3 : iScr (th0 (tel σ v)) n nd D := hs.q (tel_fr.tr th0_fr (fun _ _ _ _ z => z) (fun _ _ _ _ z => Or.inl z))
      obtain ⟨τ, e, s1, s2, s3, s4, s5⟩ := sp_sees (N := N) hs3.mS ok (by omega)
      refine ⟨nI i, tel σ v, uI τ 21 0 0 1 v, ?_, ?_, Inv_tells hI (s5.q (fun _ _ _ _ => rgA_sc))⟩
      · unfold f_X7_seen
        rw [sp_isCell, Option.bind_some, b2n_z, decide_eq_true hx, if_pos rfl, sp_whoAt hs.scr ok hx96 (by omega), Option.bind_some, hw, if_neg (nI_ne_m1 (by omega)), sp_howManyCover hs.scr ok hx96 (by omega), hc]
        rfl
      · unfold f_X8_seen
        rw [th_d, sp_in, in_le (nI x) (m := 96) _ _ (by decide) (by decide), Option.bind_some, b2n_z, decide_eq_true hx, if_pos rfl]
        simp only [e, Option.bind_some]
        rw [mo_whoAt s1.1 s4 hn hx96 (by omega), Option.bind_some, hw, if_pos (nI_pos' (by omega)), sp_seen39 _ _ s1 s3 ok hx96 (by omega), hc]
        rfl
    · obtain ⟨τ, e, s1, s2, s3, s4, s5⟩ := sp_sees (N := N) hs2.mS ok (by omega)
      refine ⟨-9, σ, τ, ?_, ?_, Inv_sc (Inv_th0 hI) (s5.q (fun _ _ _ _ => rgA_sc))⟩
      · unfold f_X7_seen
        rw [sp_isCell, Option.bind_some, b2n_z, decide_eq_true hx, if_pos rfl, sp_whoAt hs.scr ok hx96 (by omega), Option.bind_some, hw, if_pos rfl]
      · unfold f_X8_seen
        rw [th_d, sp_in, in_le (nI x) (m := 96) _ _ (by decide) (by decide), Option.bind_some, b2n_z, decide_eq_true hx, if_pos rfl]
        simp only [e, Option.bind_some]
        rw [mo_whoAt s1.1 s4 hn hx96 (by omega), Option.bind_some, hw, if_neg (show ¬ (0 : Int32) ≤ -1 by decide)]
  · refine ⟨-1, σ, th0 σ, ?_, ?_, Inv_th0 hI⟩
    · unfold f_X7_seen
      rw [sp_isCell, Option.bind_some, b2n_z, decide_eq_false hx]; rfl
    · unfold f_X8_seen
      rw [th_d, sp_in, in_le p0 (m := 96) _ _ (by decide) (by decide), Option.bind_some, b2n_z, decide_eq_false hx]; rfl
end Query
