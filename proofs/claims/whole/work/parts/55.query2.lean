section Query2
variable {N n nd : Nat} {σ : Sg} {D : Nat → Scr} {c : Scr}
theorem Fq_tth {v : Int32} : Fq tlR σ (th0 (tel σ v)) := tel_fr.tr th0_fr (fun _ _ _ _ z => z) (fun _ _ _ _ z => Or.inl z)
theorem ct0_any {P : Nat → Bool} {m : Nat} : fb_ct P m = 0 ↔ anyb P m = false := by
  rw [fb_ct_zero]
  constructor
  · intro h
    cases ha : anyb P m with
    | false => rfl
    | true =>
      obtain ⟨x, hx, hv⟩ := anyb_iff.mp ha
      rw [h x hx] at hv; cases hv
  · intro h x hx
    cases hv : P x with
    | false => rfl
    | true => rw [anyb_iff.mpr ⟨x, hx, hv⟩] at h; cases h
theorem sp_bur13 (K : Int32 → Int32 → Sg → Option (Int32 × Sg)) (hS : mS σ n c) (hV : mV σ n c) (ok : okS n c) (hN : 64 < N) : L_X8_buried_13 N K N 0 0 σ = K (nI (msk (bur n c) n)) (nI n) σ := by
  have hn := ok.1
  have q3 : rI σ 22 14 0 21 = nI (msk (opn c) n) := hS.2.2.2
  refine up_eq (fun m v s => L_X8_buried_13 N K m s v σ) (fun v s => K s v σ) (fun j => nI (msk (bur n c) j)) 0 n ?_ ?_ N (by omega) (by omega)
  · intro m
    show L_X8_buried_13 N K (m + 1) _ _ _ = _
    rw [L_X8_buried_13_s, hS.1, ile_t (Nat.le_refl _) (by omega)]
  · intro m j _ hj
    show L_X8_buried_13 N K (m + 1) _ _ _ = L_X8_buried_13 N K m _ _ _
    have hb := fb_ct_le (vis n c j) 96
    rw [L_X8_buried_13_s, hS.1, ile_f hj (by omega), gi21, cl21, q3, has_bit hj hn, Option.bind_some, b2n_z, nI_1 j]
    simp only [ior0]
    cases ho : opn c j with
    | false => rw [if_neg (by decide), msk_f (by unfold bur; rw [ho]; rfl)]
    | true =>
      rw [if_pos rfl, sp_cellsOf hV hj hn hN, Option.bind_some]
      dsimp only
      cases hc : anyb (vis n c j) 96 with
      | false => rw [iz_t (ct0_any.mpr hc), msk_t (by unfold bur; rw [ho, hc]; rfl) (by omega)]
      | true =>
        have h0 := ct_any.mpr hc
        rw [iz_f (by omega) (by omega), msk_f (by unfold bur; rw [hc]; simp)]
theorem st_buried (hN : 100 < N) : StepI (f_X7_buried N) (f_X8_buried N) := by
  intro σ hI
  obtain ⟨n, nd, D, hs⟩ := hI.2.2.2.2.2
  have ok := hs.ok
  have hn := ok.1
  generalize hv : (96 : Int32) - nI (fb_ct (fun x => anyb (fun j => opn (D nd) j && cvr (D nd j) x) n) 96) = v
  have hs1 : iScr (tel σ v) n nd D := hs.q tel_fr
  have hs3 : iScr (th0 (tel σ v)) n nd D := hs.q Fq_tth
  obtain ⟨τ, e, s1, s2, s3, s4, s5⟩ := sp_sees (N := N) hs3.mS ok (by omega)
  refine ⟨nI (msk (bur n (D nd)) n), tel σ v, uI τ 21 0 0 1 v, ?_, ?_, Inv_tells hI (s5.q (fun _ _ _ _ => rgA_sc))⟩
  · unfold f_X7_buried
    rw [sp_cellsShow hs.scr ok (by omega), Option.bind_some]
    dsimp only
    rw [hv, show uI σ 0 0 0 12 v = tel σ v from rfl, sp_unseen hs1.scr ok (by omega)]
    rfl
  · unfold f_X8_buried
    rw [th_d, e, Option.bind_some, sp_bur13 _ s1 s4 ok (by omega), mo_shown s1.1 s4 ok (by omega), Option.bind_some]
    dsimp only
    rw [hv]
    rfl
theorem st_both (p0 p1 : Int32) (hN : 100 < N) : StepI (f_X7_both N p0 p1) (f_X8_both N p0 p1) := by
  intro σ hI
  obtain ⟨n, nd, D, hs⟩ := hI.2.2.2.2.2
  have ok := hs.ok
  have hn := ok.1
  have hs2 : iScr (th0 σ) n nd D := hs.q (tl_sc th0_fr)
  by_cases hi : 0 ≤ p0.toInt ∧ p0.toInt < (n : Nat)
  · by_cases hj : 0 ≤ p1.toInt ∧ p1.toInt < (n : Nat)
    · by_cases hij : p0 = p1
      · refine ⟨-1, σ, th0 σ, ?_, ?_, Inv_th0 hI⟩
        · unfold f_X7_both
          rw [sp_has hs.scr hn, Option.bind_some, b2n_z, decide_eq_true hi, if_pos rfl, sp_has hs.scr hn, Option.bind_some, b2n_z, decide_eq_true hj, if_pos rfl, if_pos hij]
        · unfold f_X8_both
          rw [th_d, sp_isPane hs2.mS.1 hn, Option.bind_some, b2n_z, decide_eq_true hi, if_pos rfl, sp_isPane hs2.mS.1 hn, Option.bind_some, b2n_z, decide_eq_true hj, if_pos rfl, if_pos hij]
      · obtain ⟨i, hin, rfl⟩ := in_nI hi (by omega)
        obtain ⟨j, hjn, rfl⟩ := in_nI hj (by omega)
        have ri := rk_lt ok hin
        have rj := rk_lt ok hjn
        generalize hv : (if rk (D nd i) ≤ rk (D nd j) then nI j else nI i) = v
        have hs1 : iScr (tel σ v) n nd D := hs.q tel_fr
        have hs3 : iScr (th0 (tel σ v)) n nd D := hs.q Fq_tth
        obtain ⟨τ, e, s1, s2, s3, s4, s5⟩ := sp_sees (N := N) hs3.mS ok (by omega)
        refine ⟨nI (fb_ct (fun x => cvr (D nd i) x && cvr (D nd j) x) 96), tel σ v, uI τ 21 0 0 1 v, ?_, ?_, Inv_tells hI (s5.q (fun _ _ _ _ => rgA_sc))⟩
        · unfold f_X7_both
          rw [sp_has hs.scr hn, Option.bind_some, b2n_z, decide_eq_true hi, if_pos rfl, sp_has hs.scr hn, Option.bind_some, b2n_z, decide_eq_true hj, if_pos rfl, if_neg hij]
          simp (disch := omega) only [gi, nI_clamp, sp_rank N 0 i (hs.scr.2 i hin) (ok.2.1 i hin).1, sp_rank N 0 j (hs.scr.2 j hjn) (ok.2.1 j hjn).1, Option.bind_some]
          by_cases hr : rk (D nd i) ≤ rk (D nd j)
          · rw [if_pos hr] at hv
            rw [ile_t hr (by omega), hv, show uI σ 0 0 0 12 v = tel σ v from rfl, sp_shared N 0 i 0 j (hs1.scr.2 i hin) (hs1.scr.2 j hjn)]
            rfl
          · rw [if_neg hr] at hv
            rw [ile_f (by omega) (by omega), hv, show uI σ 0 0 0 12 v = tel σ v from rfl, sp_shared N 0 i 0 j (hs1.scr.2 i hin) (hs1.scr.2 j hjn)]
            rfl
        · unfold f_X8_both
          rw [th_d, sp_isPane hs3.mS.1 hn, Option.bind_some, b2n_z, decide_eq_true hi, if_pos rfl, sp_isPane hs3.mS.1 hn, Option.bind_some, b2n_z, decide_eq_true hj, if_pos rfl, if_neg hij]
          simp (disch := omega) only [e, Option.bind_some, gi, nI_clamp, (s3 i hin).1, (s3 i hin).2, (s3 j hjn).1, (s3 j hjn).2, L_and, ones_msk _ (show 64 < N by omega), sp_isOver s1 ok hin hjn (show 7 < N by omega), b2n_z, sp_tells]
          have ec : nI (fb_ct (fun x => cvr (D nd i) x && cvr (D nd j) x) 48) + nI (fb_ct (fun x => cvr (D nd i) (48 + x) && cvr (D nd j) (48 + x)) 48) = nI (fb_ct (fun x => cvr (D nd i) x && cvr (D nd j) x) 96) := ct96 (fun x => cvr (D nd i) x && cvr (D nd j) x)
          rw [ec]
          by_cases hr : rk (D nd i) ≤ rk (D nd j)
          · rw [if_pos hr] at hv
            rw [decide_eq_false (by omega), if_neg (by decide), hv]
          · rw [if_neg hr] at hv
            rw [decide_eq_true (by omega), if_pos rfl, hv]
    · refine ⟨-1, σ, th0 σ, ?_, ?_, Inv_th0 hI⟩
      · unfold f_X7_both
        rw [sp_has hs.scr hn, Option.bind_some, b2n_z, decide_eq_true hi, if_pos rfl, sp_has hs.scr hn, Option.bind_some, b2n_z, decide_eq_false hj]; rfl
      · unfold f_X8_both
        rw [th_d, sp_isPane hs2.mS.1 hn, Option.bind_some, b2n_z, decide_eq_true hi, if_pos rfl, sp_isPane hs2.mS.1 hn, Option.bind_some, b2n_z, decide_eq_false hj]; rfl
  · refine ⟨-1, σ, th0 σ, ?_, ?_, Inv_th0 hI⟩
    · unfold f_X7_both
      rw [sp_has hs.scr hn, Option.bind_some, b2n_z, decide_eq_false hi]; rfl
    · unfold f_X8_both
      rw [th_d, sp_isPane hs2.mS.1 hn, Option.bind_some, b2n_z, decide_eq_false hi]; rfl
/-- whether a pane is there and open -/
theorem ro_cases (hS : isScr σ 0 n c) (ok : okS n c) (p : Int32) :
    (f_X7_refusalOfOpen N p σ = some (-1, σ) ∧ ¬ (0 ≤ p.toInt ∧ p.toInt < (n : Nat)) ∧ ∀ τ, mS τ n c → f_X8_againstOpen N p τ = some (-1, τ)) ∨
    (f_X7_refusalOfOpen N p σ = some (-4, σ) ∧ (0 ≤ p.toInt ∧ p.toInt < (n : Nat)) ∧ ∀ τ, mS τ n c → f_X8_againstOpen N p τ = some (-4, τ)) ∨
    ∃ i, i < n ∧ p = nI i ∧ opn c i = true ∧ f_X7_refusalOfOpen N p σ = some (0, σ) ∧ (0 ≤ p.toInt ∧ p.toInt < (n : Nat)) ∧ ∀ τ, mS τ n c → f_X8_againstOpen N p τ = some (0, τ) := by
  have hn := ok.1
  by_cases hi : 0 ≤ p.toInt ∧ p.toInt < (n : Nat)
  · right
    obtain ⟨i, hin, rfl⟩ := in_nI hi (by omega)
    have c1 : f_X7_refusalOfOpen N (nI i) σ = if opn c i then some (0, σ) else some (-4, σ) := by
      unfold f_X7_refusalOfOpen
      rw [sp_has hS hn, Option.bind_some, b2n_z, decide_eq_true hi, if_pos rfl, gi (by omega) (by decide), nI_clamp (by omega)]
      dsimp only
      rw [hS.o ok hin, b2n_z]
    have m1 : ∀ τ, mS τ n c → f_X8_againstOpen N (nI i) τ = if opn c i then some (0, τ) else some (-4, τ) := by
      intro τ hm
      have q3 : rI τ 22 14 0 21 = nI (msk (opn c) n) := hm.2.2.2
      unfold f_X8_againstOpen
      rw [sp_isPane hm.1 hn, Option.bind_some, b2n_z, decide_eq_true hi, if_pos rfl, gi21, cl21]
      dsimp only
      rw [q3, has_bit hin hn, Option.bind_some, b2n_z]
    cases ho : opn c i with
    | false =>
      rw [ho] at c1 m1
      exact Or.inl ⟨c1, hi, m1⟩
    | true =>
      simp only [ho] at c1 m1
      exact Or.inr ⟨i, hin, rfl, ho, c1, hi, m1⟩
  · left
    refine ⟨?_, hi, fun τ hm => ?_⟩
    · unfold f_X7_refusalOfOpen
      rw [sp_has hS hn, Option.bind_some, b2n_z, decide_eq_false hi]; rfl
    · unfold f_X8_againstOpen
      rw [sp_isPane hm.1 hn, Option.bind_some, b2n_z, decide_eq_false hi]; rfl
theorem st_free (p0 : Int32) (hN : 100 < N) : StepI (f_X7_free N p0) (f_X8_free N p0) := by
  intro σ hI
  obtain ⟨n, nd, D, hs⟩ := hI.2.2.2.2.2
  have ok := hs.ok
  have hn := ok.1
  have hs2 : iScr (th0 σ) n nd D := hs.q (tl_sc th0_fr)
  rcases ro_cases (N := N) hs.scr ok p0 with ⟨e1, -, e2⟩ | ⟨e1, -, e2⟩ | ⟨i, hin, rfl, ho, e1, -, e2⟩
  · refine ⟨-1, σ, th0 σ, ?_, ?_, Inv_th0 hI⟩
    · unfold f_X7_free; rw [e1]; rfl
    · unfold f_X8_free; rw [th_d, e2 _ hs2.mS]; rfl
  · refine ⟨-4, σ, th0 σ, ?_, ?_, Inv_th0 hI⟩
    · unfold f_X7_free; rw [e1]; rfl
    · unfold f_X8_free; rw [th_d, e2 _ hs2.mS]; rfl
  · generalize hv : nI (fb_ct (itw n (D nd) i) n) = v
    have hs3 : iScr (th0 (tel σ v)) n nd D := hs.q Fq_tth
    obtain ⟨τ, e, s1, s2, s3, s4, s5⟩ := sp_sees (N := N) hs3.mS ok (by omega)
    refine ⟨nI (msk (itw n (D nd) i) n), tel σ v, uI τ 21 0 0 1 v, ?_, ?_, Inv_tells hI (s5.q (fun _ _ _ _ => rgA_sc))⟩
    · unfold f_X7_free
      rw [e1, Option.bind_some, if_pos rfl, sp_inTheWay hs.scr ok hin (by omega), Option.bind_some, bcI_msk N _ hn, hv]
      rfl
    · unfold f_X8_free
      rw [th_d, e2 _ hs3.mS, Option.bind_some, if_pos rfl]
      simp only [e, Option.bind_some, sp_overIt s1 s3 ok hin (show 7 < N by omega), ones_set _ hn (show 64 < N by omega), sp_tells, hv]
/-! what a kind tells -/
theorem sp_isOne {k o : Nat} (hk : k < 6) (ho : o < 6) (h1 : 1 ≤ o) : f_X8_isOne N (nI k) (nI o) σ = some (nI (b2n (iof k o)), σ) := by
  unfold f_X8_isOne iof
  rcases (by omega : k = 0 ∨ k = 1 ∨ k = 2 ∨ k = 3 ∨ k = 4 ∨ k = 5) with rfl | rfl | rfl | rfl | rfl | rfl <;> rcases (by omega : o = 1 ∨ o = 2 ∨ o = 3 ∨ o = 4 ∨ o = 5) with rfl | rfl | rfl | rfl | rfl <;> rfl
theorem sp_mark59 {i : Nat} (hS : mS σ n c) (ok : okS n c) (hi : i < n) (hN : 7 < N) : L_X8_mark_59 N (fun v3_6 _ => some (v3_6, σ)) σ N 0 (nI (c i 5 + 1)) = some (nI (fb_ct (fun j => decide (c i 5 < c j 5) && !decide (c j 0 = 3)) n), σ) := by
  have hn := ok.1
  have hpi := (ok.2.1 i hi).2.1
  have h := up_eq (fun m v s => L_X8_mark_59 N (fun v3_6 _ => some (v3_6, σ)) σ m s v) (fun v s => some (s, σ)) (fun e => nI (fb_ct (fun j => decide (c i 5 < c j 5 ∧ c j 5 < e) && !decide (c j 0 = 3)) n)) (c i 5 + 1) n ?_ ?_ N (by omega) (by omega)
  · have e0 : fb_ct (fun j => decide (c i 5 < c j 5 ∧ c j 5 < c i 5 + 1) && !decide (c j 0 = 3)) n = 0 := fb_ct_zero.mpr (fun j _ => by rw [decide_eq_false (by omega)]; rfl)
    simp only [e0] at h
    refine Eq.trans h ?_
    rw [fb_ct_cong (fun j hj => by
      have := (ok.2.1 j hj).2.1
      show (decide (c i 5 < c j 5 ∧ c j 5 < n) && !decide (c j 0 = 3)) = (decide (c i 5 < c j 5) && !decide (c j 0 = 3))
      rw [decide_eq_decide.mpr (show (c i 5 < c j 5 ∧ c j 5 < n) ↔ c i 5 < c j 5 by omega)])]
  · intro m
    show L_X8_mark_59 N _ σ (m + 1) _ _ = _
    rw [L_X8_mark_59_s, hS.1, ile_t (Nat.le_refl _) (by omega)]
  · intro m e he1 he
    show L_X8_mark_59 N _ σ (m + 1) _ _ = L_X8_mark_59 N _ σ m _ _
    obtain ⟨j, hj, hje⟩ := ord_at ok he
    have g : rI σ 22 14 0 (14 + e) = nI j := by rw [← hje]; exact (hS.2.2.1 j hj).2.2
    have k0 := (ok.2.1 j hj).1.1
    rw [L_X8_mark_59_s, hS.1, ile_f he (by omega), n14, nI_add, gi (by omega) (by decide), nI_clamp (by omega), g, gi (by omega) (by decide), nI_clamp (by omega), (hS.2.1 j hj).1, nI_1 e]
    have hst : fb_ct (fun k => decide (c i 5 < c k 5 ∧ c k 5 < e + 1) && !decide (c k 0 = 3)) n = fb_ct (fun k => decide (c i 5 < c k 5 ∧ c k 5 < e) && !decide (c k 0 = 3)) n + b2n (!decide (c j 0 = 3)) := by
      rw [← fb_ct_one (fun k => decide (c i 5 < c k 5 ∧ c k 5 < e) && !decide (c k 0 = 3)) hj (by rw [decide_eq_false (by omega)]; rfl)]
      refine fb_ct_cong (fun k hk => ?_)
      by_cases ek : k = j
      · subst ek
        rw [decide_eq_true (show c i 5 < c k 5 ∧ c k 5 < e + 1 by omega), decide_eq_false (show ¬ (c i 5 < c k 5 ∧ c k 5 < e) by omega)]
        simp
      · have hne : c k 5 ≠ e := fun z => ek (ok.2.2 k j hk hj (by omega))
        have ed : decide (c i 5 < c k 5 ∧ c k 5 < e + 1) = decide (c i 5 < c k 5 ∧ c k 5 < e) := by rw [decide_eq_decide]; omega
        rw [ed]
        simp [ek]
    rw [hst]
    by_cases h3 : c j 0 = 3
    · rw [n3, ieq_t h3, decide_eq_true h3, n0, nI_add]; rfl
    · rw [n3, ieq_f h3 (by omega) (by decide), decide_eq_false h3, n1, nI_add]; rfl
theorem mW_kind {i k : Nat} (hW : mW σ n c) : mW (uI σ 22 20 0 i (nI k)) n (sets c i 0 k) := by
  obtain ⟨w0, w1, w2, w3⟩ := hW
  refine ⟨by rw [rI_uI, if_neg (by simp)]; exact w0, fun j hj => ⟨?_, ?_, ?_⟩, fun j hj => ⟨?_, ?_, ?_⟩, ?_⟩
  · rw [rI_uI]
    unfold sets
    by_cases e : j = i
    · rw [if_pos ⟨rfl, rfl, rfl, e⟩, if_pos ⟨e, rfl⟩]
    · rw [if_neg (fun z => e z.2.2.2), if_neg (fun z => e z.1)]; exact (w1 j hj).1
  · rw [rI_uI, if_neg (by simp)]
    unfold sets
    rw [if_neg (by simp)]; exact (w1 j hj).2.1
  · rw [rI_uI, if_neg (by simp)]
    unfold sets
    rw [if_neg (by simp)]; exact (w1 j hj).2.2
  · dsimp only
    rw [rI_uI, if_neg (by simp)]
    unfold sets
    rw [if_neg (by simp)]; exact (w2 j hj).1
  · dsimp only
    rw [rI_uI, if_neg (by simp)]
    unfold sets
    rw [if_neg (by simp)]; exact (w2 j hj).2.1
  · dsimp only
    rw [rI_uI, if_neg (by simp)]
    unfold sets
    rw [if_neg (by simp)]; exact (w2 j hj).2.2
  · dsimp only
    rw [rI_uI, if_neg (by simp)]
    have : msk (opn (sets c i 0 k)) n = msk (opn c) n := msk_cong (fun j _ => by unfold opn sets; rw [if_neg (by simp)])
    rw [this]; exact w3
theorem cvr_kind {i k : Nat} (x : Nat) : cvr (sets c i 0 k i) x = cvk k (c i) x := by
  unfold cvr cvk ibx rch sets
  simp
theorem okB_kind {i k : Nat} (ok : okB (c i)) (hk : k < 6) : okB (sets c i 0 k i) := by
  unfold okB sets at *
  simp
  omega
theorem st_mark (p0 p1 : Int32) (hN : 100 < N) : StepI (f_X7_mark N p0 p1) (f_X8_mark N p0 p1) := by
  intro σ hI
  obtain ⟨n, nd, D, hs⟩ := hI.2.2.2.2.2
  have ok := hs.ok
  have hn := ok.1
  have hs2 : iScr (th0 σ) n nd D := hs.q (tl_sc th0_fr)
  have e1 : (p1 ≤ 0) ↔ p1.toInt ≤ 0 := fa_le p1 0
  have e2 : (p1 < (6 : Int32)) ↔ p1.toInt < 6 := fa_lt p1 6
  have z1 : (1 : Int32).toInt = 1 := by decide
  have z5 : (5 : Int32).toInt = 5 := by decide
  by_cases hi : 0 ≤ p0.toInt ∧ p0.toInt < (n : Nat)
  · by_cases hk : 1 ≤ p1.toInt ∧ p1.toInt ≤ 5
    · obtain ⟨i, hin, rfl⟩ := in_nI hi (by omega)
      obtain ⟨k, hk6, rfl⟩ := in_nI (p := p1) (n := 6) ⟨by omega, by omega⟩ (by decide)
      have hk1 : 1 ≤ k := by rw [nI_toInt (by omega)] at hk; omega
      have oki := (ok.2.1 i hin).1
      have e6 : ∀ d : Nat, ((nI k).toInt = 3 + (d : Int)) ↔ k = 3 + d := by
        intro d; rw [nI_toInt (by omega)]; omega
      cases hof : iof (D nd i 0) k with
      | false =>
        refine ⟨-3, fdS σ 3, fdM (th0 (fdS σ 3)) 3, ?_, ?_, Inv_found hI (by decide)⟩
        · unfold f_X7_mark
          rw [sp_has hs.scr hn, Option.bind_some, b2n_z, decide_eq_true hi, if_pos rfl, if_neg (fun z => by have := e1.mp z; omega), if_pos (e2.mpr (by omega)), gi (by omega) (by decide), nI_clamp (by omega), hs.scr.f hin (by decide), sp_isOf oki.1 hk6, Option.bind_some, b2n_z, hof, if_neg (by decide), n3, sp_found7 (by decide)]
          rfl
        · have hs4 : iScr (th0 (fdS σ 3)) n nd D := by
            refine iScr_fr (R := fdR) ?_ hs (fun t i j k ha hb => by simp only [fScr, fdR, scR, fFind] at ha hb; omega)
            unfold th0 fdS
            refine Fq.uI (Fq.uI (Fq.uI Fq.rf ?_) ?_) ?_ <;> simp [fdR, scR, fFind]
          unfold f_X8_mark
          rw [th_d, sp_isPane hs4.mS.1 hn, Option.bind_some, b2n_z, decide_eq_true hi, if_pos rfl, sp_in, Option.bind_some, b2n_z, z1, z5, decide_eq_true hk, if_pos rfl, gi (by omega) (by decide), nI_clamp (by omega), (hs4.mS.2.1 i hin).1, sp_isOne oki.1 hk6 hk1, Option.bind_some, b2n_z, hof, if_neg (by decide), n3, sp_found8 (by decide)]
          rfl
      | true =>
        have c0 : f_X7_mark N (nI i) (nI k) σ = some ((if k = 3 then nI (fb_ct (fun j => decide (D nd i 5 < D nd j 5) && !decide (D nd j 0 = 3)) n) else if k = 4 then nI (fb_ct (cvk 1 (D nd i)) 96) - nI (fb_ct (cvr (D nd i)) 96) else if k = 5 then nI (fb_ct (cvk 2 (D nd i)) 96) - nI (fb_ct (cvr (D nd i)) 96) else nI (D nd i 3) * nI (D nd i 4) - nI (fb_ct (cvr (D nd i)) 96)), σ) := by
          unfold f_X7_mark
          rw [sp_has hs.scr hn, Option.bind_some, b2n_z, decide_eq_true hi, if_pos rfl, if_neg (fun z => by have := e1.mp z; omega), if_pos (e2.mpr (by omega)), gi (by omega) (by decide), nI_clamp (by omega), hs.scr.f hin (by decide), sp_isOf oki.1 hk6, Option.bind_some, b2n_z, hof, if_pos rfl]
          simp only [e6, n1, n2, sp_notTop hs.scr ok hin (show 7 < N by omega), sp_coveredAs N 0 i (hs.scr.2 i hin).bx oki (show 1 < 6 by decide) (show 12 < N by omega), sp_coveredAs N 0 i (hs.scr.2 i hin).bx oki (show 2 < 6 by decide) (show 12 < N by omega), sp_covered N 0 i (hs.scr.2 i hin), Option.bind_some, hs.scr.f hin (show 3 < 7 by decide), hs.scr.f hin (show 4 < 7 by decide)]
          rcases (by omega : k = 1 ∨ k = 2 ∨ k = 3 ∨ k = 4 ∨ k = 5) with rfl | rfl | rfl | rfl | rfl <;> rfl
        suffices hM : ∃ τ, f_X8_mark N (nI i) (nI k) σ = some ((if k = 3 then nI (fb_ct (fun j => decide (D nd i 5 < D nd j 5) && !decide (D nd j 0 = 3)) n) else if k = 4 then nI (fb_ct (cvk 1 (D nd i)) 96) - nI (fb_ct (cvr (D nd i)) 96) else if k = 5 then nI (fb_ct (cvk 2 (D nd i)) 96) - nI (fb_ct (cvr (D nd i)) 96) else nI (D nd i 3) * nI (D nd i 4) - nI (fb_ct (cvr (D nd i)) 96)), τ) ∧ Fq scR (th0 σ) τ by
          obtain ⟨τ, e, hf⟩ := hM
          exact ⟨_, σ, τ, c0, e, Inv_sc (Inv_th0 hI) hf⟩
        unfold f_X8_mark
        rw [th_d, sp_isPane hs2.mS.1 hn, Option.bind_some, b2n_z, decide_eq_true hi, if_pos rfl, sp_in, Option.bind_some, b2n_z, z1, z5, decide_eq_true hk, if_pos rfl, gi (by omega) (by decide), nI_clamp (by omega), (hs2.mS.2.1 i hin).1, sp_isOne oki.1 hk6 hk1, Option.bind_some, b2n_z, hof, if_pos rfl]
        by_cases h3 : k = 3
        · subst h3
          refine ⟨th0 σ, ?_, Fq.rf⟩
          rw [n3, ieq_t rfl, sp_placeOf hs2.mS.2.2 ok hin (by omega), Option.bind_some]
          dsimp only
          rw [nI_1, sp_mark59 hs2.mS ok hin (by omega)]
          rfl
        · rw [n3, ieq_f h3 (by omega) (by decide), if_neg h3]
          obtain ⟨τ1, x1, w1, f1⟩ := sp_asNow (N := N) (by omega) hs2.mS ok
          have x2 := sp_covering (N := N) w1 oki hin hn (by omega)
          have ca := cv_at (σ := τ1) (i := i) (P := cvr (D nd i))
          have x3 := sp_coveredOf (N := N) ca.1 ca.2 (show i < 7 by omega) (by omega)
          have f2 : Fq scR (th0 σ) (cvS τ1 i (cvr (D nd i))) := (f1.q (fun t a b k z => rgA_sc (rgW_A z))).tr ((Fr_cv (R := rgC) (τ := τ1) Fr.rf (fun _ _ _ z => z)).q (fun t a b k z => rgA_sc (rgC_A z))) (fun _ _ _ _ z => z) (fun _ _ _ _ z => z)
          simp only [x1, Option.bind_some, x2, x3]
          by_cases hk3 : 3 ≤ k
          · rw [ile_t hk3 (by omega)]
            have key : ∀ k', k' < 6 → ∃ τ, (f_X8_covering N (nI i) (uI (cvS τ1 i (cvr (D nd i))) 22 20 0 i (nI k'))).bind (fun w10 => (f_X8_coveredOf N (nI i) w10).bind (fun w11 => some (w11.1 - nI (fb_ct (cvr (D nd i)) 96), w11.2))) = some (nI (fb_ct (cvk k' (D nd i)) 96) - nI (fb_ct (cvr (D nd i)) 96), τ) ∧ Fq scR (th0 σ) τ := by
              intro k' hk'
              have w2 : mW (uI (cvS τ1 i (cvr (D nd i))) 22 20 0 i (nI k')) n (sets (D nd) i 0 k') := mW_kind (mW_cv w1)
              have y2 := sp_covering (N := N) w2 (okB_kind oki hk') hin hn (by omega)
              have cb := cv_at (σ := uI (cvS τ1 i (cvr (D nd i))) 22 20 0 i (nI k')) (i := i) (P := cvr (sets (D nd) i 0 k' i))
              have y3 := sp_coveredOf (N := N) cb.1 cb.2 (show i < 7 by omega) (by omega)
              refine ⟨cvS (uI (cvS τ1 i (cvr (D nd i))) 22 20 0 i (nI k')) i (cvr (sets (D nd) i 0 k' i)), ?_, (f2.uI (R := scR) (t := 22) (i := 20) (j := 0) (k := i) (v := nI k') (by unfold scR; omega)).tr ((Fr_cv (R := rgC) Fr.rf (fun _ _ _ z => z)).q (R2 := scR) (fun t a b k z => rgA_sc (rgC_A z))) (fun _ _ _ _ z => z) (fun _ _ _ _ z => z)⟩
              rw [y2, Option.bind_some, y3, Option.bind_some, fb_ct_cong (fun x _ => cvr_kind x)]
            by_cases h4 : k = 4
            · subst h4
              simp (disch := omega) only [gi, nI_clamp, n4, n1, n2]
              simp only [if_true]
              exact key 1 (by decide)
            · have h5 : k = 5 := by omega
              subst h5
              simp (disch := omega) only [gi, nI_clamp, n4, n1, n2]
              rw [ieq_f (by decide) (by decide) (by decide), if_neg (by decide)]
              simp only [if_true]
              exact key 2 (by decide)
          · refine ⟨cvS τ1 i (cvr (D nd i)), ?_, f2⟩
            have g3 : rI (cvS τ1 i (cvr (D nd i))) 22 12 0 i = nI (D nd i 3) := (w1.2.1 i hin).2.1
            have g4 : rI (cvS τ1 i (cvr (D nd i))) 22 13 0 i = nI (D nd i 4) := (w1.2.1 i hin).2.2
            rw [ile_f (by omega) (by omega)]
            simp (disch := omega) only [gi, nI_clamp, g3, g4]
            rw [if_neg (by omega), if_neg (by omega)]
    · refine ⟨-1, σ, th0 σ, ?_, ?_, Inv_th0 hI⟩
      · unfold f_X7_mark
        rw [sp_has hs.scr hn, Option.bind_some, b2n_z, decide_eq_true hi, if_pos rfl]
        simp only [e1, e2]
        by_cases a : p1.toInt ≤ 0
        · rw [if_pos a]
        · rw [if_neg a, if_neg (by omega)]
      · unfold f_X8_mark
        rw [th_d, sp_isPane hs2.mS.1 hn, Option.bind_some, b2n_z, decide_eq_true hi, if_pos rfl, sp_in, Option.bind_some, b2n_z, z1, z5, decide_eq_false hk]; rfl
  · refine ⟨-1, σ, th0 σ, ?_, ?_, Inv_th0 hI⟩
    · unfold f_X7_mark
      rw [sp_has hs.scr hn, Option.bind_some, b2n_z, decide_eq_false hi]; rfl
    · unfold f_X8_mark
      rw [th_d, sp_isPane hs2.mS.1 hn, Option.bind_some, b2n_z, decide_eq_false hi]; rfl
end Query2
