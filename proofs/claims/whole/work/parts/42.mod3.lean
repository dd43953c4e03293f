/-! frames by place -/
def Fq (R : Nat → Nat → Nat → Nat → Prop) (σ τ : Sg) : Prop := ∀ t i j k, ¬ R t i j k → rI τ t i j k = rI σ t i j k ∧ rL τ t i j k = rL σ t i j k
theorem Fq.rf {R : Nat → Nat → Nat → Nat → Prop} {σ : Sg} : Fq R σ σ := fun _ _ _ _ _ => ⟨rfl, rfl⟩
theorem Fq.tr {R R' R2 : Nat → Nat → Nat → Nat → Prop} {σ τ υ : Sg} (h : Fq R σ τ) (h' : Fq R' τ υ) (h1 : ∀ t i j k, R t i j k → R2 t i j k) (h2 : ∀ t i j k, R' t i j k → R2 t i j k) : Fq R2 σ υ :=
  fun t i j k hn => ⟨((h' t i j k (fun z => hn (h2 t i j k z))).1).trans (h t i j k (fun z => hn (h1 t i j k z))).1, ((h' t i j k (fun z => hn (h2 t i j k z))).2).trans (h t i j k (fun z => hn (h1 t i j k z))).2⟩
theorem Fq.mono {R R2 : Nat → Nat → Nat → Nat → Prop} {σ τ : Sg} (h : Fq R σ τ) (h1 : ∀ t i j k, R t i j k → R2 t i j k) : Fq R2 σ τ := fun t i j k hn => h t i j k (fun z => hn (h1 t i j k z))
theorem Fr.q {R : Nat → Nat → Nat → Prop} {R2 : Nat → Nat → Nat → Nat → Prop} {σ τ : Sg} (h : Fr R σ τ) (h1 : ∀ t i j k, R t i j → R2 t i j k) : Fq R2 σ τ := fun t i j k hn => h t i j (fun z => hn (h1 t i j k z)) k
theorem Fq.uI {R : Nat → Nat → Nat → Nat → Prop} {σ τ : Sg} (h : Fq R σ τ) {t i j k : Nat} {v : Int32} (hr : R t i j k) : Fq R σ (uI τ t i j k v) := fun a b c d hn => by
  obtain ⟨h1, h2⟩ := h a b c d hn
  refine ⟨?_, h2⟩
  rw [rI_uI, if_neg (fun e => hn (by rw [e.1, e.2.1, e.2.2.1, e.2.2.2]; exact hr))]
  exact h1
theorem Fq.uL {R : Nat → Nat → Nat → Nat → Prop} {σ τ : Sg} (h : Fq R σ τ) {t i j k : Nat} {v : Int64} (hr : R t i j k) : Fq R σ (uL τ t i j k v) := fun a b c d hn => by
  obtain ⟨h1, h2⟩ := h a b c d hn
  refine ⟨h1, ?_⟩
  rw [rL_uL, if_neg (fun e => hn (by rw [e.1, e.2.1, e.2.2.1, e.2.2.2]; exact hr))]
  exact h2
theorem Fq.uA {R : Nat → Nat → Nat → Nat → Prop} {σ τ : Sg} (h : Fq R σ τ) {t i j : Nat} {f : Nat → Int32} (hr : ∀ k, R t i j k) : Fq R σ (uA τ t i j f) := fun a b c d hn => by
  obtain ⟨h1, h2⟩ := h a b c d hn
  refine ⟨?_, h2⟩
  rw [rI_uA, if_neg (fun e => hn (by rw [e.1, e.2.1, e.2.2]; exact hr d))]
  exact h1
section Mod3
variable {N n : Nat} {σ : Sg} {c : Scr}
theorem isMod.cong {g h : Nat → Int32} (e : ∀ k, k < 22 → h k = g k) (hg : isMod g n c) (ok : okS n c) : isMod h n c := by
  have hn := ok.1
  refine ⟨fun i hi => ?_, (e 21 (by decide)).trans hg.2⟩
  have hp := (ok.2.1 i hi).2.1
  obtain ⟨a, b, d⟩ := hg.1 i hi
  exact ⟨(e i (by omega)).trans a, (e (7 + i) (by omega)).trans b, (e (14 + c i 5) (by omega)).trans d⟩
theorem opn_cong {a b : Scr} (h : eqS n a b) {i : Nat} (hi : i < n) : opn a i = opn b i := by
  unfold opn
  rw [h i hi 6 (by decide)]
theorem isMod.eq {g : Nat → Int32} {a b : Scr} (hg : isMod g n a) (e : eqS n a b) : isMod g n b := by
  refine ⟨fun i hi => ?_, ?_⟩
  · rw [← e i hi 1 (by decide), ← e i hi 2 (by decide), ← e i hi 5 (by decide)]
    exact hg.1 i hi
  · rw [hg.2, msk_cong (fun i hi => opn_cong e hi)]
/-- an order after one has gone from a place to another one -/
def og (g : Nat → Int32) (fr to_ : Nat) (k : Nat) : Int32 := if k = to_ then g fr else if fr ≤ k ∧ k < to_ then g (k + 1) else if to_ < k ∧ k ≤ fr then g (k - 1) else g k
theorem sp_comesTo {ai fr to_ : Nat} (hl : mlen ai = 22) (hf : fr < 7) (ht : to_ < 7) (hN : 7 < N) :
    ∃ τ, f_X8_comesTo N ai (nI fr) (nI to_) σ = some τ ∧ (∀ k, k < 7 → rI τ 22 ai 0 (14 + k) = og (fun k => rI σ 22 ai 0 (14 + k)) fr to_ k) ∧ Fq (fun t i j k => t = 22 ∧ i = ai ∧ j = 0 ∧ 14 ≤ k ∧ k < 21) σ τ := by
  unfold f_X8_comesTo
  rw [hl]
  simp (disch := omega) only [n14, nI_add, gi, nI_clamp]
  generalize hv : rI σ 22 ai 0 (14 + fr) = v0
  -- up
  obtain ⟨τ1, e1, h1, f1⟩ : ∃ τ1, L_X8_comesTo_11 N (fun v5_1 σ_1 => L_X8_comesTo_42 N (fun v5_2 σ_2 => some (uI σ_2 22 ai 0 (14 + to_) v0)) ai (nI to_) v0 N (nI fr) σ_1) ai (nI fr) (nI to_) v0 N (nI fr) σ = L_X8_comesTo_42 N (fun v5_2 σ_2 => some (uI σ_2 22 ai 0 (14 + to_) v0)) ai (nI to_) v0 N (nI fr) τ1 ∧ (∀ k, k < 7 → rI τ1 22 ai 0 (14 + k) = if fr ≤ k ∧ k < to_ then rI σ 22 ai 0 (14 + (k + 1)) else rI σ 22 ai 0 (14 + k)) ∧ Fq (fun t i j k => t = 22 ∧ i = ai ∧ j = 0 ∧ 14 ≤ k ∧ k < 21) σ τ1 := by
    by_cases hft : fr ≤ to_
    · obtain ⟨τ1, e1, h0, h1, f1⟩ := up_rel (fun m v τ => L_X8_comesTo_11 N (fun v5_1 σ_1 => L_X8_comesTo_42 N (fun v5_2 σ_2 => some (uI σ_2 22 ai 0 (14 + to_) v0)) ai (nI to_) v0 N (nI fr) σ_1) ai (nI fr) (nI to_) v0 m v τ) (fun _ τ => L_X8_comesTo_42 N (fun v5_2 σ_2 => some (uI σ_2 22 ai 0 (14 + to_) v0)) ai (nI to_) v0 N (nI fr) τ)
        (fun j τ => fr ≤ j ∧ (∀ k, k < 7 → rI τ 22 ai 0 (14 + k) = if fr ≤ k ∧ k < j then rI σ 22 ai 0 (14 + (k + 1)) else rI σ 22 ai 0 (14 + k)) ∧ Fq (fun t i j k => t = 22 ∧ i = ai ∧ j = 0 ∧ 14 ≤ k ∧ k < 21) σ τ) to_
        (fun m τ h => by
          show L_X8_comesTo_11 N _ ai (nI fr) (nI to_) v0 (m + 1) _ _ = _
          rw [L_X8_comesTo_11_s, ile_t (Nat.le_refl _) (by omega)])
        (fun m j τ hj h => by
          obtain ⟨h0, h1, h2⟩ := h
          refine ⟨uI τ 22 ai 0 (14 + j) (rI τ 22 ai 0 (14 + (j + 1))), ?_, by omega, fun k hk => ?_, h2.uI ⟨rfl, rfl, rfl, by omega, by omega⟩⟩
          · show L_X8_comesTo_11 N _ ai (nI fr) (nI to_) v0 (m + 1) _ _ = L_X8_comesTo_11 N _ ai (nI fr) (nI to_) v0 m _ _
            rw [L_X8_comesTo_11_s, ile_f hj (by omega), hl]
            simp (disch := omega) only [n14, nI_add, nI_1, gi, nI_clamp, Nat.add_assoc]
          · rw [rI_uI]
            by_cases hkj : k = j
            · subst hkj
              rw [if_pos ⟨rfl, rfl, rfl, rfl⟩, if_pos ⟨h0, by omega⟩, h1 (k + 1) (by omega), if_neg (by omega)]
            · rw [if_neg (fun z => hkj (by omega)), h1 k hk]
              by_cases hkk : fr ≤ k ∧ k < j
              · rw [if_pos hkk, if_pos (by omega)]
              · rw [if_neg hkk, if_neg (by omega)])
        (to_ - fr) fr σ N (by omega) ⟨Nat.le_refl _, fun k hk => by rw [if_neg (by omega)], Fq.rf⟩ (by omega)
      exact ⟨τ1, e1, h1, f1⟩
    · obtain ⟨m, rfl⟩ : ∃ m, N = m + 1 := ⟨N - 1, by omega⟩
      refine ⟨σ, ?_, fun k hk => by rw [if_neg (by omega)], Fq.rf⟩
      rw [L_X8_comesTo_11_s, ile_t (by omega) (by omega)]
  -- down
  obtain ⟨τ2, e2, h2, f2⟩ : ∃ τ2, L_X8_comesTo_42 N (fun v5_2 σ_2 => some (uI σ_2 22 ai 0 (14 + to_) v0)) ai (nI to_) v0 N (nI fr) τ1 = some (uI τ2 22 ai 0 (14 + to_) v0) ∧ (∀ k, k < 7 → rI τ2 22 ai 0 (14 + k) = if to_ < k ∧ k ≤ fr then rI τ1 22 ai 0 (14 + (k - 1)) else rI τ1 22 ai 0 (14 + k)) ∧ Fq (fun t i j k => t = 22 ∧ i = ai ∧ j = 0 ∧ 14 ≤ k ∧ k < 21) τ1 τ2 := by
    by_cases hft : to_ ≤ fr
    · refine lp_gen (fun q (s : Int32 × Sg) => L_X8_comesTo_42 N (fun v5_2 σ_2 => some (uI σ_2 22 ai 0 (14 + to_) v0)) ai (nI to_) v0 q s.1 s.2)
        (fun d s => ∃ j, j = to_ + d ∧ j ≤ fr ∧ s.1 = nI j ∧ (∀ k, k < 7 → rI s.2 22 ai 0 (14 + k) = if j < k ∧ k ≤ fr then rI τ1 22 ai 0 (14 + (k - 1)) else rI τ1 22 ai 0 (14 + k)) ∧ Fq (fun t i j k => t = 22 ∧ i = ai ∧ j = 0 ∧ 14 ≤ k ∧ k < 21) τ1 s.2)
        (fun o => ∃ τ2, o = some (uI τ2 22 ai 0 (14 + to_) v0) ∧ (∀ k, k < 7 → rI τ2 22 ai 0 (14 + k) = if to_ < k ∧ k ≤ fr then rI τ1 22 ai 0 (14 + (k - 1)) else rI τ1 22 ai 0 (14 + k)) ∧ Fq (fun t i j k => t = 22 ∧ i = ai ∧ j = 0 ∧ 14 ≤ k ∧ k < 21) τ1 τ2)
        ?_ N (fr - to_) (nI fr, τ1) ⟨fr, by omega, Nat.le_refl _, rfl, fun k hk => by rw [if_neg (by omega)], Fq.rf⟩ (by omega)
      rintro q d ⟨v, τ⟩ ⟨j, hj, hjf, h1, h2, h3⟩
      dsimp only at h1 h2 h3 ⊢
      subst h1
      rw [L_X8_comesTo_42_s]
      rcases Nat.eq_zero_or_pos d with h0 | h0
      · right
        refine ⟨τ, by rw [ile_t (by omega) (by omega)], fun k hk => ?_, h3⟩
        rw [h2 k hk, show j = to_ by omega]
      · left
        obtain ⟨i, rfl⟩ : ∃ i, j = i + 1 := ⟨j - 1, by omega⟩
        refine ⟨(nI i, uI τ 22 ai 0 (14 + (i + 1)) (rI τ 22 ai 0 (14 + i))), d - 1, by omega, ?_, i, by omega, by omega, rfl, fun k hk => ?_, h3.uI ⟨rfl, rfl, rfl, by omega, by omega⟩⟩
        · rw [ile_f (by omega) (by omega), hl, m1_sub, nI_pred]
          simp (disch := omega) only [n14, nI_add, n1, pk_sub, gi, nI_clamp, Nat.add_assoc, Nat.add_sub_cancel, show 14 + (i + 1) - 1 = 14 + i by omega]
        · dsimp only
          rw [rI_uI]
          by_cases hkj : k = i + 1
          · subst hkj
            rw [if_pos ⟨rfl, rfl, rfl, rfl⟩, if_pos ⟨by omega, by omega⟩, h2 i (by omega), if_neg (by omega), Nat.add_sub_cancel]
          · rw [if_neg (fun z => hkj (by omega)), h2 k hk]
            by_cases hkk : i + 1 < k ∧ k ≤ fr
            · rw [if_pos hkk, if_pos (by omega)]
            · rw [if_neg hkk, if_neg (by omega)]
    · obtain ⟨m, rfl⟩ : ∃ m, N = m + 1 := ⟨N - 1, by omega⟩
      refine ⟨τ1, ?_, fun k hk => by rw [if_neg (by omega)], Fq.rf⟩
      rw [L_X8_comesTo_42_s, ile_t (by omega) (by omega)]
  refine ⟨uI τ2 22 ai 0 (14 + to_) v0, e1.trans e2, fun k hk => ?_, (f1.tr f2 (fun _ _ _ _ z => z) (fun _ _ _ _ z => z)).uI ⟨rfl, rfl, rfl, by omega, by omega⟩⟩
  rw [rI_uI]
  unfold og
  by_cases a1 : k = to_
  · subst a1
    rw [if_pos ⟨rfl, rfl, rfl, rfl⟩, if_pos rfl]
    exact hv.symm
  · rw [if_neg (fun z => a1 (by omega)), if_neg a1, h2 k hk]
    by_cases a2 : fr ≤ k ∧ k < to_
    · rw [if_pos a2, if_neg (by omega), h1 k hk, if_pos a2]
    · rw [if_neg a2]
      by_cases a3 : to_ < k ∧ k ≤ fr
      · rw [if_pos a3, if_pos a3, h1 (k - 1) (by omega), if_neg (by omega)]
      · rw [if_neg a3, if_neg a3, h1 k hk, if_neg a2]
/-- .. is the order of the screen in which it has gone there -/
theorem og_mod {g h : Nat → Int32} {i to_ : Nat} (hg : isMod g n c) (ok : okS n c) (hi : i < n) (ht : to_ < n) (hk : ∀ k, k < 7 → h (14 + k) = og (fun k => g (14 + k)) (c i 5) to_ k) (hr : ∀ k, k < 22 → ¬ (14 ≤ k ∧ k < 21) → h k = g k) : isMod h n (plc c i to_) := by
  have hn := ok.1
  have hpi := (ok.2.1 i hi).2.1
  have p1 : ∀ j, plc c i to_ j 1 = c j 1 := fun j => by unfold plc; rw [if_neg (by decide)]
  have p2 : ∀ j, plc c i to_ j 2 = c j 2 := fun j => by unfold plc; rw [if_neg (by decide)]
  have p6 : ∀ j, opn (plc c i to_) j = opn c j := fun j => by unfold opn plc; rw [if_neg (by decide)]
  have p5 : ∀ j, plc c i to_ j 5 = if j = i then to_ else shp (c i 5) to_ (c j 5) := fun j => by unfold plc; rw [if_pos rfl]
  refine ⟨fun j hj => ⟨?_, ?_, ?_⟩, ?_⟩
  · rw [p1, hr j (by omega) (by omega)]; exact (hg.1 j hj).1
  · rw [p2, hr (7 + j) (by omega) (by omega)]; exact (hg.1 j hj).2.1
  · have hpj := (ok.2.1 j hj).2.1
    have gi' := (hg.1 i hi).2.2
    have gj := (hg.1 j hj).2.2
    rw [p5]
    by_cases e : j = i
    · subst e
      rw [if_pos rfl, hk to_ (by omega)]
      unfold og
      rw [if_pos rfl]; exact gi'
    · rw [if_neg e]
      have hne : c j 5 ≠ c i 5 := fun z => e (ok.2.2 j i hj hi z)
      unfold shp
      by_cases a1 : c i 5 < c j 5 ∧ c j 5 ≤ to_
      · rw [if_pos a1, hk (c j 5 - 1) (by omega)]
        unfold og
        rw [if_neg (by omega), if_pos (by omega), show c j 5 - 1 + 1 = c j 5 by omega]
        exact gj
      · rw [if_neg a1]
        by_cases a2 : to_ ≤ c j 5 ∧ c j 5 < c i 5
        · rw [if_pos a2, hk (c j 5 + 1) (by omega)]
          unfold og
          rw [if_neg (by omega), if_neg (by omega), if_pos (by omega), Nat.add_sub_cancel]
          exact gj
        · rw [if_neg a2, hk (c j 5) (by omega)]
          unfold og
          by_cases a3 : c j 5 = to_
          · omega
          · rw [if_neg a3, if_neg (by omega), if_neg (by omega)]
            exact gj
  · rw [hr 21 (by decide) (by decide), hg.2, msk_cong (fun j _ => (p6 j).symm)]
theorem shp_lt {a b q : Nat} (ha : a < n) (hb : b < n) (hq : q < n) (h : q ≠ a) : shp a b q < n ∧ shp a b q ≠ b := by
  unfold shp
  by_cases h1 : a < q ∧ q ≤ b
  · rw [if_pos h1]; omega
  · rw [if_neg h1]
    by_cases h2 : b ≤ q ∧ q < a
    · rw [if_pos h2]; omega
    · rw [if_neg h2]; omega
theorem shp_inj {a b q r : Nat} (hq : q ≠ a) (hr : r ≠ a) (h : shp a b q = shp a b r) : q = r := by
  unfold shp at h
  split at h <;> split at h <;> (try split at h) <;> (try split at h) <;> omega
theorem okS_plc {i to_ : Nat} (ok : okS n c) (hi : i < n) (ht : to_ < n) : okS n (plc c i to_) := by
  have hpi := (ok.2.1 i hi).2.1
  have p5 : ∀ j, plc c i to_ j 5 = if j = i then to_ else shp (c i 5) to_ (c j 5) := fun j => by unfold plc; rw [if_pos rfl]
  have pf : ∀ j f, f ≠ 5 → plc c i to_ j f = c j f := fun j f h => by unfold plc; rw [if_neg h]
  refine ⟨ok.1, fun j hj => ⟨?_, ?_, ?_⟩, fun j k hj hk h => ?_⟩
  · have := (ok.2.1 j hj).1
    unfold okB at this ⊢
    rw [pf j 0 (by decide), pf j 1 (by decide), pf j 2 (by decide), pf j 3 (by decide), pf j 4 (by decide)]
    exact this
  · rw [p5]
    by_cases e : j = i
    · rw [if_pos e]; exact ht
    · rw [if_neg e]
      exact (shp_lt hpi ht (ok.2.1 j hj).2.1 (fun z => e (ok.2.2 j i hj hi z))).1
  · rw [pf j 6 (by decide)]; exact (ok.2.1 j hj).2.2
  · rw [p5, p5] at h
    by_cases e1 : j = i <;> by_cases e2 : k = i
    · omega
    · rw [if_pos e1, if_neg e2] at h
      exact absurd h.symm (shp_lt hpi ht (ok.2.1 k hk).2.1 (fun z => e2 (ok.2.2 k i hk hi z))).2
    · rw [if_neg e1, if_pos e2] at h
      exact absurd h (shp_lt hpi ht (ok.2.1 j hj).2.1 (fun z => e1 (ok.2.2 j i hj hi z))).2
    · rw [if_neg e1, if_neg e2] at h
      exact ok.2.2 j k hj hk (shp_inj (fun z => e1 (ok.2.2 j i hj hi z)) (fun z => e2 (ok.2.2 k i hk hi z)) h)
/-- there and back -/
theorem plc_back {i to_ : Nat} (ok : okS n c) (hi : i < n) (ht : to_ < n) : eqS n (plc (plc c i to_) i (c i 5)) c := by
  intro j hj f hf
  have pi := (ok.2.1 i hi).2.1
  have pj := (ok.2.1 j hj).2.1
  unfold plc
  by_cases h5 : f = 5
  · subst h5
    simp only [if_true]
    by_cases e : j = i
    · rw [if_pos e, e]
    · have hne : c j 5 ≠ c i 5 := fun z => e (ok.2.2 j i hj hi z)
      rw [if_neg e, if_neg e]
      unfold shp
      split <;> split <;> (try split) <;> (try split) <;> omega
  · rw [if_neg h5, if_neg h5]
end Mod3
