section Count
variable {N n nd : Nat} {σ : Sg} {D : Nat → Scr} {c : Scr}
theorem fb_ct_cut {P : Nat → Bool} {m k : Nat} (h : m ≤ k) : fb_ct (fun j => decide (j < m) && P j) k = fb_ct P m := by
  obtain ⟨d, rfl⟩ : ∃ d, k = m + d := ⟨k - m, by omega⟩
  rw [fb_ct_split, fb_ct_cong (q := P) (fun j hj => by simp [hj])]
  have : fb_ct (fun j => decide (m + j < m) && P (m + j)) d = 0 := fb_ct_zero.mpr (fun j _ => by rw [decide_eq_false (by omega)]; rfl)
  rw [this, Nat.add_zero]
/-- what is there: rows, texts, kept screens -/
def cn (σ : Sg) (n nd : Nat) (c : Scr) (k : Nat) : Nat :=
  if k = 0 then n else if k = 1 then fb_ct (opn c) n else if k = 2 then nd else if k = 3 then fb_ct (fun i => anyb (vis n c i) 96) n
  else if k = 4 then fb_ct (fun x => anyb (fun j => opn c j && cvr (c j) x) n) 96 else if k = 5 then msk (fun j => !opn c j) n
  else if k = 6 then fb_ct (fun r => !decide (rI σ 22 7 0 r = -1)) 6 else if k = 7 then fb_ct (fun r => !decide (rI σ 22 9 0 r = -1)) 4
  else if k = 8 then fb_ct (fun r => !decide (rI σ 22 19 0 r = -1)) 3 else if k = 9 then fb_ct (fun j => iof (c j 0) 1) n else fb_ct (fun j => iof (c j 0) 2) n
theorem iScr.kept19 (h : iScr σ n nd D) {k : Nat} (hk : k < 3) : (rI σ 10 (k + 1) 0 4 = rI σ 22 19 0 k) ∧ ((rI σ 22 19 0 k = -1) ∨ ∃ m, m ≤ 40 ∧ rI σ 22 19 0 k = nI m) := by
  rcases h.2.2.2.2.2 k hk with ⟨a, b⟩ | ⟨nd', D', ho, hc, hm⟩
  · exact ⟨a.trans b.symm, Or.inl b⟩
  · exact ⟨hc.2.1.trans hm.2.1.symm, Or.inr ⟨nd', ho.1, hm.2.1⟩⟩
theorem rowOK.sz {r : Nat} (h : rowOK σ r) : (rI σ 2 r 0 1 = rI σ 22 7 0 r) ∧ ((rI σ 22 7 0 r = -1) ∨ ∃ m, m ≤ 40 ∧ rI σ 22 7 0 r = nI m) := by
  rcases h with ⟨a, b⟩ | ⟨m, hm, a, b, -⟩
  · exact ⟨a.trans b.symm, Or.inl b⟩
  · exact ⟨a.trans b.symm, Or.inr ⟨m, hm, b⟩⟩
theorem txtOK.sz {r : Nat} (h : txtOK σ r) : (rI σ 5 r 0 1 = rI σ 22 9 0 r) ∧ ((rI σ 22 9 0 r = -1) ∨ ∃ m, m ≤ 60 ∧ rI σ 22 9 0 r = nI m) := by
  rcases h with ⟨a, b⟩ | ⟨m, hm, a, b, -⟩
  · exact ⟨a.trans b.symm, Or.inl b⟩
  · exact ⟨a.trans b.symm, Or.inr ⟨m, hm, b⟩⟩
theorem sp_rowsThere (hI : iRow σ) (hN : 7 < N) : f_X7_rowsThere N σ = some (nI (fb_ct (fun r => !decide (rI σ 22 7 0 r = -1)) 6), σ) := by
  unfold f_X7_rowsThere
  refine up_eq (fun m v a => L_X7_rowsThere_4 N (fun v1_1 _ => some (v1_1, σ)) σ m a v) (fun _ a => some (a, σ)) (fun j => nI (fb_ct (fun r => !decide (rI σ 22 7 0 r = -1)) j)) 0 6 ?_ ?_ N (by omega) (by omega)
  · intro m
    show L_X7_rowsThere_4 N _ σ (m + 1) _ _ = _
    rw [L_X7_rowsThere_4_s, n6, ile_t (Nat.le_refl _) (by decide)]
  · intro m j _ hj
    show L_X7_rowsThere_4 N _ σ (m + 1) _ _ = L_X7_rowsThere_4 N _ σ m _ _
    rw [L_X7_rowsThere_4_s, n6, ile_f hj (by decide), gi hj (by decide), nI_clamp (by omega), (hI j hj).sz.1, nI_1 j]
    by_cases e : rI σ 22 7 0 j = -1
    · rw [if_pos e, ct_f0 (p := fun r => !decide (rI σ 22 7 0 r = -1)) (by simp [e])]
    · rw [if_neg e, ct_t (p := fun r => !decide (rI σ 22 7 0 r = -1)) (by simp [e])]
theorem sp_textsThere (hI : iTxt σ) (hN : 7 < N) : f_X7_textsThere N σ = some (nI (fb_ct (fun r => !decide (rI σ 22 9 0 r = -1)) 4), σ) := by
  unfold f_X7_textsThere
  refine up_eq (fun m v a => L_X7_textsThere_4 N (fun v1_1 _ => some (v1_1, σ)) σ m a v) (fun _ a => some (a, σ)) (fun j => nI (fb_ct (fun r => !decide (rI σ 22 9 0 r = -1)) j)) 0 4 ?_ ?_ N (by omega) (by omega)
  · intro m
    show L_X7_textsThere_4 N _ σ (m + 1) _ _ = _
    rw [L_X7_textsThere_4_s, n4, ile_t (Nat.le_refl _) (by decide)]
  · intro m j _ hj
    show L_X7_textsThere_4 N _ σ (m + 1) _ _ = L_X7_textsThere_4 N _ σ m _ _
    rw [L_X7_textsThere_4_s, n4, ile_f hj (by decide), gi hj (by decide), nI_clamp (by omega), (hI j hj).sz.1, nI_1 j]
    by_cases e : rI σ 22 9 0 j = -1
    · rw [if_pos e, ct_f0 (p := fun r => !decide (rI σ 22 9 0 r = -1)) (by simp [e])]
    · rw [if_neg e, ct_t (p := fun r => !decide (rI σ 22 9 0 r = -1)) (by simp [e])]
theorem sp_keptThere (hs : iScr σ n nd D) (hN : 7 < N) : f_X7_keptThere N σ = some (nI (fb_ct (fun r => !decide (rI σ 22 19 0 r = -1)) 3), σ) := by
  unfold f_X7_keptThere
  refine up_eq (fun m v a => L_X7_keptThere_4 N (fun v1_1 _ => some (v1_1, σ)) σ m a v) (fun _ a => some (a, σ)) (fun j => nI (fb_ct (fun r => !decide (rI σ 22 19 0 r = -1)) j)) 0 3 ?_ ?_ N (by omega) (by omega)
  · intro m
    show L_X7_keptThere_4 N _ σ (m + 1) _ _ = _
    rw [L_X7_keptThere_4_s, n3, ile_t (Nat.le_refl _) (by decide)]
  · intro m j _ hj
    show L_X7_keptThere_4 N _ σ (m + 1) _ _ = L_X7_keptThere_4 N _ σ m _ _
    rw [L_X7_keptThere_4_s, n3, ile_f hj (by decide), gi hj (by decide), nI_clamp (by omega), (hs.kept19 hj).1, nI_1 j]
    by_cases e : rI σ 22 19 0 j = -1
    · rw [if_pos e, ct_f0 (p := fun r => !decide (rI σ 22 19 0 r = -1)) (by simp [e])]
    · rw [if_neg e, ct_t (p := fun r => !decide (rI σ 22 19 0 r = -1)) (by simp [e])]
theorem sp_ofAll (hI : iRow σ) (hT : iTxt σ) (hs : iScr σ n nd D) {k : Nat} (hk : k < 11) (hN : 100 < N) : f_X7_ofAll N (nI k) σ = some (nI (cn σ n nd (D nd) k), σ) := by
  have ok := hs.ok
  have e6 : ∀ d : Nat, ((nI k).toInt = 0 + (d : Int)) ↔ k = d := by
    intro d; rw [nI_toInt (by omega)]; omega
  unfold f_X7_ofAll cn
  simp only [e6, hs.scr.1, sp_howManyOpen hs.scr ok (show 7 < N by omega), hs.2.2.1.2.1, sp_howManySeen hs.scr ok (show 7 < N by omega), sp_cellsShow hs.scr ok (show 7 < N by omega), sp_shutOnes hs.scr ok (show 7 < N by omega), sp_rowsThere hI (show 7 < N by omega), sp_textsThere hT (show 7 < N by omega), sp_keptThere hs (show 7 < N by omega), n1, n2, sp_howManyAre (show 1 < 6 by decide) hs.scr ok (show 7 < N by omega), sp_howManyAre (show 2 < 6 by decide) hs.scr ok (show 7 < N by omega), Option.bind_some]
  rcases (by omega : k = 0 ∨ k = 1 ∨ k = 2 ∨ k = 3 ∨ k = 4 ∨ k = 5 ∨ k = 6 ∨ k = 7 ∨ k = 8 ∨ k = 9 ∨ k = 10) with rfl | rfl | rfl | rfl | rfl | rfl | rfl | rfl | rfl | rfl | rfl <;> rfl
theorem neg_m1 {x : Int32} {B : Nat} (h : x = -1 ∨ ∃ m, m ≤ B ∧ x = nI m) (hB : B < 2147483648) : ((0 ≤ x) ↔ ¬ x = -1) ∧ ((x < 0) ↔ x = -1) := by
  rcases h with h | ⟨m, hm, h⟩
  · subst h; decide
  · subst h
    exact ⟨⟨fun _ => nI_ne_m1 (by omega), fun _ => nI_pos' (by omega)⟩, ⟨fun z => absurd z (nI_pos (by omega)), fun z => absurd z (nI_ne_m1 (by omega))⟩⟩
theorem sp_cnt102 (hI : iRow σ) (hT : iTxt σ) (hs : iScr σ n nd D) {w : Nat} (h1 : 6 ≤ w) (h2 : w < 11) (hN : 100 < N) : L_X8_countOf_102 N (fun v2_32 _ σ_32 => some (v2_32, σ_32)) (nI w) N 0 0 σ = some (nI (cn σ n nd (D nd) w), σ) := by
  have ok := hs.ok
  have hn := ok.1
  have hm := hs.mS
  have key : ∀ P : Nat → Bool, (∀ m j v, j < 7 → L_X8_countOf_102 N (fun v2_32 _ σ_32 => some (v2_32, σ_32)) (nI w) (m + 1) v (nI j) σ = L_X8_countOf_102 N (fun v2_32 _ σ_32 => some (v2_32, σ_32)) (nI w) m (if P j then v + 1 else v + 0) (nI (j + 1)) σ) → L_X8_countOf_102 N (fun v2_32 _ σ_32 => some (v2_32, σ_32)) (nI w) N 0 0 σ = some (nI (fb_ct P 7), σ) := by
    intro P hP
    refine up_eq (fun m v a => L_X8_countOf_102 N (fun v2_32 _ σ_32 => some (v2_32, σ_32)) (nI w) m a v σ) (fun _ a => some (a, σ)) (fun j => nI (fb_ct P j)) 0 7 ?_ ?_ N (by omega) (by omega)
    · intro m
      show L_X8_countOf_102 N _ (nI w) (m + 1) _ _ σ = _
      rw [L_X8_countOf_102_s, n7, ile_t (Nat.le_refl _) (by decide)]
    · intro m j _ hj
      show L_X8_countOf_102 N _ (nI w) (m + 1) _ _ σ = L_X8_countOf_102 N _ (nI w) m _ _ σ
      rw [hP m j _ hj]
      cases hp : P j with
      | false => rw [if_neg (by decide), ct_f0 hp]
      | true => rw [if_pos rfl, ct_t hp]
  rcases (by omega : w = 6 ∨ w = 7 ∨ w = 8 ∨ w = 9 ∨ w = 10) with rfl | rfl | rfl | rfl | rfl
  · rw [key (fun j => decide (j < 6) && !decide (rI σ 22 7 0 j = -1)) (fun m j v hj => ?_), fb_ct_cut (by decide)]; · rfl
    rw [L_X8_countOf_102_s, n7, ile_f hj (by decide), if_pos (show nI 6 = (6 : Int32) from rfl), nI_1 j]
    have a7 : ¬ nI 6 = nI 7 := by decide
    have a8 : ¬ nI 6 = (8 : Int32) := by decide
    have b8 : nI 6 ≤ (8 : Int32) := by decide
    simp only [if_neg a7, if_neg a8, if_pos b8, n6]
    by_cases h6 : j < 6
    · rw [ile_f h6 (by decide), gi h6 (by decide), nI_clamp (by omega), decide_eq_true h6, Bool.true_and]
      have hz := (neg_m1 (hI j h6).sz.2 (by decide)).1
      by_cases e : rI σ 22 7 0 j = -1
      · rw [if_neg (fun z => (hz.mp z) e), decide_eq_true e]; rfl
      · rw [if_pos (hz.mpr e), decide_eq_false e]; rfl
    · rw [ile_t (by omega) (by omega), decide_eq_false h6]; rfl
  · rw [key (fun j => decide (j < 4) && !decide (rI σ 22 9 0 j = -1)) (fun m j v hj => ?_), fb_ct_cut (by decide)]; · rfl
    rw [L_X8_countOf_102_s, n7, ile_f hj (by decide), if_neg (show ¬ nI 7 = (6 : Int32) by decide), nI_1 j]
    have a8 : ¬ nI 7 = (8 : Int32) := by decide
    have b8 : nI 7 ≤ (8 : Int32) := by decide
    rw [if_pos rfl]
    simp only [if_neg a8, if_pos b8, n4]
    by_cases h6 : j < 4
    · rw [ile_f h6 (by decide), gi h6 (by decide), nI_clamp (by omega), decide_eq_true h6, Bool.true_and]
      have hz := (neg_m1 (hT j h6).sz.2 (by decide)).1
      by_cases e : rI σ 22 9 0 j = -1
      · rw [if_neg (fun z => (hz.mp z) e), decide_eq_true e]; rfl
      · rw [if_pos (hz.mpr e), decide_eq_false e]; rfl
    · rw [ile_t (by omega) (by omega), decide_eq_false h6]; rfl
  · rw [key (fun j => decide (j < 3) && !decide (rI σ 22 19 0 j = -1)) (fun m j v hj => ?_), fb_ct_cut (by decide)]; · rfl
    rw [L_X8_countOf_102_s, n7, ile_f hj (by decide), if_neg (show ¬ nI 8 = (6 : Int32) by decide), if_neg (show ¬ nI 8 = nI 7 by decide), nI_1 j]
    have b8 : nI 8 ≤ (8 : Int32) := by decide
    rw [if_pos (show nI 8 = (8 : Int32) from rfl)]
    simp only [if_pos b8, n3]
    by_cases h6 : j < 3
    · rw [ile_f h6 (by decide), gi h6 (by decide), nI_clamp (by omega), decide_eq_true h6, Bool.true_and]
      have hz := (neg_m1 (hs.kept19 h6).2 (by decide)).2
      by_cases e : rI σ 22 19 0 j = -1
      · rw [if_pos (hz.mpr e), decide_eq_true e]; rfl
      · rw [if_neg (fun z => e (hz.mp z)), decide_eq_false e]; rfl
    · rw [ile_t (by omega) (by omega), decide_eq_false h6]; rfl
  · rw [key (fun j => decide (j < n) && iof (D nd j 0) 1) (fun m j v hj => ?_), fb_ct_cut hn]; · rfl
    rw [L_X8_countOf_102_s, n7, ile_f hj (by decide), if_neg (show ¬ nI 9 = (6 : Int32) by decide), if_neg (show ¬ nI 9 = nI 7 by decide), if_neg (show ¬ nI 9 = (8 : Int32) by decide), if_neg (show ¬ nI 9 ≤ (8 : Int32) by decide), hm.1, nI_1 j]
    by_cases h6 : j < n
    · rw [ile_f h6 (by omega), gi hj (by decide), nI_clamp (by omega), (hm.2.1 j h6).1, show nI 9 - (8 : Int32) = nI 1 from rfl, sp_isOne (ok.2.1 j h6).1.1 (by decide) (by decide), Option.bind_some, b2n_z, decide_eq_true h6, Bool.true_and]
      cases iof (D nd j 0) 1 <;> rfl
    · rw [ile_t (by omega) (by omega), decide_eq_false h6]; rfl
  · rw [key (fun j => decide (j < n) && iof (D nd j 0) 2) (fun m j v hj => ?_), fb_ct_cut hn]; · rfl
    rw [L_X8_countOf_102_s, n7, ile_f hj (by decide), if_neg (show ¬ nI 10 = (6 : Int32) by decide), if_neg (show ¬ nI 10 = nI 7 by decide), if_neg (show ¬ nI 10 = (8 : Int32) by decide), if_neg (show ¬ nI 10 ≤ (8 : Int32) by decide), hm.1, nI_1 j]
    by_cases h6 : j < n
    · rw [ile_f h6 (by omega), gi hj (by decide), nI_clamp (by omega), (hm.2.1 j h6).1, show nI 10 - (8 : Int32) = nI 2 from rfl, sp_isOne (ok.2.1 j h6).1.1 (by decide) (by decide), Option.bind_some, b2n_z, decide_eq_true h6, Bool.true_and]
      cases iof (D nd j 0) 2 <;> rfl
    · rw [ile_t (by omega) (by omega), decide_eq_false h6]; rfl
theorem shut_bits (hn : n ≤ 7) (p : Nat → Bool) : (((1 : Int32) <<< (nI n &&& 31)) - 1) &&& (nI (msk p n) ^^^ (-1)) = nI (msk (fun j => !p j) n) := by
  have h1 : ((1 : Int32) <<< (nI n &&& 31)) - 1 = nI (msk (fun _ => true) n) := by
    rw [I_1 n (by omega), n1, pk_sub (Nat.two_pow_pos n)]
    congr 1
    exact msk_ext (by have := Nat.two_pow_pos n; omega) (fun i hi => by rw [Nat.testBit_two_pow_sub_one]; simp [hi])
  rw [h1, show (-1 : Int32) = nI 4294967295 from rfl, fb_xorI, fa_and, show (4294967295 : Nat) = 2 ^ 32 - 1 from rfl, msk_not _ p (by omega)]
  congr 1
theorem sp_countOf (hI : iRow σ) (hT : iTxt σ) (hs : iScr σ n nd D) {k : Nat} (hk : k < 11) (hN : 100 < N) : ∃ τ, f_X8_countOf N (nI k) σ = some (nI (cn σ n nd (D nd) k), τ) ∧ Fr rgA σ τ := by
  have ok := hs.ok
  have hn := ok.1
  have hm := hs.mS
  obtain ⟨τ, e, s1, s2, s3, s4, s5⟩ := sp_sees (N := N) hm ok (by omega)
  have q3 : rI σ 22 14 0 21 = nI (msk (opn (D nd)) n) := hm.2.2.2
  by_cases h6 : 6 ≤ k
  · refine ⟨σ, ?_, Fr.rf⟩
    unfold f_X8_countOf
    rw [n3, ieq_f (by omega) (by omega) (by decide), n4, ieq_f (by omega) (by omega) (by decide), n6, ile_t h6 (by omega)]
    exact sp_cnt102 hI hT hs h6 hk hN
  · rcases (by omega : k = 0 ∨ k = 1 ∨ k = 2 ∨ k = 3 ∨ k = 4 ∨ k = 5) with rfl | rfl | rfl | rfl | rfl | rfl
    · refine ⟨σ, ?_, Fr.rf⟩
      unfold f_X8_countOf
      rw [hm.1]; rfl
    · refine ⟨σ, ?_, Fr.rf⟩
      unfold f_X8_countOf
      rw [if_neg (by decide), if_neg (by decide), if_neg (by decide), if_neg (by decide), if_pos (show nI 1 = (1 : Int32) from rfl), gi21, cl21, q3, ones_set _ hn (by omega)]; rfl
    · refine ⟨σ, ?_, Fr.rf⟩
      unfold f_X8_countOf
      rw [hs.2.2.2.1.2.1]; rfl
    · refine ⟨τ, ?_, s5⟩
      unfold f_X8_countOf
      rw [if_pos (show nI 3 = (3 : Int32) from rfl), e, Option.bind_some, mo_manySeen s1.1 s4 hn (by omega)]; rfl
    · refine ⟨τ, ?_, s5⟩
      unfold f_X8_countOf
      rw [if_neg (by decide), if_pos (show nI 4 = (4 : Int32) from rfl), e, Option.bind_some, mo_shown s1.1 s4 ok (by omega)]; rfl
    · refine ⟨σ, ?_, Fr.rf⟩
      unfold f_X8_countOf
      rw [if_neg (by decide), if_neg (by decide), if_neg (by decide), if_neg (by decide), if_neg (by decide), if_neg (by decide), gi21, cl21, q3, hm.1, shut_bits hn]; rfl
theorem iRow_sc {τ : Sg} (h : iRow σ) (f : Fq scR σ τ) : iRow τ := iRow_fr f h (fun t i j k ha hb => by simp only [fRow, scR] at ha hb; omega)
theorem iTxt_sc {τ : Sg} (h : iTxt σ) (f : Fq scR σ τ) : iTxt τ := iTxt_fr f h (fun t i j k ha hb => by simp only [fTxt, scR] at ha hb; omega)
theorem cn_sc {τ : Sg} (f : Fq scR σ τ) (k : Nat) : cn τ n nd c k = cn σ n nd c k := by
  have e7 : ∀ r, rI τ 22 7 0 r = rI σ 22 7 0 r := fun r => (f 22 7 0 r (by unfold scR; omega)).1
  have e9 : ∀ r, rI τ 22 9 0 r = rI σ 22 9 0 r := fun r => (f 22 9 0 r (by unfold scR; omega)).1
  have e19 : ∀ r, rI τ 22 19 0 r = rI σ 22 19 0 r := fun r => (f 22 19 0 r (by unfold scR; omega)).1
  unfold cn
  simp only [e7, e9, e19]
theorem st_count (p0 : Int32) (hN : 100 < N) : StepI (f_X7_count N p0) (f_X8_count N p0) := by
  intro σ hI
  obtain ⟨n, nd, D, hs⟩ := hI.2.2.2.2.2
  have hs2 : iScr (th0 σ) n nd D := hs.q (tl_sc th0_fr)
  have e1 : (p0 < 0) ↔ p0.toInt < 0 := fa_lt p0 0
  have e2 : (p0 ≤ (10 : Int32)) ↔ p0.toInt ≤ 10 := fa_le p0 10
  by_cases h : 0 ≤ p0.toInt ∧ p0.toInt < (11 : Nat)
  · obtain ⟨k, hk, rfl⟩ := in_nI h (by decide)
    obtain ⟨τ, e, f⟩ := sp_countOf (N := N) (iRow_sc hI.1 th0_fr) (iTxt_sc hI.2.1 th0_fr) hs2 hk hN
    refine ⟨nI (cn σ n nd (D nd) k), σ, τ, ?_, ?_, Inv_sc (Inv_th0 hI) (f.q (fun _ _ _ _ => rgA_sc))⟩
    · unfold f_X7_count
      rw [if_neg (fun z => by have := e1.mp z; omega), if_pos (e2.mpr (by omega)), sp_ofAll hI.1 hI.2.1 hs hk hN]; rfl
    · unfold f_X8_count
      rw [th_d, sp_in, in_le (nI k) (m := 11) _ _ (by decide) (by decide), Option.bind_some, b2n_z, decide_eq_true h, if_pos rfl, e, cn_sc th0_fr]; rfl
  · refine ⟨-1, σ, th0 σ, ?_, ?_, Inv_th0 hI⟩
    · unfold f_X7_count
      simp only [e1, e2]
      by_cases a : p0.toInt < 0
      · rw [if_pos a]
      · rw [if_neg a, if_neg (by omega)]
    · unfold f_X8_count
      rw [th_d, sp_in, in_le p0 (m := 11) _ _ (by decide) (by decide), Option.bind_some, b2n_z, decide_eq_false h]; rfl
end Count
