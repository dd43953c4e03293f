def dg (f : Nat → Int32) : Nat → Int64 → Int64
  | 0, h => h
  | m + 1, h => 31 * dg f m h + (f m).toInt64
theorem dg_s (f : Nat → Int32) (m : Nat) (h : Int64) : dg f (m + 1) h = 31 * dg f m h + (f m).toInt64 := rfl
theorem dg_cong {f g : Nat → Int32} : ∀ {m : Nat} {h : Int64}, (∀ k, k < m → f k = g k) → dg f m h = dg g m h
  | 0, _, _ => rfl
  | m + 1, h, e => by rw [dg_s, dg_s, dg_cong (fun k hk => e k (by omega)), e m (by omega)]
def itr (g : Nat → Int64 → Int64) : Nat → Int64 → Int64
  | 0, h => h
  | m + 1, h => g m (itr g m h)
theorem itr_s (g : Nat → Int64 → Int64) (m : Nat) (h : Int64) : itr g (m + 1) h = g m (itr g m h) := rfl
theorem itr_cong {f g : Nat → Int64 → Int64} : ∀ {m : Nat} {h : Int64}, (∀ k, k < m → ∀ h, f k h = g k h) → itr f m h = itr g m h
  | 0, _, _ => rfl
  | m + 1, h, e => by rw [itr_s, itr_s, itr_cong (fun k hk => e k (by omega)), e m (by omega)]
def rdg (σ : Sg) (r : Nat) (h : Int64) : Int64 := dg (fun k => rI σ 22 6 0 (40 * r + k)) (rI σ 22 7 0 r).toNatClampNeg (31 * h + (rI σ 22 7 0 r).toInt64)
def tdg (σ : Sg) (r : Nat) (h : Int64) : Int64 := dg (fun k => rI σ 22 8 0 (60 * r + k)) (rI σ 22 9 0 r).toNatClampNeg (31 * h + (rI σ 22 9 0 r).toInt64)
def digS (σ : Sg) (n nd : Nat) (c : Scr) : Int64 :=
  itr (tdg σ) 4 (itr (rdg σ) 6 (dg (fun k => rI σ 22 19 0 k) 3 (itr (fun i h => dg (fun k => nI (pv n c i k)) 8 h) n (dg (fun k => nI (cn σ n nd c k)) 11 17))))
section Digest
variable {N n nd : Nat} {σ : Sg} {D : Nat → Scr} {c : Scr}
theorem m1_clamp : ((-1 : Int32).toNatClampNeg) = 0 := by decide
theorem ile_m1l {α : Type} (x y : α) (a : Nat) (ha : a < 2147483648) : (if (-1 : Int32) ≤ nI a then x else y) = x := if_pos (by
  rw [fa_le, nI_toInt ha, m1_toInt]
  omega)
theorem sp_dgRow {r : Nat} (h : rowOK σ r) (v : Int64) (hN : 100 < N) : f_X3_digestFrom N r v σ = some (rdg σ r v, σ) := by
  unfold f_X3_digestFrom rdg
  rcases h with ⟨a, b⟩ | ⟨m, hm, a, b, d⟩
  · obtain ⟨q, rfl⟩ : ∃ q, N = q + 1 := ⟨N - 1, by omega⟩
    rw [L_X3_digestFrom_15_s, a, b, m1_clamp, n0, ile_m1l _ _ 0 (by decide)]
    rfl
  · rw [b, nI_clamp (by omega), ← dg_cong d]
    refine Eq.trans ?_ (up_eq (fun q w s => L_X3_digestFrom_15 N (fun v3_1 _ => some (v3_1, σ)) r σ q s w) (fun _ s => some (s, σ)) (fun j => dg (fun k => rI σ 3 r 0 k) j (31 * v + (nI m).toInt64)) 0 m ?_ ?_ N (by omega) (by omega))
    · rw [a]; rfl
    · intro q
      show L_X3_digestFrom_15 N _ r σ (q + 1) _ _ = _
      rw [L_X3_digestFrom_15_s, a, ile_t (Nat.le_refl _) (by omega)]
    · intro q j _ hj
      show L_X3_digestFrom_15 N _ r σ (q + 1) _ _ = L_X3_digestFrom_15 N _ r σ q _ _
      rw [L_X3_digestFrom_15_s, a, ile_f hj (by omega), gi (by omega) (by decide), nI_clamp (by omega), nI_1]
      rfl
theorem sp_dgTxt {r : Nat} (h : txtOK σ r) (v : Int64) (hN : 100 < N) : f_X5_digestFrom N r v σ = some (tdg σ r v, σ) := by
  unfold f_X5_digestFrom tdg
  rcases h with ⟨a, b⟩ | ⟨m, hm, a, b, d⟩
  · obtain ⟨q, rfl⟩ : ∃ q, N = q + 1 := ⟨N - 1, by omega⟩
    rw [L_X5_digestFrom_15_s, a, b, m1_clamp, n0, ile_m1l _ _ 0 (by decide)]
    rfl
  · rw [b, nI_clamp (by omega), ← dg_cong d]
    refine Eq.trans ?_ (up_eq (fun q w s => L_X5_digestFrom_15 N (fun v3_1 _ => some (v3_1, σ)) r σ q s w) (fun _ s => some (s, σ)) (fun j => dg (fun k => rI σ 6 r 0 k) j (31 * v + (nI m).toInt64)) 0 m ?_ ?_ N (by omega) (by omega))
    · rw [a]; rfl
    · intro q
      show L_X5_digestFrom_15 N _ r σ (q + 1) _ _ = _
      rw [L_X5_digestFrom_15_s, a, ile_t (Nat.le_refl _) (by omega)]
    · intro q j _ hj
      show L_X5_digestFrom_15 N _ r σ (q + 1) _ _ = L_X5_digestFrom_15 N _ r σ q _ _
      rw [L_X5_digestFrom_15_s, a, ile_f hj (by omega), gi (by omega) (by decide), nI_clamp (by omega), nI_1]
      rfl
theorem cl_digest (hI : iRow σ) (hT : iTxt σ) (hs : iScr σ n nd D) (hN : 100 < N) : f_X7_digest N σ = some (digS σ n nd (D nd), σ) := by
  have ok := hs.ok
  have hn := ok.1
  unfold f_X7_digest digS
  refine (up_eq (fun q w s => L_X7_digest_6 N (fun v1_2 v3_2 σ_2 => L_X7_digest_33 N (fun v1_5 v3_5 σ_5 => L_X7_digest_83 N (fun v1_6 v3_6 => L_X7_digest_113 N (fun v1_8 v3_8 σ_8 => L_X7_digest_138 N (fun v1_10 v3_10 σ_10 => some (v1_10, σ_10)) N v1_8 (0 : Int32) σ_8) N v1_6 (0 : Int32) σ_5) σ_5 N v1_5 (0 : Int32)) N v1_2 (0 : Int32) σ_2) q s w σ) (fun _ v1_2 => L_X7_digest_33 N (fun v1_5 v3_5 σ_5 => L_X7_digest_83 N (fun v1_6 v3_6 => L_X7_digest_113 N (fun v1_8 v3_8 σ_8 => L_X7_digest_138 N (fun v1_10 v3_10 σ_10 => some (v1_10, σ_10)) N v1_8 (0 : Int32) σ_8) N v1_6 (0 : Int32) σ_5) σ_5 N v1_5 (0 : Int32)) N v1_2 (0 : Int32) σ) (fun j => dg (fun k => nI (cn σ n nd (D nd) k)) j 17) 0 11 ?_ ?_ N (by omega) (by omega)).trans ?_
  · intro q
    show L_X7_digest_6 N _ (q + 1) _ _ σ = _
    rw [L_X7_digest_6_s, n10, ilt_t (by decide) (by decide)]
  · intro q j _ hj
    show L_X7_digest_6 N _ (q + 1) _ _ σ = L_X7_digest_6 N _ q _ _ σ
    rw [L_X7_digest_6_s, n10, ilt_f (by omega) (by omega), sp_ofAll hI hT hs hj hN, Option.bind_some, nI_1]
    rfl
  generalize dg (fun k => nI (cn σ n nd (D nd) k)) 11 17 = h1
  refine (up_eq (fun q w s => L_X7_digest_33 N (fun v1_5 v3_5 σ_5 => L_X7_digest_83 N (fun v1_6 v3_6 => L_X7_digest_113 N (fun v1_8 v3_8 σ_8 => L_X7_digest_138 N (fun v1_10 v3_10 σ_10 => some (v1_10, σ_10)) N v1_8 (0 : Int32) σ_8) N v1_6 (0 : Int32) σ_5) σ_5 N v1_5 (0 : Int32)) q s w σ) (fun _ v1_5 => L_X7_digest_83 N (fun v1_6 v3_6 => L_X7_digest_113 N (fun v1_8 v3_8 σ_8 => L_X7_digest_138 N (fun v1_10 v3_10 σ_10 => some (v1_10, σ_10)) N v1_8 (0 : Int32) σ_8) N v1_6 (0 : Int32) σ) σ N v1_5 (0 : Int32)) (fun j => itr (fun i h => dg (fun k => nI (pv n (D nd) i k)) 8 h) j h1) 0 n ?_ ?_ N (by omega) (by omega)).trans ?_
  · intro q
    show L_X7_digest_33 N _ (q + 1) _ _ σ = _
    rw [L_X7_digest_33_s, hs.scr.1, ile_t (Nat.le_refl _) (by omega)]
  · intro q i _ hi
    show L_X7_digest_33 N _ (q + 1) _ _ σ = L_X7_digest_33 N _ q _ _ σ
    rw [L_X7_digest_33_s, hs.scr.1, ile_f hi (by omega), itr_s, nI_1]
    generalize itr (fun i h => dg (fun k => nI (pv n (D nd) i k)) 8 h) i h1 = h2
    exact up_eq (fun q' w s => L_X7_digest_47 N (fun v1_4 v4_4 σ_4 => L_X7_digest_33 N _ q v1_4 (nI (i + 1)) σ_4) (nI i) q' s w σ) (fun _ v1_4 => L_X7_digest_33 N _ q v1_4 (nI (i + 1)) σ) (fun j => dg (fun k => nI (pv n (D nd) i k)) j h2) 0 8
      (fun q' => by
        show L_X7_digest_47 N _ (nI i) (q' + 1) _ _ σ = _
        rw [L_X7_digest_47_s, n7, ilt_t (by decide) (by decide)])
      (fun q' j _ hj => by
        show L_X7_digest_47 N _ (nI i) (q' + 1) _ _ σ = L_X7_digest_47 N _ (nI i) q' _ _ σ
        rw [L_X7_digest_47_s, n7, ilt_f (by omega) (by omega), sp_ofPane7 hs.scr ok hi hj (by omega), Option.bind_some, nI_1]
        rfl) N (by omega) (by omega)
  generalize itr (fun i h => dg (fun k => nI (pv n (D nd) i k)) 8 h) n h1 = h2
  refine (up_eq (fun q w s => L_X7_digest_83 N (fun v1_6 v3_6 => L_X7_digest_113 N (fun v1_8 v3_8 σ_8 => L_X7_digest_138 N (fun v1_10 v3_10 σ_10 => some (v1_10, σ_10)) N v1_8 (0 : Int32) σ_8) N v1_6 (0 : Int32) σ) σ q s w) (fun _ v1_6 => L_X7_digest_113 N (fun v1_8 v3_8 σ_8 => L_X7_digest_138 N (fun v1_10 v3_10 σ_10 => some (v1_10, σ_10)) N v1_8 (0 : Int32) σ_8) N v1_6 (0 : Int32) σ) (fun j => dg (fun k => rI σ 22 19 0 k) j h2) 0 3 ?_ ?_ N (by omega) (by omega)).trans ?_
  · intro q
    show L_X7_digest_83 N _ σ (q + 1) _ _ = _
    rw [L_X7_digest_83_s, n3, ile_t (Nat.le_refl _) (by decide)]
  · intro q j _ hj
    show L_X7_digest_83 N _ σ (q + 1) _ _ = L_X7_digest_83 N _ σ q _ _
    rw [L_X7_digest_83_s, n3, ile_f hj (by decide), gi hj (by decide), nI_clamp (by omega), (hs.kept19 hj).1, nI_1]
    rfl
  generalize dg (fun k => rI σ 22 19 0 k) 3 h2 = h3
  refine (up_eq (fun q w s => L_X7_digest_113 N (fun v1_8 v3_8 σ_8 => L_X7_digest_138 N (fun v1_10 v3_10 σ_10 => some (v1_10, σ_10)) N v1_8 (0 : Int32) σ_8) q s w σ) (fun _ v1_8 => L_X7_digest_138 N (fun v1_10 v3_10 σ_10 => some (v1_10, σ_10)) N v1_8 (0 : Int32) σ) (fun j => itr (rdg σ) j h3) 0 6 ?_ ?_ N (by omega) (by omega)).trans ?_
  · intro q
    show L_X7_digest_113 N _ (q + 1) _ _ σ = _
    rw [L_X7_digest_113_s, n6, ile_t (Nat.le_refl _) (by decide)]
  · intro q j _ hj
    show L_X7_digest_113 N _ (q + 1) _ _ σ = L_X7_digest_113 N _ q _ _ σ
    rw [L_X7_digest_113_s, n6, ile_f hj (by decide), gi hj (by decide), nI_clamp (by omega), sp_dgRow (hI j hj) _ hN, Option.bind_some, nI_1]
    rfl
  generalize itr (rdg σ) 6 h3 = h4
  refine up_eq (fun q w s => L_X7_digest_138 N (fun v1_10 v3_10 σ_10 => some (v1_10, σ_10)) q s w σ) (fun _ s => some (s, σ)) (fun j => itr (tdg σ) j h4) 0 4 ?_ ?_ N (by omega) (by omega)
  · intro q
    show L_X7_digest_138 N _ (q + 1) _ _ σ = _
    rw [L_X7_digest_138_s, n4, ile_t (Nat.le_refl _) (by decide)]
  · intro q j _ hj
    show L_X7_digest_138 N _ (q + 1) _ _ σ = L_X7_digest_138 N _ q _ _ σ
    rw [L_X7_digest_138_s, n4, ile_f hj (by decide), gi hj (by decide), nI_clamp (by omega), sp_dgTxt (hT j hj) _ hN, Option.bind_some, nI_1]
    rfl
theorem sz_loop {x : Int32} {B : Nat} (h : x = -1 ∨ ∃ m, m ≤ B ∧ x = nI m) : x.toNatClampNeg ≤ B ∧ ((x = -1 ∧ x.toNatClampNeg = 0) ∨ x = nI x.toNatClampNeg) ∨ 2147483648 ≤ B := by
  by_cases hB : B < 2147483648
  · left
    rcases h with h | ⟨m, hm, h⟩
    · subst h; exact ⟨by rw [m1_clamp]; omega, Or.inl ⟨rfl, m1_clamp⟩⟩
    · subst h; rw [nI_clamp (by omega)]; exact ⟨hm, Or.inr rfl⟩
  · right; omega
theorem mo_digest (hI : iRow σ) (hT : iTxt σ) (hs : iScr σ n nd D) (hN : 100 < N) : ∃ τ, L_X8_digest_11 N (fun v1_2 v3_2 σ_2 => L_X8_digest_38 N (fun v1_5 v3_5 σ_5 => L_X8_digest_85 N (fun v1_6 v3_6 => L_X8_digest_112 N (fun v1_8 v3_8 => L_X8_digest_180 N (fun v1_10 v3_10 => some (v1_10, σ_5)) σ_5 N v1_8 (0 : Int32)) σ_5 N v1_6 (0 : Int32)) σ_5 N v1_5 (0 : Int32)) N v1_2 (0 : Int32) σ_2) N (17 : Int64) (0 : Int32) σ = some (digS σ n nd (D nd), τ) ∧ Fq scR σ τ := by
  have ok := hs.ok
  have hn := ok.1
  obtain ⟨⟨h1, τ1⟩, e1, i1, f1⟩ := up_rel (fun q w (s : Int64 × Sg) => L_X8_digest_11 N (fun v1_2 v3_2 σ_2 => L_X8_digest_38 N (fun v1_5 v3_5 σ_5 => L_X8_digest_85 N (fun v1_6 v3_6 => L_X8_digest_112 N (fun v1_8 v3_8 => L_X8_digest_180 N (fun v1_10 v3_10 => some (v1_10, σ_5)) σ_5 N v1_8 (0 : Int32)) σ_5 N v1_6 (0 : Int32)) σ_5 N v1_5 (0 : Int32)) N v1_2 (0 : Int32) σ_2) q s.1 w s.2) (fun _ s => L_X8_digest_38 N (fun v1_5 v3_5 σ_5 => L_X8_digest_85 N (fun v1_6 v3_6 => L_X8_digest_112 N (fun v1_8 v3_8 => L_X8_digest_180 N (fun v1_10 v3_10 => some (v1_10, σ_5)) σ_5 N v1_8 (0 : Int32)) σ_5 N v1_6 (0 : Int32)) σ_5 N v1_5 (0 : Int32)) N s.1 (0 : Int32) s.2) (fun j s => s.1 = dg (fun k => nI (cn σ n nd (D nd) k)) j 17 ∧ Fq scR σ s.2) 11
    (fun q s h => by
      show L_X8_digest_11 N _ (q + 1) _ _ _ = _
      rw [L_X8_digest_11_s, show (11 : Int32) = nI 11 from rfl, ile_t (Nat.le_refl _) (by decide)])
    (fun q j s hj h => by
      obtain ⟨τ, e, f⟩ := sp_countOf (N := N) (iRow_sc hI h.2) (iTxt_sc hT h.2) (hs.q (tl_sc h.2)) hj hN
      refine ⟨(31 * s.1 + (nI (cn σ n nd (D nd) j)).toInt64, τ), ?_, ?_, h.2.tr (f.q (R2 := scR) (fun _ _ _ _ => rgA_sc)) (fun _ _ _ _ z => z) (fun _ _ _ _ z => z)⟩
      · show L_X8_digest_11 N _ (q + 1) _ _ _ = L_X8_digest_11 N _ q _ _ _
        rw [L_X8_digest_11_s, show (11 : Int32) = nI 11 from rfl, ile_f hj (by decide), e, Option.bind_some, nI_1, cn_sc h.2]
      · show 31 * s.1 + _ = _
        rw [h.1]; rfl)
    11 0 (17, σ) N (by omega) ⟨rfl, Fq.rf⟩ (by omega)
  dsimp only at e1 i1 f1
  obtain ⟨⟨h2, τ2⟩, e2, i2, f2⟩ := up_rel (fun q w (s : Int64 × Sg) => L_X8_digest_38 N (fun v1_5 v3_5 σ_5 => L_X8_digest_85 N (fun v1_6 v3_6 => L_X8_digest_112 N (fun v1_8 v3_8 => L_X8_digest_180 N (fun v1_10 v3_10 => some (v1_10, σ_5)) σ_5 N v1_8 (0 : Int32)) σ_5 N v1_6 (0 : Int32)) σ_5 N v1_5 (0 : Int32)) q s.1 w s.2) (fun _ s => L_X8_digest_85 N (fun v1_6 v3_6 => L_X8_digest_112 N (fun v1_8 v3_8 => L_X8_digest_180 N (fun v1_10 v3_10 => some (v1_10, s.2)) s.2 N v1_8 (0 : Int32)) s.2 N v1_6 (0 : Int32)) s.2 N s.1 (0 : Int32)) (fun j s => s.1 = itr (fun i h => dg (fun k => nI (pv n (D nd) i k)) 8 h) j h1 ∧ Fq scR σ s.2) n
    (fun q s h => by
      show L_X8_digest_38 N _ (q + 1) _ _ _ = _
      rw [L_X8_digest_38_s, (hs.q (tl_sc h.2)).mS.1, ile_t (Nat.le_refl _) (by omega)])
    (fun q i s hi h => by
      obtain ⟨⟨h', τ'⟩, e, i', f'⟩ := up_rel (fun q' w (s : Int64 × Sg) => L_X8_digest_49 N (fun v1_4 v4_4 σ_4 => L_X8_digest_38 N (fun v1_5 v3_5 σ_5 => L_X8_digest_85 N (fun v1_6 v3_6 => L_X8_digest_112 N (fun v1_8 v3_8 => L_X8_digest_180 N (fun v1_10 v3_10 => some (v1_10, σ_5)) σ_5 N v1_8 (0 : Int32)) σ_5 N v1_6 (0 : Int32)) σ_5 N v1_5 (0 : Int32)) q v1_4 (nI (i + 1)) σ_4) (nI i) q' s.1 w s.2) (fun _ s => L_X8_digest_38 N (fun v1_5 v3_5 σ_5 => L_X8_digest_85 N (fun v1_6 v3_6 => L_X8_digest_112 N (fun v1_8 v3_8 => L_X8_digest_180 N (fun v1_10 v3_10 => some (v1_10, σ_5)) σ_5 N v1_8 (0 : Int32)) σ_5 N v1_6 (0 : Int32)) σ_5 N v1_5 (0 : Int32)) q s.1 (nI (i + 1)) s.2) (fun j s' => s'.1 = dg (fun k => nI (pv n (D nd) i k)) j s.1 ∧ Fq scR σ s'.2) 8
        (fun q' s h => by
          show L_X8_digest_49 N _ _ (q' + 1) _ _ _ = _
          rw [L_X8_digest_49_s, n8, ile_t (Nat.le_refl _) (by decide)])
        (fun q' j s' hj h' => by
          obtain ⟨τ, e, f⟩ := sp_ofPane8 (N := N) (hs.q (tl_sc h'.2)).mS ok hi hj (by omega)
          refine ⟨(31 * s'.1 + (nI (pv n (D nd) i j)).toInt64, τ), ?_, ?_, h'.2.tr (f.q (R2 := scR) (fun _ _ _ _ => rgA_sc)) (fun _ _ _ _ z => z) (fun _ _ _ _ z => z)⟩
          · show L_X8_digest_49 N _ _ (q' + 1) _ _ _ = L_X8_digest_49 N _ _ q' _ _ _
            rw [L_X8_digest_49_s, n8, ile_f hj (by decide), e, Option.bind_some, nI_1]
          · show 31 * s'.1 + _ = _
            rw [h'.1]; rfl)
        8 0 (s.1, s.2) N (by omega) ⟨rfl, h.2⟩ (by omega)
      refine ⟨(h', τ'), ?_, ?_, f'⟩
      · show L_X8_digest_38 N _ (q + 1) _ _ _ = L_X8_digest_38 N _ q _ _ _
        rw [L_X8_digest_38_s, (hs.q (tl_sc h.2)).mS.1, ile_f hi (by omega), nI_1]
        exact e
      · dsimp only at i' ⊢
        rw [i', h.1]; rfl)
    n 0 (h1, τ1) N (by omega) ⟨rfl, f1⟩ (by omega)
  dsimp only at e2 i2 f2
  have g : ∀ i k, i < 20 → 11 ≤ i ∨ i < 10 → rI τ2 22 i 0 k = rI σ 22 i 0 k := fun i k hi _ => (f2 22 i 0 k (by unfold scR; omega)).1
  refine ⟨τ2, ?_, f2⟩
  refine e1.trans (e2.trans ?_)
  unfold digS
  rw [← i1, ← i2]
  refine (up_eq (fun q w s => L_X8_digest_85 N (fun v1_6 v3_6 => L_X8_digest_112 N (fun v1_8 v3_8 => L_X8_digest_180 N (fun v1_10 v3_10 => some (v1_10, τ2)) τ2 N v1_8 (0 : Int32)) τ2 N v1_6 (0 : Int32)) τ2 q s w) (fun _ v1_6 => L_X8_digest_112 N (fun v1_8 v3_8 => L_X8_digest_180 N (fun v1_10 v3_10 => some (v1_10, τ2)) τ2 N v1_8 (0 : Int32)) τ2 N v1_6 (0 : Int32)) (fun j => dg (fun k => rI σ 22 19 0 k) j h2) 0 3 ?_ ?_ N (by omega) (by omega)).trans ?_
  · intro q
    show L_X8_digest_85 N _ τ2 (q + 1) _ _ = _
    rw [L_X8_digest_85_s, n3, ile_t (Nat.le_refl _) (by decide)]
  · intro q j _ hj
    show L_X8_digest_85 N _ τ2 (q + 1) _ _ = L_X8_digest_85 N _ τ2 q _ _
    rw [L_X8_digest_85_s, n3, ile_f hj (by decide), gi hj (by decide), nI_clamp (by omega), g 19 j (by decide) (by decide), nI_1]
    rfl
  generalize dg (fun k => rI σ 22 19 0 k) 3 h2 = h3
  refine (up_eq (fun q w s => L_X8_digest_112 N (fun v1_8 v3_8 => L_X8_digest_180 N (fun v1_10 v3_10 => some (v1_10, τ2)) τ2 N v1_8 (0 : Int32)) τ2 q s w) (fun _ v1_8 => L_X8_digest_180 N (fun v1_10 v3_10 => some (v1_10, τ2)) τ2 N v1_8 (0 : Int32)) (fun j => itr (rdg σ) j h3) 0 6 ?_ ?_ N (by omega) (by omega)).trans ?_
  · intro q
    show L_X8_digest_112 N _ τ2 (q + 1) _ _ = _
    rw [L_X8_digest_112_s, n6, ile_t (Nat.le_refl _) (by decide)]
  · intro q r _ hr
    show L_X8_digest_112 N _ τ2 (q + 1) _ _ = L_X8_digest_112 N _ τ2 q _ _
    rw [L_X8_digest_112_s, n6, ile_f hr (by decide), gi hr (by decide), nI_clamp (by omega), g 7 r (by decide) (by decide), itr_s, nI_1]
    generalize itr (rdg σ) r h3 = v
    unfold rdg
    rcases (hI r hr).sz.2 with b | ⟨m, hm, b⟩
    · obtain ⟨N', rfl⟩ : ∃ q, N = q + 1 := ⟨N - 1, by omega⟩
      rw [b, m1_clamp]
      conv => lhs; rw [L_X8_digest_135_s, gi hr (by decide), nI_clamp (by omega), g 7 r (by decide) (by decide), b, n0, ile_m1l _ _ 0 (by decide)]
      rfl
    · rw [b, nI_clamp (by omega)]
      exact up_eq (fun q' w s => L_X8_digest_135 N (fun v1_7 v4_7 => L_X8_digest_112 N _ τ2 q v1_7 (nI (r + 1))) (nI r) τ2 q' s w) (fun _ v1_7 => L_X8_digest_112 N _ τ2 q v1_7 (nI (r + 1))) (fun j => dg (fun k => rI σ 22 6 0 (40 * r + k)) j (31 * v + (nI m).toInt64)) 0 m
        (fun q' => by
          show L_X8_digest_135 N _ _ τ2 (q' + 1) _ _ = _
          rw [L_X8_digest_135_s, gi hr (by decide), nI_clamp (by omega), g 7 r (by decide) (by decide), b, ile_t (Nat.le_refl _) (by omega)])
        (fun q' j _ hj => by
          show L_X8_digest_135 N _ _ τ2 (q' + 1) _ _ = L_X8_digest_135 N _ _ τ2 q' _ _
          rw [L_X8_digest_135_s, gi hr (by decide), nI_clamp (by omega), g 7 r (by decide) (by decide), b, ile_f hj (by omega), n40, pk_mul, nI_add, gi (by omega) (by decide), nI_clamp (by omega), g 6 _ (by decide) (by decide), nI_1]
          rfl) N (by omega) (by omega)
  generalize itr (rdg σ) 6 h3 = h4
  refine up_eq (fun q w s => L_X8_digest_180 N (fun v1_10 v3_10 => some (v1_10, τ2)) τ2 q s w) (fun _ s => some (s, τ2)) (fun j => itr (tdg σ) j h4) 0 4 ?_ ?_ N (by omega) (by omega)
  · intro q
    show L_X8_digest_180 N _ τ2 (q + 1) _ _ = _
    rw [L_X8_digest_180_s, n4, ile_t (Nat.le_refl _) (by decide)]
  · intro q r _ hr
    show L_X8_digest_180 N _ τ2 (q + 1) _ _ = L_X8_digest_180 N _ τ2 q _ _
    rw [L_X8_digest_180_s, n4, ile_f hr (by decide), gi hr (by decide), nI_clamp (by omega), g 9 r (by decide) (by decide), itr_s, nI_1]
    generalize itr (tdg σ) r h4 = v
    unfold tdg
    rcases (hT r hr).sz.2 with b | ⟨m, hm, b⟩
    · obtain ⟨N', rfl⟩ : ∃ q, N = q + 1 := ⟨N - 1, by omega⟩
      rw [b, m1_clamp]
      conv => lhs; rw [L_X8_digest_202_s, gi hr (by decide), nI_clamp (by omega), g 9 r (by decide) (by decide), b, n0, ile_m1l _ _ 0 (by decide)]
      rfl
    · rw [b, nI_clamp (by omega)]
      exact up_eq (fun q' w s => L_X8_digest_202 N (fun v1_7 v4_7 => L_X8_digest_180 N _ τ2 q v1_7 (nI (r + 1))) (nI r) τ2 q' s w) (fun _ v1_7 => L_X8_digest_180 N _ τ2 q v1_7 (nI (r + 1))) (fun j => dg (fun k => rI σ 22 8 0 (60 * r + k)) j (31 * v + (nI m).toInt64)) 0 m
        (fun q' => by
          show L_X8_digest_202 N _ _ τ2 (q' + 1) _ _ = _
          rw [L_X8_digest_202_s, gi hr (by decide), nI_clamp (by omega), g 9 r (by decide) (by decide), b, ile_t (Nat.le_refl _) (by omega)])
        (fun q' j _ hj => by
          show L_X8_digest_202 N _ _ τ2 (q' + 1) _ _ = L_X8_digest_202 N _ _ τ2 q' _ _
          rw [L_X8_digest_202_s, gi hr (by decide), nI_clamp (by omega), g 9 r (by decide) (by decide), b, ile_f hj (by omega), n60, pk_mul, nI_add, gi (by omega) (by decide), nI_clamp (by omega), g 8 _ (by decide) (by decide), nI_1]
          rfl) N (by omega) (by omega)
theorem digS_sc {τ : Sg} (f : Fq scR σ τ) : digS τ n nd c = digS σ n nd c := by
  have g : ∀ i k, i < 20 → rI τ 22 i 0 k = rI σ 22 i 0 k := fun i k hi => (f 22 i 0 k (by unfold scR; omega)).1
  unfold digS
  rw [dg_cong (f := fun k => nI (cn τ n nd c k)) (g := fun k => nI (cn σ n nd c k)) (fun k _ => by rw [cn_sc f k]), dg_cong (f := fun k => rI τ 22 19 0 k) (g := fun k => rI σ 22 19 0 k) (m := 3) (fun k _ => g 19 k (by decide)), itr_cong (f := rdg τ) (g := rdg σ) (fun r _ h => by
    unfold rdg
    rw [g 7 r (by decide), dg_cong (fun k _ => g 6 _ (by decide))]), itr_cong (f := tdg τ) (g := tdg σ) (fun r _ h => by
    unfold tdg
    rw [g 9 r (by decide), dg_cong (fun k _ => g 8 _ (by decide))])]
theorem st_digest (hN : 100 < N) : StepL (f_X7_digest N) (f_X8_digest N) := by
  intro σ hI
  obtain ⟨n, nd, D, hs⟩ := hI.2.2.2.2.2
  obtain ⟨τ, e, f⟩ := mo_digest (N := N) (iRow_sc hI.1 (th0_fr (σ := σ))) (iTxt_sc hI.2.1 th0_fr) (hs.q (tl_sc th0_fr)) hN
  refine ⟨digS σ n nd (D nd), σ, τ, cl_digest hI.1 hI.2.1 hs hN, ?_, Inv_sc (Inv_th0 hI) f⟩
  unfold f_X8_digest
  rw [th_d, ← digS_sc th0_fr]
  exact e
end Digest
