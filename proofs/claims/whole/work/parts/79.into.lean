section Into
variable {N n : Nat} {σ : Sg} {c : Scr}
def ofR (r : Nat) (t i _ k : Nat) : Prop := (t = 15 ∧ 0 < k) ∨ (t = 3 ∧ i = r)
theorem els_pos {S : Nat} (h0 : 0 < S) (h1 : S < 2 ^ n) : 0 < (els n S).length := by
  rcases Nat.eq_zero_or_pos (els n S).length with e | e
  · have e2 : els n S = [] := List.length_eq_zero_iff.mp e
    have := sm_els h1
    rw [e2] at this
    have z : sm n [] = 0 := msk_zero.mpr (fun i _ => by simp)
    omega
  · exact e
theorem tb_fr {τ : Sg} {S X : Nat} (h : tb σ n c X) (f : Fq (fun t _ _ k => t = 15 ∧ k = S) σ τ) (hx : X ≠ S) : tb τ n c X := by
  obtain ⟨t, h1, h2, h3⟩ := h
  refine ⟨t, h1, ((f 15 0 0 X (by omega)).1).trans h2, fun h0 => ?_⟩
  obtain ⟨v, r, a, b⟩ := h3 h0
  exact ⟨v, r, a, ((f 15 1 0 X (by omega)).1).trans b⟩
theorem cl_into {r : Nat} (hS : isScr σ 0 n c) (ok : okS n c) (hn2 : 2 ≤ n) (hr : r < 6) (h15 : rI σ 15 0 0 0 = 0) (hN : 200 < N) :
    ∃ τ t, bs n c n (List.range n) = some t ∧ f_X0_findInto N r 0 σ = some (nI t.1, τ) ∧ (∀ k, k < n → rI τ 3 r 0 k = nI (gtl t.2 k)) ∧ Fq (ofR r) σ τ := by
  have hn := ok.1
  have h128 := p128 hn
  have hpos : 2 ≤ 2 ^ n := by
    have : 2 ^ 1 ≤ 2 ^ n := Nat.pow_le_pow_right (by decide) (by omega)
    omega
  have ef : ((1 : Int32) <<< (nI n &&& 31)) - 1 = nI (2 ^ n - 1) := by rw [I_1 n (by omega), n1, pk_sub (by omega)]
  unfold f_X0_findInto
  rw [hS.1, ef]
  generalize hK : (fun (v4_2 : Int32) σ_2 => L_X0_findInto_37 N (fun v4_3 v5_3 σ_3 => gd (ib (nI (2 ^ n - 1)) 128) (some (rI σ_3 15 0 0 (nI (2 ^ n - 1)).toNatClampNeg, σ_3))) r 0 (nI (2 ^ n - 1)) N (nI (2 ^ n - 1)) (0 : Int32) σ_2) = K
  obtain ⟨τ, e, -, g1, g2⟩ := up_rel (fun q v τ => L_X0_findInto_12 N K r 0 (nI (2 ^ n - 1)) q v τ) K
    (fun S τ => 1 ≤ S ∧ (∀ X, X < S → tb τ n c X) ∧ Fq (fun t _ _ k => t = 15 ∧ 0 < k) σ τ) (2 ^ n)
    (fun q τ h => by
      show L_X0_findInto_12 N _ _ _ _ (q + 1) _ _ = _
      rw [L_X0_findInto_12_s, ilt_t (by omega) (by omega)])
    (fun q S τ hS1 h => by
      obtain ⟨h0, h1, h2⟩ := h
      have hS' : isScr τ 0 n c := hS.frq h2 (fun _ _ => by omega) (fun _ _ => by omega)
      obtain ⟨υ, e, k1, k2⟩ := cl_findFor (N := N) hS' ok (by omega) hS1 (els_pos (by omega) hS1) h1 (by omega)
      refine ⟨υ, ?_, by omega, fun X hX => ?_, h2.tr k2 (fun _ _ _ _ z => z) (fun t i j k z => ⟨z.1, by omega⟩)⟩
      · show L_X0_findInto_12 N _ _ _ _ (q + 1) _ _ = L_X0_findInto_12 N _ _ _ _ q _ _
        rw [L_X0_findInto_12_s, ilt_f (by omega) (by omega), e, Option.bind_some, nI_1]
      · by_cases e2 : X = S
        · subst e2; exact k1
        · exact tb_fr (h1 X (by omega)) k2 e2)
    (2 ^ n - 1) 1 σ N (by omega) ⟨Nat.le_refl _, fun X hX => by
      have : X = 0 := by omega
      subst this
      refine ⟨(0, []), ?_, h15, fun z => by omega⟩
      show bs n c (els n 0).length (els n 0) = _
      rw [els_0]; rfl, Fq.rf⟩ (by omega)
  have e' : L_X0_findInto_12 N K r 0 (nI (2 ^ n - 1)) N 1 σ = _ := e
  rw [e', ← hK]
  have hS1 : isScr τ 0 n c := hS.frq g2 (fun _ _ => by omega) (fun _ _ => by omega)
  obtain ⟨T, t1, t2, t3⟩ := g1 (2 ^ n - 1) (by omega)
  have t1' : bs n c n (List.range n) = some T := by
    have : bs n c (els n (2 ^ n - 1)).length (els n (2 ^ n - 1)) = some T := t1
    rw [els_full, List.length_range] at this; exact this
  obtain ⟨T', x1, x2, x3⟩ := bs_some (n := n) (c := c) n (List.range n) List.length_range
  rw [t1'] at x1
  cases x1
  obtain ⟨⟨v, υ⟩, e2, S, a1, a2, a3, a4, a5, a6⟩ := up_rel (fun q v (s : Int32 × Sg) => L_X0_findInto_37 N (fun v4_3 v5_3 σ_3 => gd (ib (nI (2 ^ n - 1)) 128) (some (rI σ_3 15 0 0 (nI (2 ^ n - 1)).toNatClampNeg, σ_3))) r 0 (nI (2 ^ n - 1)) q s.1 v s.2) (fun _ s => gd (ib (nI (2 ^ n - 1)) 128) (some (rI s.2 15 0 0 (nI (2 ^ n - 1)).toNatClampNeg, s.2)))
    (fun j s => ∃ S, s.1 = nI S ∧ S < 2 ^ n ∧ (els n S).length = n - j ∧ (∃ u, Bq n c S = some u ∧ u.2 = T.2.drop j) ∧ (∀ k, k < j → rI s.2 3 r 0 k = nI (gtl T.2 k)) ∧ Fq (fun t i _ _ => t = 3 ∧ i = r) τ s.2) n
    (fun q s h => by
      obtain ⟨S, -, -, -, -, -, h6⟩ := h
      show L_X0_findInto_37 N _ _ _ _ (q + 1) _ _ _ = _
      rw [L_X0_findInto_37_s, (h6 7 0 0 1 (by omega)).1, hS1.1, ile_t (Nat.le_refl _) (by omega)])
    (fun q j s hj h => by
      obtain ⟨v, ω⟩ := s
      obtain ⟨S, h1, h2, h3, ⟨u, h4, h4'⟩, h5, h6⟩ := h
      dsimp only at h1 h5 h6
      subst h1
      have hS0 : 0 < S := by
        rcases Nat.eq_zero_or_pos S with z | z
        · rw [z, els_0] at h3
          have h3' : 0 = n - j := h3
          omega
        · exact z
      obtain ⟨u', w1, -, w3⟩ := g1 S h2
      rw [h4] at w1
      cases w1
      obtain ⟨x, rest, y1, y2⟩ := w3 hS0
      obtain ⟨m, hm⟩ : ∃ m, (els n S).length = m + 1 := ⟨(els n S).length - 1, by omega⟩
      have hb : bs n c (m + 1) (els n S) = some u := by rw [← hm]; exact h4
      obtain ⟨x', u2, z1, z2, z3⟩ := bsf_in (show bsf n c (bs n c m) (els n S) (els n S) = some u from hb)
      have ex : x' = x ∧ u2.2 = rest := by
        rw [z3] at y1
        exact ⟨(List.cons.inj y1).1, (List.cons.inj y1).2⟩
      obtain ⟨rfl, ex2⟩ := ex
      obtain ⟨xn, xb⟩ := els_in.mp z1
      have hc := clr_lt S (by omega) x' (by omega) xb
      have hE := els_erase (n := n) (S := S) (v := x') hn (by omega) (by omega)
      have hlen : (els n (clr S x')).length = m := by rw [← hE, List.length_erase_of_mem z1, hm]; rfl
      have hq : gtl T.2 j = x' := by
        have d0 : (T.2.drop j)[0]? = some x' := by rw [← h4', y1]; rfl
        rw [List.getElem?_drop, Nat.add_zero] at d0
        show T.2.getD j 0 = x'
        rw [List.getD_eq_getElem?_getD, d0]; rfl
      refine ⟨(nI (clr S x'), uI ω 3 r 0 j (nI x')), ?_, clr S x', rfl, by omega, by omega, ⟨u2, ?_, ?_⟩, fun k hk => ?_, h6.uI ⟨rfl, rfl⟩⟩
      · show L_X0_findInto_37 N _ _ _ _ (q + 1) _ _ _ = L_X0_findInto_37 N _ _ _ _ q _ _ _
        rw [L_X0_findInto_37_s, (h6 7 0 0 1 (by omega)).1, hS1.1, ile_f hj (by omega), gi (by omega) (by decide), gi (by omega) (by decide), gi (by omega) (by decide)]
        dsimp only
        rw [nI_clamp (show S < 2 ^ 31 by omega), nI_clamp (show j < 2 ^ 31 by omega), (h6 15 1 0 S (by omega)).1, y2, rI_uI, if_pos ⟨rfl, rfl, rfl, rfl⟩, clr_I S (by omega) x' (by omega), nI_1]
      · show bs n c (els n (clr S x')).length (els n (clr S x')) = _
        rw [hlen, ← hE]; exact z2
      · rw [ex2, ← List.drop_drop, ← h4', y1]; rfl
      · show rI (uI ω 3 r 0 j (nI x')) 3 r 0 k = _
        rw [rI_uI]
        by_cases e3 : k = j
        · subst e3; rw [if_pos ⟨rfl, rfl, rfl, rfl⟩, hq]
        · rw [if_neg (fun z => e3 z.2.2.2)]; exact h5 k (by omega))
    n 0 (nI (2 ^ n - 1), τ) N (by omega) ⟨2 ^ n - 1, rfl, by omega, by rw [els_full, List.length_range]; rfl, ⟨T, t1, rfl⟩, fun k hk => by omega, Fq.rf⟩ (by omega)
  refine ⟨υ, T, t1', ?_, a5, g2.tr a6 (fun _ _ _ _ z => Or.inl z) (fun _ _ _ _ z => Or.inr z)⟩
  refine Eq.trans e2 ?_
  dsimp only
  rw [gi (by omega) (by decide), nI_clamp (by omega), (a6 15 0 0 _ (by omega)).1, t2]
end Into
