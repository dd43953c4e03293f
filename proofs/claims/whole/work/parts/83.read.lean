section Read
variable {N n : Nat} {σ : Sg} {c : Scr}
theorem lie_raw {i l t : Nat} {p : Nat → Nat} (hb : bxS (uI (uI σ 9 1 i 1 (nI l)) 9 1 i 2 (nI t)) 1 i p) (ok : okB p) (hN : 12 < N) : f_X2_lieAt N 1 i (nI l) (nI t) σ = some (ms (uI (uI σ 9 1 i 1 (nI l)) 9 1 i 2 (nI t)) 1 i (cvr p)) := by
  unfold f_X2_lieAt
  rw [sp_findCells N 1 i hb ok hN]
  rfl
theorem tpn_at (c : Scr) (i : Nat) (x : Nat × Nat × Nat × Nat × Nat) (f : Nat) : tpn c i x i f = if f = 0 then x.1 else if f = 1 then x.2.1 else if f = 2 then x.2.2.1 else if f = 3 then x.2.2.2.1 else if f = 4 then x.2.2.2.2 else if f = 5 then i else 1 := if_pos rfl
theorem tpn_off {i j : Nat} {x : Nat × Nat × Nat × Nat × Nat} (h : j ≠ i) : tpn c i x j = c j := by funext f; exact if_neg h
theorem rpn_ok {b : Nat → Int32} {m p : Nat} {x : Nat × Nat × Nat × Nat × Nat} (h : rpn b m p = .inr x) (c : Scr) (i : Nat) : okB (tpn c i x i) ∧ p + 4 < m := by
  unfold rpn at h
  split at h
  · cases h
  · split at h
    · cases h
    · split at h
      · cases h
      · split at h
        · cases h
        · split at h
          · cases h
          · rename_i hk _ l h1 _ t h2 _ w h3 _ g h4
            cases h
            have a1 := fgo_b h1 (by decide)
            have a2 := fgo_b h2 (by decide)
            have a3 := fgo_b h3 (by split <;> omega)
            have a4 := fgo_b h4 (by omega)
            refine ⟨?_, a4.2.2.2⟩
            unfold okB
            rw [tpn_at, tpn_at, tpn_at, tpn_at, tpn_at]
            simp
            have : w ≤ 12 - l := by
              have := a3.2.1
              split at this <;> omega
            omega
theorem cl_readPane {t i p m : Nat} (hm : m ≤ 60) (h5 : rI σ 5 t 0 1 = nI m) (hp : p < m) (c : Scr) (hN : 100 < N) :
    (∀ e, rpn (fun k => rI σ 6 t 0 k) m p = .inl e → f_X5_readPane N t (nI p) 1 i σ = some (nI e, σ)) ∧
    (∀ x, rpn (fun k => rI σ 6 t 0 k) m p = .inr x → ∃ τ, f_X5_readPane N t (nI p) 1 i σ = some (-9, τ) ∧ isPn (uI τ 9 1 i 5 (nI i)) 1 i (tpn c i x i) ∧ Fr (at9 1 i) σ τ) := by
  have c0 : f_X5_readPane N t (nI p) 1 i σ = f_X5_readPane N t (nI p) 1 i σ := rfl
  conv at c0 =>
    rhs
    rw [f_X5_readPane, cl_kindAt (show p < 60 by omega) hN, Option.bind_some]
  dsimp only at c0
  have hok := fun x h => (rpn_ok (b := fun k => rI σ 6 t 0 k) (m := m) (p := p) (x := x) h c i).1
  unfold rpn at *
  by_cases hk : 6 ≤ kdN (rI σ 6 t 0 p)
  · rw [if_neg (show ¬ kdN (rI σ 6 t 0 p) < 6 by omega), if_neg (by decide)] at c0
    rw [if_pos hk]
    refine ⟨fun e he => ?_, fun x hx => by cases hx⟩
    cases he; exact c0
  · rw [if_pos (show kdN (rI σ 6 t 0 p) < 6 by omega), if_pos (nI_pos' (by omega)), nI_1, n0, show (9 : Int32) = nI 9 from rfl, cl_figure hm h5 (by omega) (by decide) (by decide), Option.bind_some] at c0
    rw [if_neg hk] at hok ⊢
    cases h1 : fgo (fun k => rI σ 6 t 0 k) m (p + 1) 0 9 with
    | none =>
      rw [h1] at c0 hok
      refine ⟨fun e he => ?_, fun x hx => by cases hx⟩
      cases he; exact c0
    | some l =>
      rw [h1] at c0 hok
      dsimp only at c0 hok
      have a1 := fgo_b h1 (by decide)
      rw [if_pos (show nI 0 ≤ nI l from nI_le (by omega) (by omega)), n2, nI_add, n7, cl_figure hm h5 (by omega) (by decide) (by decide), Option.bind_some] at c0
      cases h2 : fgo (fun k => rI σ 6 t 0 k) m (p + 2) 0 7 with
      | none =>
        rw [h2] at c0 hok
        refine ⟨fun e he => ?_, fun x hx => by simp only [h2] at hx; cases hx⟩
        simp only [h2] at he
        cases he; exact c0
      | some tt =>
        rw [h2] at c0 hok
        dsimp only at c0 hok
        have a2 := fgo_b h2 (by decide)
        have eb : (if (12 : Int32) - nI l < nI 9 then (12 : Int32) - nI l else nI 9) = nI (if 12 - l < 9 then 12 - l else 9) := by
          rw [n12, pk_sub (by omega)]
          by_cases hl : 12 - l < 9
          · rw [ilt_t hl (by decide), if_pos hl]
          · rw [ilt_f (by omega) (by omega), if_neg hl]
        rw [if_pos (show nI 0 ≤ nI tt from nI_le (by omega) (by omega)), n3, nI_add, eb, n1, cl_figure hm h5 (by omega) (by decide) (by split <;> omega), Option.bind_some] at c0
        cases h3 : fgo (fun k => rI σ 6 t 0 k) m (p + 3) 1 (if 12 - l < 9 then 12 - l else 9) with
        | none =>
          rw [h3] at c0 hok
          refine ⟨fun e he => ?_, fun x hx => by simp only [h2, h3] at hx; cases hx⟩
          simp only [h2, h3] at he
          cases he; exact c0
        | some w =>
          rw [h3] at c0 hok
          dsimp only at c0 hok
          have a3 := fgo_b h3 (by split <;> omega)
          have hw9 : w ≤ 9 := by
            have := a3.2.1
            split at this <;> omega
          rw [if_pos (show nI 0 ≤ nI w from nI_le (by omega) (by omega)), n4, nI_add, n8, pk_sub (by omega), cl_figure hm h5 (by omega) (by decide) (by omega), Option.bind_some] at c0
          cases h4 : fgo (fun k => rI σ 6 t 0 k) m (p + 4) 1 (8 - tt) with
          | none =>
            rw [h4] at c0 hok
            refine ⟨fun e he => ?_, fun x hx => by simp only [h2, h3, h4] at hx; cases hx⟩
            simp only [h2, h3, h4] at he
            cases he; exact c0
          | some g =>
            rw [h4] at c0 hok
            dsimp only at c0 hok
            have a4 := fgo_b h4 (by omega)
            have ok := hok _ rfl
            rw [if_pos (show nI 0 ≤ nI g from nI_le (by omega) (by omega))] at c0
            refine ⟨fun e he => (by simp only [h2, h3, h4] at he; cases he), fun x hx => ?_⟩
            simp only [h2, h3, h4] at hx
            cases hx
            have hb : ∀ f, f < 7 → f ≠ 5 → rI (uI (uI (uI (uI (uI (uI σ 9 1 i 3 (nI w)) 9 1 i 4 (nI g)) 9 1 i 0 (nI (kdN (rI σ 6 t 0 p)))) 9 1 i 6 (nI 1)) 9 1 i 1 (nI l)) 9 1 i 2 (nI tt)) 9 1 i f = nI (tpn c i (kdN (rI σ 6 t 0 p), l, tt, w, g) i f) := by
              intro f hf h5'
              rcases (show f = 0 ∨ f = 1 ∨ f = 2 ∨ f = 3 ∨ f = 4 ∨ f = 6 by omega) with rfl | rfl | rfl | rfl | rfl | rfl <;> simp [rI_uI, tpn_at]
            rw [lie_raw (p := tpn c i (kdN (rI σ 6 t 0 p), l, tt, w, g) i) (fun f hf => hb f (by omega) (by omega)) ok (by omega), Option.bind_some] at c0
            refine ⟨_, c0, ⟨fun f hf => ?_, ?_, ?_⟩, ?_⟩
            · rw [rI_uI]
              by_cases e5 : f = 5
              · subst e5; rw [if_pos ⟨rfl, rfl, rfl, rfl⟩, tpn_at]; rfl
              · rw [if_neg (fun z => e5 z.2.2.2), ms_rI]; exact hb f hf e5
            · exact ms_7 _ _ _ _
            · exact ms_8 _ _ _ _
            · exact ((((((Fr.rf.uI ⟨rfl, rfl, rfl⟩).uI ⟨rfl, rfl, rfl⟩).uI ⟨rfl, rfl, rfl⟩).uI ⟨rfl, rfl, rfl⟩).uI ⟨rfl, rfl, rfl⟩).uI ⟨rfl, rfl, rfl⟩).ms ⟨rfl, rfl, rfl⟩
end Read
