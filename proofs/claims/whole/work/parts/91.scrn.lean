section Scrn
variable {N n : Nat} {σ : Sg} {c : Scr}
theorem cl_s70 (K : Int32 → Sg → Option (Int32 × Sg)) (hN : 100 < N) : ∃ v υ, L_X7_screen_70 N K N 0 σ = K v υ ∧ (∀ k, k < 3 → rI υ 10 (k + 1) 0 4 = -1) ∧ Fq (fun t i j k => t = 10 ∧ 1 ≤ i ∧ k = 4) σ υ := by
  obtain ⟨υ, e, h1, h2⟩ := up_rel (fun q v τ => L_X7_screen_70 N K q v τ) K
    (fun j τ => (∀ k, k < j → rI τ 10 (k + 1) 0 4 = -1) ∧ Fq (fun t i j k => t = 10 ∧ 1 ≤ i ∧ k = 4) σ τ) 3
    (fun q τ h => by
      show L_X7_screen_70 N _ (q + 1) _ _ = _
      rw [L_X7_screen_70_s, n3, ile_t (Nat.le_refl _) (by decide)])
    (fun q j τ hj h => by
      refine ⟨uI τ 10 (j + 1) 0 4 (-1), ?_, fun k hk => ?_, h.2.uI ⟨rfl, by omega, rfl⟩⟩
      · show L_X7_screen_70 N _ (q + 1) _ _ = L_X7_screen_70 N _ q _ _
        rw [L_X7_screen_70_s, n3, ile_f hj (by decide), gi hj (by decide), nI_clamp (by omega), nI_1]
      · rw [rI_uI]
        by_cases e : k = j
        · subst e; rw [if_pos ⟨rfl, rfl, rfl, rfl⟩]
        · rw [if_neg (fun z => e (by omega))]; exact h.1 k (by omega))
    3 0 σ N (by omega) ⟨fun k hk => by omega, Fq.rf⟩ (by omega)
  exact ⟨_, υ, e, h1, h2⟩
theorem mo_s227 (K : Int32 → Sg → Option (Int32 × Sg)) (hN : 100 < N) : ∃ v υ, L_X8_screen_227 N K N 0 σ = K v υ ∧ (∀ k, k < 3 → rI υ 22 19 0 k = -1) ∧ Fq (fun t i _ _ => t = 22 ∧ i = 19) σ υ := by
  obtain ⟨υ, e, h1, h2⟩ := up_rel (fun q v τ => L_X8_screen_227 N K q v τ) K
    (fun j τ => (∀ k, k < j → rI τ 22 19 0 k = -1) ∧ Fq (fun t i _ _ => t = 22 ∧ i = 19) σ τ) 3
    (fun q τ h => by
      show L_X8_screen_227 N _ (q + 1) _ _ = _
      rw [L_X8_screen_227_s, n3, ile_t (Nat.le_refl _) (by decide)])
    (fun q j τ hj h => by
      refine ⟨uI τ 22 19 0 j (-1), ?_, fun k hk => ?_, h.2.uI ⟨rfl, rfl⟩⟩
      · show L_X8_screen_227 N _ (q + 1) _ _ = L_X8_screen_227 N _ q _ _
        rw [L_X8_screen_227_s, n3, ile_f hj (by decide), gi hj (by decide), nI_clamp (by omega), nI_1]
      · rw [rI_uI]
        by_cases e : k = j
        · subst e; rw [if_pos ⟨rfl, rfl, rfl, rfl⟩]
        · rw [if_neg (fun z => e z.2.2.2)]; exact h.1 k (by omega))
    3 0 σ N (by omega) ⟨fun k hk => by omega, Fq.rf⟩ (by omega)
  exact ⟨_, υ, e, h1, h2⟩
end Scrn
