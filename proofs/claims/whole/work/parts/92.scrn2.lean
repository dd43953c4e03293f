section Scrn2
variable {N n : Nat} {σ : Sg} {c : Scr}
def cpR (t i j _ : Nat) : Prop := t = 22 ∧ 11 ≤ i ∧ i ≤ 14 ∧ j = 0
theorem mo_s52 (K : Int32 → Sg → Option (Int32 × Sg)) (hn : n ≤ 7) (h10 : rI σ 21 0 0 10 = nI n) (h : ∀ i, i < n → ∀ f, f < 5 → rI σ 22 31 0 (7 * f + i) = nI (c i f)) (hN : 100 < N) :
    ∃ v υ, L_X8_screen_52 N K N 0 σ = K v υ ∧ (∀ i, i < n → rI υ 22 11 0 i = nI (c i 0) ∧ rI υ 22 14 0 i = nI (c i 1) ∧ rI υ 22 14 0 (7 + i) = nI (c i 2) ∧ rI υ 22 12 0 i = nI (c i 3) ∧ rI υ 22 13 0 i = nI (c i 4) ∧ rI υ 22 14 0 (14 + i) = nI i) ∧ Fq cpR σ υ := by
  obtain ⟨υ, e, h1, h2⟩ := up_rel (fun q v τ => L_X8_screen_52 N K q v τ) K
    (fun j τ => (∀ i, i < j → i < n → rI τ 22 11 0 i = nI (c i 0) ∧ rI τ 22 14 0 i = nI (c i 1) ∧ rI τ 22 14 0 (7 + i) = nI (c i 2) ∧ rI τ 22 12 0 i = nI (c i 3) ∧ rI τ 22 13 0 i = nI (c i 4) ∧ rI τ 22 14 0 (14 + i) = nI i) ∧ Fq cpR σ τ) 7
    (fun q τ h => by
      show L_X8_screen_52 N _ (q + 1) _ _ = _
      rw [L_X8_screen_52_s, n7, ile_t (Nat.le_refl _) (by decide)])
    (fun q j τ hj h' => by
      obtain ⟨g1, g2⟩ := h'
      have t10 : rI τ 21 0 0 10 = nI n := ((g2 21 0 0 10 (by unfold cpR; omega)).1).trans h10
      have put : ∀ a0 a1 a2 a3 a4 : Int32, Fq cpR σ (uI (uI (uI (uI (uI (uI τ 22 11 0 j a0) 22 14 0 j a1) 22 14 0 (7 + j) a2) 22 12 0 j a3) 22 13 0 j a4) 22 14 0 (14 + j) (nI j)) ∧ ∀ i, i < j → rI (uI (uI (uI (uI (uI (uI τ 22 11 0 j a0) 22 14 0 j a1) 22 14 0 (7 + j) a2) 22 12 0 j a3) 22 13 0 j a4) 22 14 0 (14 + j) (nI j)) 22 11 0 i = rI τ 22 11 0 i ∧ rI (uI (uI (uI (uI (uI (uI τ 22 11 0 j a0) 22 14 0 j a1) 22 14 0 (7 + j) a2) 22 12 0 j a3) 22 13 0 j a4) 22 14 0 (14 + j) (nI j)) 22 14 0 i = rI τ 22 14 0 i ∧ rI (uI (uI (uI (uI (uI (uI τ 22 11 0 j a0) 22 14 0 j a1) 22 14 0 (7 + j) a2) 22 12 0 j a3) 22 13 0 j a4) 22 14 0 (14 + j) (nI j)) 22 14 0 (7 + i) = rI τ 22 14 0 (7 + i) ∧ rI (uI (uI (uI (uI (uI (uI τ 22 11 0 j a0) 22 14 0 j a1) 22 14 0 (7 + j) a2) 22 12 0 j a3) 22 13 0 j a4) 22 14 0 (14 + j) (nI j)) 22 12 0 i = rI τ 22 12 0 i ∧ rI (uI (uI (uI (uI (uI (uI τ 22 11 0 j a0) 22 14 0 j a1) 22 14 0 (7 + j) a2) 22 12 0 j a3) 22 13 0 j a4) 22 14 0 (14 + j) (nI j)) 22 13 0 i = rI τ 22 13 0 i ∧ rI (uI (uI (uI (uI (uI (uI τ 22 11 0 j a0) 22 14 0 j a1) 22 14 0 (7 + j) a2) 22 12 0 j a3) 22 13 0 j a4) 22 14 0 (14 + j) (nI j)) 22 14 0 (14 + i) = rI τ 22 14 0 (14 + i) := by
        intro a0 a1 a2 a3 a4
        refine ⟨(((((g2.uI ⟨rfl, by decide, by decide, rfl⟩).uI ⟨rfl, by decide, by decide, rfl⟩).uI ⟨rfl, by decide, by decide, rfl⟩).uI ⟨rfl, by decide, by decide, rfl⟩).uI ⟨rfl, by decide, by decide, rfl⟩).uI ⟨rfl, by decide, by decide, rfl⟩, fun i hi => ?_⟩
        refine ⟨?_, ?_, ?_, ?_, ?_, ?_⟩ <;> rw [rI_uI, if_neg (by omega), rI_uI, if_neg (by omega), rI_uI, if_neg (by omega), rI_uI, if_neg (by omega), rI_uI, if_neg (by omega), rI_uI, if_neg (by omega)]
      show ∃ s', L_X8_screen_52 N K (q + 1) (nI j) τ = L_X8_screen_52 N K q (nI (j + 1)) s' ∧ _
      rw [L_X8_screen_52_s, n7, ile_f hj (by decide), t10]
      by_cases hjn : j < n
      · have td : ∀ f, f < 5 → rI τ 22 31 0 (7 * f + j) = nI (c j f) := fun f hf => ((g2 22 31 0 _ (by unfold cpR; omega)).1).trans (h j hjn f hf)
        have t0 : rI τ 22 31 0 j = nI (c j 0) := by have := td 0 (by decide); rw [show 7 * 0 + j = j by omega] at this; exact this
        have t1 : rI τ 22 31 0 (7 + j) = nI (c j 1) := td 1 (by decide)
        have t2 : rI τ 22 31 0 (14 + j) = nI (c j 2) := td 2 (by decide)
        have t3 : rI τ 22 31 0 (21 + j) = nI (c j 3) := td 3 (by decide)
        have t4 : rI τ 22 31 0 (28 + j) = nI (c j 4) := td 4 (by decide)
        have rd : ∀ (x : Sg) (a k l : Nat) (v : Int32), a ≠ 31 → rI (uI x 22 a 0 k v) 22 31 0 l = rI x 22 31 0 l := fun x a k l v ha => by rw [rI_uI, if_neg (by omega)]
        obtain ⟨p1, p2⟩ := put (nI (c j 0)) (nI (c j 1)) (nI (c j 2)) (nI (c j 3)) (nI (c j 4))
        rw [ile_f hjn (by omega), z_add, n14, n21, n28, nI_add, nI_add, nI_add, nI_add, nI_1]
        simp (disch := first | omega | decide) only [gi, nI_clamp, rd, t0, t1, t2, t3, t4]
        refine ⟨_, rfl, fun i hi hin => ?_, p1⟩
        by_cases e : i = j
        · subst e
          refine ⟨?_, ?_, ?_, ?_, ?_, ?_⟩ <;> simp [rI_uI] <;> omega
        · obtain ⟨y1, y2, y3, y4, y5, y6⟩ := p2 i (by omega)
          obtain ⟨x1, x2, x3, x4, x5, x6⟩ := g1 i (by omega) hin
          exact ⟨y1.trans x1, y2.trans x2, y3.trans x3, y4.trans x4, y5.trans x5, y6.trans x6⟩
      · obtain ⟨p1, p2⟩ := put 0 0 0 0 0
        rw [ile_t (by omega) (by omega), z_add, n14, nI_add, nI_add, nI_1]
        simp (disch := first | omega | decide) only [gi, nI_clamp]
        refine ⟨_, rfl, fun i hi hin => ?_, p1⟩
        obtain ⟨y1, y2, y3, y4, y5, y6⟩ := p2 i (by omega)
        obtain ⟨x1, x2, x3, x4, x5, x6⟩ := g1 i (by omega) hin
        exact ⟨y1.trans x1, y2.trans x2, y3.trans x3, y4.trans x4, y5.trans x5, y6.trans x6⟩)
    7 0 σ N (by omega) ⟨fun i hi => by omega, Fq.rf⟩ (by omega)
  exact ⟨_, υ, e, fun i hi => h1 i (by omega) hi, h2⟩
end Scrn2
