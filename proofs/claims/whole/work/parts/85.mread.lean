section MRead
variable {N n : Nat} {σ : Sg} {c : Scr}
/-- the text that the reference reads, and where it stands -/
def mT (τ : Sg) (t m : Nat) (b : Nat → Int32) (p : Nat) (f : Int32) : Prop := rI τ 21 0 0 28 = nI t ∧ rI τ 22 9 0 t = nI m ∧ (∀ k, k < m → rI τ 22 8 0 (60 * t + k) = b k) ∧ rI τ 21 0 0 27 = nI p ∧ rI τ 21 0 0 29 = f
def bya (b : Nat → Int32) (m p : Nat) : Int32 := if p < m then b p else -1000
theorem sp_byteAt {t m p : Nat} {b : Nat → Int32} (ht : t < 4) (hm : m ≤ 60) (hp : p < 1000) (h1 : rI σ 21 0 0 28 = nI t) (h2 : rI σ 22 9 0 t = nI m) (h3 : ∀ k, k < m → rI σ 22 8 0 (60 * t + k) = b k) : f_X8_byteAt N (nI p) σ = some (bya b m p, σ) := by
  unfold f_X8_byteAt bya
  rw [h1, gi ht (by decide), nI_clamp (by omega), h2]
  by_cases h : p < m
  · rw [ile_f h (by omega), if_pos h, n60, pk_mul, nI_add, gi (by omega) (by decide), nI_clamp (by omega), h3 p h]
  · rw [ile_t (by omega) (by omega), if_neg h]
def r27 (t _ _ k : Nat) : Prop := t = 21 ∧ (k = 27 ∨ k = 29)
theorem mT_mv {τ : Sg} {t m p : Nat} {b : Nat → Int32} {f : Int32} (h : mT τ t m b p f) (p' : Nat) : mT (uI τ 21 0 0 27 (nI p')) t m b p' f := by
  obtain ⟨a1, a2, a3, a4, a5⟩ := h
  exact ⟨a1, a2, a3, by rw [rI_uI, if_pos ⟨rfl, rfl, rfl, rfl⟩], a5⟩
theorem mT_ft {τ : Sg} {t m p : Nat} {b : Nat → Int32} {f : Int32} (h : mT τ t m b p f) (f' : Int32) : mT (uI τ 21 0 0 29 f') t m b p f' := by
  obtain ⟨a1, a2, a3, a4, a5⟩ := h
  exact ⟨a1, a2, a3, a4, by rw [rI_uI, if_pos ⟨rfl, rfl, rfl, rfl⟩]⟩
/-- the reference reads a figure -/
theorem sp_figure {t m p lo hi : Nat} {b : Nat → Int32} {f : Int32} {H : Int32} (ht : t < 4) (hm : m ≤ 60) (hp : p < 900) (hlo : lo < 100) (h : mT σ t m b p f) (hf : f = -1 ∨ 0 ≤ f) :
    ∃ υ, f_X8_figure N (nI lo) H σ = some (bya b m p - 48, υ) ∧ mT υ t m b (p + 1) (if 0 ≤ f then f else if (lo : Int) ≤ (bya b m p - 48).toInt ∧ (bya b m p - 48).toInt ≤ H.toInt then f else nI p) ∧ Fq r27 σ υ := by
  obtain ⟨a1, a2, a3, a4, a5⟩ := h
  have tl : (nI lo).toInt = lo := nI_toInt (by omega)
  unfold f_X8_figure
  rw [a4, sp_byteAt ht hm (by omega) a1 a2 a3, Option.bind_some]
  dsimp only
  rw [a4, a5, nI_1]
  by_cases h0 : 0 ≤ f
  · rw [if_pos h0, if_pos h0]
    exact ⟨_, rfl, mT_mv ⟨a1, a2, a3, a4, a5⟩ _, Fq.rf.uI ⟨rfl, Or.inl rfl⟩⟩
  · rw [if_neg h0, if_neg h0, sp_in, Option.bind_some, b2n_z, tl]
    by_cases hi : (lo : Int) ≤ (bya b m p - 48).toInt ∧ (bya b m p - 48).toInt ≤ H.toInt
    · rw [decide_eq_true hi, if_pos rfl, if_pos hi]
      dsimp only
      rw [a4, nI_1]
      exact ⟨_, rfl, mT_mv ⟨a1, a2, a3, a4, a5⟩ _, Fq.rf.uI ⟨rfl, Or.inl rfl⟩⟩
    · rw [decide_eq_false hi, if_neg (by decide), if_neg hi]
      dsimp only
      rw [rI_uI, if_neg (by omega), a4, nI_1]
      exact ⟨_, rfl, mT_mv (mT_ft ⟨a1, a2, a3, a4, a5⟩ _) _, (Fq.rf.uI ⟨rfl, Or.inr rfl⟩).uI ⟨rfl, Or.inl rfl⟩⟩
theorem bya_32 {b : Nat → Int32} {m p : Nat} : bya b m p = 32 ↔ p < m ∧ b p = 32 := by
  unfold bya
  by_cases h : p < m
  · rw [if_pos h]; exact ⟨fun z => ⟨h, z⟩, fun z => z.2⟩
  · rw [if_neg h]; exact ⟨fun z => absurd z (by decide), fun z => absurd z.1 h⟩
/-- the reference goes over blanks: as the reading does -/
theorem sp_blanks {t m p : Nat} {b : Nat → Int32} {f : Int32} (ht : t < 4) (hm : m ≤ 60) (hp : p ≤ 100) (h : mT σ t m b p f) (hN : 300 < N) :
    ∃ υ p', f_X8_blanks N σ = some υ ∧ mT υ t m b p' f ∧ p ≤ p' ∧ (p' ≤ m ∨ p' = p) ∧ (p' < m → b p' ≠ 32) ∧ (∀ F n c R, m - p < F → ptx b m F p n c = R → ∃ F', m - p' < F' ∧ ptx b m F' p' n c = R) ∧ Fq r27 σ υ := by
  unfold f_X8_blanks
  refine lp_gen (fun q (s : Sg) => L_X8_blanks_0 N (fun σ_2 => some σ_2) q s)
    (fun d s => ∃ p1, p1 + d = 200 ∧ mT s t m b p1 f ∧ p ≤ p1 ∧ (p1 ≤ m ∨ p1 = p) ∧ (∀ F n c R, m - p < F → ptx b m F p n c = R → ∃ F', m - p1 < F' ∧ ptx b m F' p1 n c = R) ∧ Fq r27 σ s)
    (fun o => ∃ υ p', o = some υ ∧ mT υ t m b p' f ∧ p ≤ p' ∧ (p' ≤ m ∨ p' = p) ∧ (p' < m → b p' ≠ 32) ∧ (∀ F n c R, m - p < F → ptx b m F p n c = R → ∃ F', m - p' < F' ∧ ptx b m F' p' n c = R) ∧ Fq r27 σ υ) ?_ N (200 - p) σ ⟨p, by omega, h, Nat.le_refl _, Or.inr rfl, fun F n c R h1 h2 => ⟨F, h1, h2⟩, Fq.rf⟩ (by omega)
  rintro q d s ⟨p1, hd, hT, hle, hor, hR, hF⟩
  have hT' := hT
  obtain ⟨a1, a2, a3, a4, a5⟩ := hT
  rw [L_X8_blanks_0_s, a4, sp_byteAt ht hm (by omega) a1 a2 a3, Option.bind_some]
  dsimp only
  by_cases h32 : bya b m p1 = 32
  · left
    obtain ⟨x1, x2⟩ := bya_32.mp h32
    rw [if_pos h32, a4, nI_1]
    refine ⟨uI s 21 0 0 27 (nI (p1 + 1)), d - 1, by omega, rfl, p1 + 1, by omega, mT_mv hT' _, by omega, Or.inl (by omega), fun F n c R h1 h2 => ?_, hF.uI ⟨rfl, Or.inl rfl⟩⟩
    obtain ⟨F', g1, g2⟩ := hR F n c R h1 h2
    obtain ⟨F', rfl⟩ : ∃ e, F' = e + 1 := ⟨F' - 1, by omega⟩
    rw [ptx_s, if_neg (by omega), if_pos x2] at g2
    exact ⟨F', by omega, g2⟩
  · right
    rw [if_neg h32]
    exact ⟨s, p1, rfl, hT', hle, hor, fun h1 h2 => h32 (bya_32.mpr ⟨h1, h2⟩), hR, hF⟩
theorem sp_kindOf (x : Int32) : f_X8_kindOf N x σ = some (if kdN x < 6 then nI (kdN x) else -9, σ) := by
  unfold f_X8_kindOf kdN
  by_cases h0 : x = 112
  · simp only [if_pos h0]; rfl
  · by_cases h1 : x = 102
    · simp only [if_neg h0, if_pos h1]; rfl
    · by_cases h2 : x = 103
      · simp only [if_neg h0, if_neg h1, if_pos h2]; rfl
      · by_cases h3 : x = 116
        · simp only [if_neg h0, if_neg h1, if_neg h2, if_pos h3]; rfl
        · by_cases h4 : x = 104
          · simp only [if_neg h0, if_neg h1, if_neg h2, if_neg h3, if_pos h4]; rfl
          · by_cases h5 : x = 109
            · simp only [if_neg h0, if_neg h1, if_neg h2, if_neg h3, if_neg h4, if_pos h5]; rfl
            · simp only [if_neg h0, if_neg h1, if_neg h2, if_neg h3, if_neg h4, if_neg h5]; rfl
end MRead
