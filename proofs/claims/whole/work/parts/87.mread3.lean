section MRead3
variable {N n : Nat} {σ : Sg} {c : Scr}
theorem fig_c {t m p lo hi : Nat} {b : Nat → Int32} (ht : t < 4) (hm : m ≤ 60) (hp : p < 900) (hlo : lo < 100) (hhi : hi < 100) (h : mT σ t m b p (-1)) :
    ∃ w υ, f_X8_figure N (nI lo) (nI hi) σ = some (w, υ) ∧ Fq r27 σ υ ∧ ((fgo b m p lo hi = none ∧ mT υ t m b (p + 1) (nI p)) ∨ ∃ v, fgo b m p lo hi = some v ∧ w = nI v ∧ mT υ t m b (p + 1) (-1)) := by
  obtain ⟨υ, e, h1, h2⟩ := sp_figure (N := N) (hi := 0) (H := nI hi) ht hm hp hlo h (Or.inl rfl)
  have th : (nI hi).toInt = hi := nI_toInt (by omega)
  rw [if_neg (by decide), th] at h1
  refine ⟨_, υ, e, h2, ?_⟩
  have hf := fgo_bya (b := b) (m := m) (p := p) (lo := lo) (hi := hi)
  by_cases hc : (lo : Int) ≤ (bya b m p - 48).toInt ∧ (bya b m p - 48).toInt ≤ (hi : Int)
  · rw [if_pos hc] at hf h1
    refine Or.inr ⟨_, hf, ?_, h1⟩
    rw [fa_eq, nI_toInt (by omega)]; omega
  · rw [if_neg hc] at hf h1
    exact Or.inl ⟨hf, h1⟩
theorem fig_f {t m p lo e : Nat} {H : Int32} {b : Nat → Int32} (ht : t < 4) (hm : m ≤ 60) (hp : p < 900) (hlo : lo < 100) (he : e < 900) (h : mT σ t m b p (nI e)) :
    ∃ w υ, f_X8_figure N (nI lo) H σ = some (w, υ) ∧ Fq r27 σ υ ∧ mT υ t m b (p + 1) (nI e) := by
  obtain ⟨υ, e1, h1, h2⟩ := sp_figure (N := N) (hi := 0) (H := H) ht hm hp hlo h (Or.inr (nI_pos' (by omega)))
  rw [if_pos (nI_pos' (by omega))] at h1
  exact ⟨_, υ, e1, h2, h1⟩
def rdR (t i _ k : Nat) : Prop := (t = 21 ∧ 27 ≤ k) ∨ (t = 22 ∧ i = 31)
theorem r27_rd {τ υ : Sg} (h : Fq rdR σ τ) (h2 : Fq r27 τ υ) : Fq rdR σ υ := h.tr h2 (fun _ _ _ _ z => z) (fun t i j k z => by unfold r27 at z; unfold rdR; omega)
theorem mT_td {ω : Sg} {t m p : Nat} {b : Nat → Int32} {f : Int32} (h : mT ω t m b p f) (w4 w5 w6 w7 : Int32) : mT (tdS ω n w4 w5 w6 w7) t m b p f := h
theorem td_fr (ω : Sg) (w4 w5 w6 w7 : Int32) : Fq rdR ω (tdS ω n w4 w5 w6 w7) := ((((Fq.rf.uI (Or.inr ⟨rfl, rfl⟩)).uI (Or.inr ⟨rfl, rfl⟩)).uI (Or.inr ⟨rfl, rfl⟩)).uI (Or.inr ⟨rfl, rfl⟩)).uI (Or.inl ⟨rfl, by decide⟩)
theorem td_30 (ω : Sg) (w4 w5 w6 w7 : Int32) : rI (tdS ω n w4 w5 w6 w7) 21 0 0 30 = nI (n + 1) := by unfold tdS; rw [rI_uI, if_pos ⟨rfl, rfl, rfl, rfl⟩]
/-- when it is at fault already, the rest is read and nothing comes of it -/
theorem mo_faulted (K : Sg → Option (Int32 × Sg)) (q : Nat) {t m p e : Nat} {b : Nat → Int32} {τ : Sg} (w4 w5 H : Int32) (ht : t < 4) (hm : m ≤ 60) (hp : p < 100) (he : e < 900) (h : mT τ t m b (p + 3) (nI e)) (h30 : rI τ 21 0 0 30 = nI n) (hn : n < 7) (T : Int32 → Int32 → Sg → Option (Int32 × Sg)) (hT : ∀ w6 w7 ω, rI ω 21 0 0 30 = nI n → T w6 w7 ω = (f_X8_blanks N (tdS ω n w4 w5 w6 w7)).bind (fun w8 => L_X8_reads_24 N K q w8)) :
    ∃ υ, ((f_X8_figure N (1 : Int32) H τ).bind (fun w6 => (f_X8_figure N (1 : Int32) ((8 : Int32) - w5) w6.2).bind (fun w7 => T w6.1 w7.1 w7.2))) = (f_X8_blanks N υ).bind (fun w8 => L_X8_reads_24 N K q w8) ∧ rI υ 21 0 0 30 = nI (n + 1) ∧ Fq rdR τ υ ∧ mT υ t m b (p + 5) (nI e) := by
  obtain ⟨w6, υ3, e3, f3, m3⟩ := fig_f (N := N) (lo := 1) (H := H) ht hm (by omega) (by decide) he h
  obtain ⟨w7, υ4, e4, f4, m4⟩ := fig_f (N := N) (lo := 1) (H := 8 - w5) ht hm (by omega) (by decide) he m3
  have e3' : f_X8_figure N (1 : Int32) H τ = some (w6, υ3) := e3
  have e4' : f_X8_figure N (1 : Int32) ((8 : Int32) - w5) υ3 = some (w7, υ4) := e4
  have z30 : rI υ4 21 0 0 30 = nI n := ((f4 21 0 0 30 (by unfold r27; omega)).1).trans (((f3 21 0 0 30 (by unfold r27; omega)).1).trans h30)
  refine ⟨tdS υ4 n w4 w5 w6 w7, ?_, td_30 _ _ _ _ _, ((r27_rd (r27_rd Fq.rf f3) f4)).tr (td_fr _ _ _ _ _) (fun _ _ _ _ z => z) (fun _ _ _ _ z => z), mT_td m4 _ _ _ _⟩
  rw [e3', Option.bind_some, e4', Option.bind_some]
  exact hT w6 w7 υ4 z30
end MRead3
