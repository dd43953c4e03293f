section MRead4
variable {N n : Nat} {σ : Sg} {c : Scr}
theorem mo_pane (K : Sg → Option (Int32 × Sg)) (q : Nat) {t m p : Nat} {b : Nat → Int32} {ρ : Sg} (ht : t < 4) (hm : m ≤ 60) (hp : p < m) (hk : kdN (b p) < 6) (h : mT ρ t m b (p + 1) (-1)) (h30 : rI ρ 21 0 0 30 = nI n) (hn : n < 7) (h0 : rI ρ 22 31 0 n = nI (kdN (b p))) (c : Scr) :
    ∃ υ, ((f_X8_figure N (0 : Int32) (9 : Int32) ρ).bind (fun w4 => (f_X8_figure N (0 : Int32) (7 : Int32) w4.2).bind (fun w5 => if ((12 : Int32) - w4.1) ≤ (9 : Int32) then ((f_X8_figure N (1 : Int32) ((12 : Int32) - w4.1) w5.2).bind (fun w6 => (f_X8_figure N (1 : Int32) ((8 : Int32) - w5.1) w6.2).bind (fun w7 => gd (ib ((7 : Int32) + (rI w7.2 21 0 0 30)) 35) (gd (ib ((14 : Int32) + (rI (uI w7.2 22 31 0 ((7 : Int32) + (rI w7.2 21 0 0 30)).toNatClampNeg w4.1) 21 0 0 30)) 35) (gd (ib ((21 : Int32) + (rI (uI (uI w7.2 22 31 0 ((7 : Int32) + (rI w7.2 21 0 0 30)).toNatClampNeg w4.1) 22 31 0 ((14 : Int32) + (rI (uI w7.2 22 31 0 ((7 : Int32) + (rI w7.2 21 0 0 30)).toNatClampNeg w4.1) 21 0 0 30)).toNatClampNeg w5.1) 21 0 0 30)) 35) (gd (ib ((28 : Int32) + (rI (uI (uI (uI w7.2 22 31 0 ((7 : Int32) + (rI w7.2 21 0 0 30)).toNatClampNeg w4.1) 22 31 0 ((14 : Int32) + (rI (uI w7.2 22 31 0 ((7 : Int32) + (rI w7.2 21 0 0 30)).toNatClampNeg w4.1) 21 0 0 30)).toNatClampNeg w5.1) 22 31 0 ((21 : Int32) + (rI (uI (uI w7.2 22 31 0 ((7 : Int32) + (rI w7.2 21 0 0 30)).toNatClampNeg w4.1) 22 31 0 ((14 : Int32) + (rI (uI w7.2 22 31 0 ((7 : Int32) + (rI w7.2 21 0 0 30)).toNatClampNeg w4.1) 21 0 0 30)).toNatClampNeg w5.1) 21 0 0 30)).toNatClampNeg w6.1) 21 0 0 30)) 35) ((f_X8_blanks N (uI (uI (uI (uI (uI w7.2 22 31 0 ((7 : Int32) + (rI w7.2 21 0 0 30)).toNatClampNeg w4.1) 22 31 0 ((14 : Int32) + (rI (uI w7.2 22 31 0 ((7 : Int32) + (rI w7.2 21 0 0 30)).toNatClampNeg w4.1) 21 0 0 30)).toNatClampNeg w5.1) 22 31 0 ((21 : Int32) + (rI (uI (uI w7.2 22 31 0 ((7 : Int32) + (rI w7.2 21 0 0 30)).toNatClampNeg w4.1) 22 31 0 ((14 : Int32) + (rI (uI w7.2 22 31 0 ((7 : Int32) + (rI w7.2 21 0 0 30)).toNatClampNeg w4.1) 21 0 0 30)).toNatClampNeg w5.1) 21 0 0 30)).toNatClampNeg w6.1) 22 31 0 ((28 : Int32) + (rI (uI (uI (uI w7.2 22 31 0 ((7 : Int32) + (rI w7.2 21 0 0 30)).toNatClampNeg w4.1) 22 31 0 ((14 : Int32) + (rI (uI w7.2 22 31 0 ((7 : Int32) + (rI w7.2 21 0 0 30)).toNatClampNeg w4.1) 21 0 0 30)).toNatClampNeg w5.1) 22 31 0 ((21 : Int32) + (rI (uI (uI w7.2 22 31 0 ((7 : Int32) + (rI w7.2 21 0 0 30)).toNatClampNeg w4.1) 22 31 0 ((14 : Int32) + (rI (uI w7.2 22 31 0 ((7 : Int32) + (rI w7.2 21 0 0 30)).toNatClampNeg w4.1) 21 0 0 30)).toNatClampNeg w5.1) 21 0 0 30)).toNatClampNeg w6.1) 21 0 0 30)).toNatClampNeg w7.1) 21 0 0 30 ((rI (uI (uI (uI (uI w7.2 22 31 0 ((7 : Int32) + (rI w7.2 21 0 0 30)).toNatClampNeg w4.1) 22 31 0 ((14 : Int32) + (rI (uI w7.2 22 31 0 ((7 : Int32) + (rI w7.2 21 0 0 30)).toNatClampNeg w4.1) 21 0 0 30)).toNatClampNeg w5.1) 22 31 0 ((21 : Int32) + (rI (uI (uI w7.2 22 31 0 ((7 : Int32) + (rI w7.2 21 0 0 30)).toNatClampNeg w4.1) 22 31 0 ((14 : Int32) + (rI (uI w7.2 22 31 0 ((7 : Int32) + (rI w7.2 21 0 0 30)).toNatClampNeg w4.1) 21 0 0 30)).toNatClampNeg w5.1) 21 0 0 30)).toNatClampNeg w6.1) 22 31 0 ((28 : Int32) + (rI (uI (uI (uI w7.2 22 31 0 ((7 : Int32) + (rI w7.2 21 0 0 30)).toNatClampNeg w4.1) 22 31 0 ((14 : Int32) + (rI (uI w7.2 22 31 0 ((7 : Int32) + (rI w7.2 21 0 0 30)).toNatClampNeg w4.1) 21 0 0 30)).toNatClampNeg w5.1) 22 31 0 ((21 : Int32) + (rI (uI (uI w7.2 22 31 0 ((7 : Int32) + (rI w7.2 21 0 0 30)).toNatClampNeg w4.1) 22 31 0 ((14 : Int32) + (rI (uI w7.2 22 31 0 ((7 : Int32) + (rI w7.2 21 0 0 30)).toNatClampNeg w4.1) 21 0 0 30)).toNatClampNeg w5.1) 21 0 0 30)).toNatClampNeg w6.1) 21 0 0 30)).toNatClampNeg w7.1) 21 0 0 30) + (1 : Int32)))).bind (fun w8 => L_X8_reads_24 N K q w8)))))))) else ((f_X8_figure N (1 : Int32) (9 : Int32) w5.2).bind (fun w9 => (f_X8_figure N (1 : Int32) ((8 : Int32) - w5.1) w9.2).bind (fun w10 => gd (ib ((7 : Int32) + (rI w10.2 21 0 0 30)) 35) (gd (ib ((14 : Int32) + (rI (uI w10.2 22 31 0 ((7 : Int32) + (rI w10.2 21 0 0 30)).toNatClampNeg w4.1) 21 0 0 30)) 35) (gd (ib ((21 : Int32) + (rI (uI (uI w10.2 22 31 0 ((7 : Int32) + (rI w10.2 21 0 0 30)).toNatClampNeg w4.1) 22 31 0 ((14 : Int32) + (rI (uI w10.2 22 31 0 ((7 : Int32) + (rI w10.2 21 0 0 30)).toNatClampNeg w4.1) 21 0 0 30)).toNatClampNeg w5.1) 21 0 0 30)) 35) (gd (ib ((28 : Int32) + (rI (uI (uI (uI w10.2 22 31 0 ((7 : Int32) + (rI w10.2 21 0 0 30)).toNatClampNeg w4.1) 22 31 0 ((14 : Int32) + (rI (uI w10.2 22 31 0 ((7 : Int32) + (rI w10.2 21 0 0 30)).toNatClampNeg w4.1) 21 0 0 30)).toNatClampNeg w5.1) 22 31 0 ((21 : Int32) + (rI (uI (uI w10.2 22 31 0 ((7 : Int32) + (rI w10.2 21 0 0 30)).toNatClampNeg w4.1) 22 31 0 ((14 : Int32) + (rI (uI w10.2 22 31 0 ((7 : Int32) + (rI w10.2 21 0 0 30)).toNatClampNeg w4.1) 21 0 0 30)).toNatClampNeg w5.1) 21 0 0 30)).toNatClampNeg w9.1) 21 0 0 30)) 35) ((f_X8_blanks N (uI (uI (uI (uI (uI w10.2 22 31 0 ((7 : Int32) + (rI w10.2 21 0 0 30)).toNatClampNeg w4.1) 22 31 0 ((14 : Int32) + (rI (uI w10.2 22 31 0 ((7 : Int32) + (rI w10.2 21 0 0 30)).toNatClampNeg w4.1) 21 0 0 30)).toNatClampNeg w5.1) 22 31 0 ((21 : Int32) + (rI (uI (uI w10.2 22 31 0 ((7 : Int32) + (rI w10.2 21 0 0 30)).toNatClampNeg w4.1) 22 31 0 ((14 : Int32) + (rI (uI w10.2 22 31 0 ((7 : Int32) + (rI w10.2 21 0 0 30)).toNatClampNeg w4.1) 21 0 0 30)).toNatClampNeg w5.1) 21 0 0 30)).toNatClampNeg w9.1) 22 31 0 ((28 : Int32) + (rI (uI (uI (uI w10.2 22 31 0 ((7 : Int32) + (rI w10.2 21 0 0 30)).toNatClampNeg w4.1) 22 31 0 ((14 : Int32) + (rI (uI w10.2 22 31 0 ((7 : Int32) + (rI w10.2 21 0 0 30)).toNatClampNeg w4.1) 21 0 0 30)).toNatClampNeg w5.1) 22 31 0 ((21 : Int32) + (rI (uI (uI w10.2 22 31 0 ((7 : Int32) + (rI w10.2 21 0 0 30)).toNatClampNeg w4.1) 22 31 0 ((14 : Int32) + (rI (uI w10.2 22 31 0 ((7 : Int32) + (rI w10.2 21 0 0 30)).toNatClampNeg w4.1) 21 0 0 30)).toNatClampNeg w5.1) 21 0 0 30)).toNatClampNeg w9.1) 21 0 0 30)).toNatClampNeg w10.1) 21 0 0 30 ((rI (uI (uI (uI (uI w10.2 22 31 0 ((7 : Int32) + (rI w10.2 21 0 0 30)).toNatClampNeg w4.1) 22 31 0 ((14 : Int32) + (rI (uI w10.2 22 31 0 ((7 : Int32) + (rI w10.2 21 0 0 30)).toNatClampNeg w4.1) 21 0 0 30)).toNatClampNeg w5.1) 22 31 0 ((21 : Int32) + (rI (uI (uI w10.2 22 31 0 ((7 : Int32) + (rI w10.2 21 0 0 30)).toNatClampNeg w4.1) 22 31 0 ((14 : Int32) + (rI (uI w10.2 22 31 0 ((7 : Int32) + (rI w10.2 21 0 0 30)).toNatClampNeg w4.1) 21 0 0 30)).toNatClampNeg w5.1) 21 0 0 30)).toNatClampNeg w9.1) 22 31 0 ((28 : Int32) + (rI (uI (uI (uI w10.2 22 31 0 ((7 : Int32) + (rI w10.2 21 0 0 30)).toNatClampNeg w4.1) 22 31 0 ((14 : Int32) + (rI (uI w10.2 22 31 0 ((7 : Int32) + (rI w10.2 21 0 0 30)).toNatClampNeg w4.1) 21 0 0 30)).toNatClampNeg w5.1) 22 31 0 ((21 : Int32) + (rI (uI (uI w10.2 22 31 0 ((7 : Int32) + (rI w10.2 21 0 0 30)).toNatClampNeg w4.1) 22 31 0 ((14 : Int32) + (rI (uI w10.2 22 31 0 ((7 : Int32) + (rI w10.2 21 0 0 30)).toNatClampNeg w4.1) 21 0 0 30)).toNatClampNeg w5.1) 21 0 0 30)).toNatClampNeg w9.1) 21 0 0 30)).toNatClampNeg w10.1) 21 0 0 30) + (1 : Int32)))).bind (fun w11 => L_X8_reads_24 N K q w11))))))))))) = (f_X8_blanks N υ).bind (fun w8 => L_X8_reads_24 N K q w8) ∧ rI υ 21 0 0 30 = nI (n + 1) ∧ Fq rdR ρ υ ∧
      ((∃ e, rpn b m p = .inl e ∧ e < 900 ∧ mT υ t m b (p + 5) (nI e)) ∨ ∃ x, rpn b m p = .inr x ∧ mT υ t m b (p + 5) (-1) ∧ (∀ f, f < 5 → rI υ 22 31 0 (7 * f + n) = nI (tpn c n x n f)) ∧ ∀ i f, i < n → f < 5 → rI υ 22 31 0 (7 * f + i) = rI ρ 22 31 0 (7 * f + i)) := by
  have n30 : ∀ {x y : Sg}, Fq r27 x y → rI y 21 0 0 30 = rI x 21 0 0 30 := fun f => (f 21 0 0 30 (by unfold r27; omega)).1
  obtain ⟨w4, υ1, e1, f1, c1⟩ := fig_c (N := N) (lo := 0) (hi := 9) ht hm (by omega) (by decide) (by decide) h
  have e1' : f_X8_figure N (0 : Int32) (9 : Int32) ρ = some (w4, υ1) := e1
  rw [e1', Option.bind_some]
  rcases c1 with ⟨g1, m1⟩ | ⟨l, g1, rfl, m1⟩
  · obtain ⟨w5, υ2, e2, f2, m2⟩ := fig_f (N := N) (lo := 0) (H := 7) ht hm (by omega) (by decide) (by omega) m1
    have e2' : f_X8_figure N (0 : Int32) (7 : Int32) υ1 = some (w5, υ2) := e2
    rw [e2', Option.bind_some]
    have hr : rpn b m p = .inl (p + 1) := by unfold rpn; rw [if_neg (by omega), g1]
    have z30 : rI υ2 21 0 0 30 = nI n := (n30 f2).trans ((n30 f1).trans h30)
    have ff : Fq rdR ρ υ2 := r27_rd (r27_rd Fq.rf f1) f2
    dsimp only
    by_cases hb : (12 : Int32) - w4 ≤ 9
    · rw [if_pos hb]
      obtain ⟨υ, x1, x2, x3, x4⟩ := mo_faulted (N := N) K q w4 w5 (12 - w4) ht hm (by omega) (by omega) m2 z30 hn _ (fun w6 w7 ω hz => mo_tail K q w4 w5 w6 w7 hz hn)
      exact ⟨υ, x1, x2, ff.tr x3 (fun _ _ _ _ z => z) (fun _ _ _ _ z => z), Or.inl ⟨p + 1, hr, by omega, x4⟩⟩
    · rw [if_neg hb]
      obtain ⟨υ, x1, x2, x3, x4⟩ := mo_faulted (N := N) K q w4 w5 9 ht hm (by omega) (by omega) m2 z30 hn _ (fun w6 w7 ω hz => mo_tail K q w4 w5 w6 w7 hz hn)
      exact ⟨υ, x1, x2, ff.tr x3 (fun _ _ _ _ z => z) (fun _ _ _ _ z => z), Or.inl ⟨p + 1, hr, by omega, x4⟩⟩
  · have a1 := fgo_b g1 (by decide)
    obtain ⟨w5, υ2, e2, f2, c2⟩ := fig_c (N := N) (lo := 0) (hi := 7) ht hm (by omega) (by decide) (by decide) m1
    have e2' : f_X8_figure N (0 : Int32) (7 : Int32) υ1 = some (w5, υ2) := e2
    rw [e2', Option.bind_some]
    have z30 : rI υ2 21 0 0 30 = nI n := (n30 f2).trans ((n30 f1).trans h30)
    have ff : Fq rdR ρ υ2 := r27_rd (r27_rd Fq.rf f1) f2
    dsimp only
    rcases c2 with ⟨g2, m2⟩ | ⟨tt, g2, rfl, m2⟩
    · have hr : rpn b m p = .inl (p + 2) := by unfold rpn; rw [if_neg (by omega), g1]; simp only [g2]
      by_cases hb : (12 : Int32) - nI l ≤ 9
      · rw [if_pos hb]
        obtain ⟨υ, x1, x2, x3, x4⟩ := mo_faulted (N := N) K q (nI l) w5 (12 - nI l) ht hm (by omega) (by omega) m2 z30 hn _ (fun w6 w7 ω hz => mo_tail K q (nI l) w5 w6 w7 hz hn)
        exact ⟨υ, x1, x2, ff.tr x3 (fun _ _ _ _ z => z) (fun _ _ _ _ z => z), Or.inl ⟨p + 2, hr, by omega, x4⟩⟩
      · rw [if_neg hb]
        obtain ⟨υ, x1, x2, x3, x4⟩ := mo_faulted (N := N) K q (nI l) w5 9 ht hm (by omega) (by omega) m2 z30 hn _ (fun w6 w7 ω hz => mo_tail K q (nI l) w5 w6 w7 hz hn)
        exact ⟨υ, x1, x2, ff.tr x3 (fun _ _ _ _ z => z) (fun _ _ _ _ z => z), Or.inl ⟨p + 2, hr, by omega, x4⟩⟩
    · have a2 := fgo_b g2 (by decide)
      have rest : ∀ (H : Int32) (T : Int32 → Int32 → Sg → Option (Int32 × Sg)), H = nI (if 12 - l < 9 then 12 - l else 9) → (∀ w6 w7 ω, rI ω 21 0 0 30 = nI n → T w6 w7 ω = (f_X8_blanks N (tdS ω n (nI l) (nI tt) w6 w7)).bind (fun w8 => L_X8_reads_24 N K q w8)) →
          ∃ υ, ((f_X8_figure N (1 : Int32) H υ2).bind (fun w6 => (f_X8_figure N (1 : Int32) ((8 : Int32) - nI tt) w6.2).bind (fun w7 => T w6.1 w7.1 w7.2))) = (f_X8_blanks N υ).bind (fun w8 => L_X8_reads_24 N K q w8) ∧ rI υ 21 0 0 30 = nI (n + 1) ∧ Fq rdR ρ υ ∧
            ((∃ e, rpn b m p = .inl e ∧ e < 900 ∧ mT υ t m b (p + 5) (nI e)) ∨ ∃ x, rpn b m p = .inr x ∧ mT υ t m b (p + 5) (-1) ∧ (∀ f, f < 5 → rI υ 22 31 0 (7 * f + n) = nI (tpn c n x n f)) ∧ ∀ i f, i < n → f < 5 → rI υ 22 31 0 (7 * f + i) = rI ρ 22 31 0 (7 * f + i)) := by
        intro H T hH hT
        subst hH
        obtain ⟨w6, υ3, e3, f3, c3⟩ := fig_c (N := N) (lo := 1) (hi := if 12 - l < 9 then 12 - l else 9) ht hm (by omega) (by decide) (by split <;> omega) m2
        have e3' : f_X8_figure N (1 : Int32) (nI (if 12 - l < 9 then 12 - l else 9)) υ2 = some (w6, υ3) := e3
        have e8 : (8 : Int32) - nI tt = nI (8 - tt) := by rw [n8, pk_sub (by omega)]
        have y30 : rI υ3 21 0 0 30 = nI n := (n30 f3).trans z30
        rw [e3', Option.bind_some, e8]
        rcases c3 with ⟨g3, m3⟩ | ⟨w, g3, rfl, m3⟩
        · have hr : rpn b m p = .inl (p + 3) := by unfold rpn; rw [if_neg (by omega), g1]; simp only [g2, g3]
          obtain ⟨w7, υ4, e4, f4, m4⟩ := fig_f (N := N) (lo := 1) (H := nI (8 - tt)) ht hm (by omega) (by decide) (by omega) m3
          have e4' : f_X8_figure N (1 : Int32) (nI (8 - tt)) υ3 = some (w7, υ4) := e4
          rw [e4', Option.bind_some]
          exact ⟨tdS υ4 n (nI l) (nI tt) w6 w7, hT w6 w7 υ4 ((n30 f4).trans y30), td_30 _ _ _ _ _, (r27_rd (r27_rd ff f3) f4).tr (td_fr _ _ _ _ _) (fun _ _ _ _ z => z) (fun _ _ _ _ z => z), Or.inl ⟨p + 3, hr, by omega, mT_td m4 _ _ _ _⟩⟩
        · obtain ⟨w7, υ4, e4, f4, c4⟩ := fig_c (N := N) (lo := 1) (hi := 8 - tt) ht hm (by omega) (by decide) (by omega) m3
          have e4' : f_X8_figure N (1 : Int32) (nI (8 - tt)) υ3 = some (w7, υ4) := e4
          have fall : Fq rdR ρ υ4 := r27_rd (r27_rd ff f3) f4
          have told : ∀ k, rI υ4 22 31 0 k = rI ρ 22 31 0 k := fun k => ((f4 22 31 0 k (by unfold r27; omega)).1).trans (((f3 22 31 0 k (by unfold r27; omega)).1).trans (((f2 22 31 0 k (by unfold r27; omega)).1).trans (f1 22 31 0 k (by unfold r27; omega)).1))
          rw [e4', Option.bind_some]
          refine ⟨tdS υ4 n (nI l) (nI tt) (nI w) w7, hT (nI w) w7 υ4 ((n30 f4).trans y30), td_30 _ _ _ _ _, fall.tr (td_fr _ _ _ _ _) (fun _ _ _ _ z => z) (fun _ _ _ _ z => z), ?_⟩
          rcases c4 with ⟨g4, m4⟩ | ⟨g, g4, rfl, m4⟩
          · exact Or.inl ⟨p + 4, by unfold rpn; rw [if_neg (by omega), g1]; simp only [g2, g3, g4], by omega, mT_td m4 _ _ _ _⟩
          · refine Or.inr ⟨(kdN (b p), l, tt, w, g), by unfold rpn; rw [if_neg (by omega), g1]; simp only [g2, g3, g4], mT_td m4 _ _ _ _, fun f hf => ?_, fun i f hi hf => ?_⟩
            · unfold tdS
              simp only [rI_uI]
              rcases (show f = 0 ∨ f = 1 ∨ f = 2 ∨ f = 3 ∨ f = 4 by omega) with rfl | rfl | rfl | rfl | rfl
              · rw [if_neg (by omega), if_neg (by omega), if_neg (by omega), if_neg (by omega), if_neg (by omega), show 7 * 0 + n = n by omega, told, h0, tpn_at]; rfl
              · rw [if_neg (by omega), if_neg (by omega), if_neg (by omega), if_neg (by omega), if_pos ⟨trivial, trivial, trivial, by omega⟩, tpn_at]; rfl
              · rw [if_neg (by omega), if_neg (by omega), if_neg (by omega), if_pos ⟨trivial, trivial, trivial, by omega⟩, tpn_at]; rfl
              · rw [if_neg (by omega), if_neg (by omega), if_pos ⟨trivial, trivial, trivial, by omega⟩, tpn_at]; rfl
              · rw [if_neg (by omega), if_pos ⟨trivial, trivial, trivial, by omega⟩, tpn_at]; rfl
            · unfold tdS
              simp only [rI_uI]
              rw [if_neg (by omega), if_neg (by omega), if_neg (by omega), if_neg (by omega), if_neg (by omega), told]
      have e12 : (12 : Int32) - nI l = nI (12 - l) := by rw [n12, pk_sub (by omega)]
      by_cases hb : (12 : Int32) - nI l ≤ 9
      · rw [if_pos hb]
        refine rest _ _ ?_ (fun w6 w7 ω hz => mo_tail K q (nI l) (nI tt) w6 w7 hz hn)
        rw [e12, show (9 : Int32) = nI 9 from rfl] at hb
        have : 12 - l ≤ 9 := by
          rw [fa_le, nI_toInt (by omega), nI_toInt (by omega)] at hb; omega
        rw [e12]
        by_cases h9 : 12 - l < 9
        · rw [if_pos h9]
        · rw [if_neg h9, show 12 - l = 9 by omega]
      · rw [if_neg hb]
        refine rest _ _ ?_ (fun w6 w7 ω hz => mo_tail K q (nI l) (nI tt) w6 w7 hz hn)
        rw [e12, show (9 : Int32) = nI 9 from rfl] at hb
        have : ¬ 12 - l ≤ 9 := fun z => hb (nI_le z (by decide))
        rw [if_neg (by omega)]; rfl
end MRead4
