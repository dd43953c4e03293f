section Reads
variable {N n : Nat} {σ : Sg} {c : Scr}
theorem ans_some {m e : Nat} {R : Option Nat × Nat × Scr} (h : R.1 = some e) : ans m R = nI e := by unfold ans; rw [h]
theorem ans_none {m : Nat} {R : Option Nat × Nat × Scr} (h : R.1 = none) : ans m R = if 2 ≤ R.2.1 then -9 else nI m := by unfold ans; rw [h]
theorem mo_reads {t m : Nat} {b : Nat → Int32} {R : Option Nat × Nat × Scr} (ht : t < 4) (hm : m ≤ 60) (h9 : rI σ 22 9 0 t = nI m) (h8 : ∀ k, k < m → rI σ 22 8 0 (60 * t + k) = b k) (hR : ptx b m 100 0 0 c = R) (hN : 300 < N) :
    ∃ τ, f_X8_reads N (nI t) σ = some (ans m R, τ) ∧ Fq rdR σ τ ∧ (R.1 = none → rI τ 21 0 0 30 = nI R.2.1 ∧ ∀ i, i < R.2.1 → ∀ f, f < 5 → rI τ 22 31 0 (7 * f + i) = nI (R.2.2 i f)) := by
  unfold f_X8_reads
  have f0 : Fq rdR σ (uI (uI (uI (uI σ 21 0 0 28 (nI t)) 21 0 0 27 (0 : Int32)) 21 0 0 29 (-1 : Int32)) 21 0 0 30 (0 : Int32)) := (((Fq.rf.uI (Or.inl ⟨rfl, by decide⟩)).uI (Or.inl ⟨rfl, by decide⟩)).uI (Or.inl ⟨rfl, by decide⟩)).uI (Or.inl ⟨rfl, by decide⟩)
  have h0 : mT (uI (uI (uI (uI σ 21 0 0 28 (nI t)) 21 0 0 27 (0 : Int32)) 21 0 0 29 (-1 : Int32)) 21 0 0 30 (0 : Int32)) t m b 0 (-1) := ⟨rfl, h9, h8, rfl, rfl⟩
  have z0 : rI (uI (uI (uI (uI σ 21 0 0 28 (nI t)) 21 0 0 27 (0 : Int32)) 21 0 0 29 (-1 : Int32)) 21 0 0 30 (0 : Int32)) 21 0 0 30 = nI 0 := rfl
  generalize (uI (uI (uI (uI σ 21 0 0 28 (nI t)) 21 0 0 27 (0 : Int32)) 21 0 0 29 (-1 : Int32)) 21 0 0 30 (0 : Int32)) = σ1 at *
  obtain ⟨υ0, p0, e0, m0, q1, q2, q3, q4, q5⟩ := sp_blanks (N := N) ht hm (by decide) h0 hN
  obtain ⟨F0, g1, g2⟩ := q4 100 0 c R (by omega) hR
  rw [e0, Option.bind_some]
  refine lp_gen (fun q (s : Sg) => L_X8_reads_24 N (fun σ_12 => if (rI σ_12 21 0 0 29) < 0 then (if (2 : Int32) ≤ (rI σ_12 21 0 0 30) then (some ((-9 : Int32), σ_12)) else (gd (ib (rI σ_12 21 0 0 28) 4) (some (rI σ_12 22 9 0 (rI σ_12 21 0 0 28).toNatClampNeg, σ_12)))) else (some (rI σ_12 21 0 0 29, σ_12))) q s)
    (fun d s => Fq rdR σ s ∧ ((∃ e p, R.1 = some e ∧ e < 900 ∧ mT s t m b p (nI e)) ∨ ∃ p n c F, p + d = m + 1 ∧ p ≤ m ∧ mT s t m b p (-1) ∧ rI s 21 0 0 30 = nI n ∧ n ≤ 7 ∧ (∀ i, i < n → ∀ f, f < 5 → rI s 22 31 0 (7 * f + i) = nI (c i f)) ∧ (p < m → b p ≠ 32) ∧ m - p < F ∧ ptx b m F p n c = R))
    (fun o => ∃ τ, o = some (ans m R, τ) ∧ Fq rdR σ τ ∧ (R.1 = none → rI τ 21 0 0 30 = nI R.2.1 ∧ ∀ i, i < R.2.1 → ∀ f, f < 5 → rI τ 22 31 0 (7 * f + i) = nI (R.2.2 i f))) ?_ N (m + 1 - p0) υ0 ⟨r27_rd f0 q5, Or.inr ⟨p0, 0, c, F0, by omega, by omega, m0, ((q5 21 0 0 30 (by unfold r27; omega)).1).trans z0, by omega, fun i hi => by omega, q3, g1, g2⟩⟩ (by omega)
  rintro q d s ⟨hF, ⟨e, p, r1, r2, hT⟩ | ⟨p, n, c, F, hd, hpm, hT, h30, hn, htd, h32, hFF, hP⟩⟩
  · right
    obtain ⟨a1, a2, a3, a4, a5⟩ := hT
    refine ⟨s, ?_, hF, fun z => by rw [z] at r1; cases r1⟩
    rw [L_X8_reads_24_s, a5, if_pos (nI_pos' (by omega)), if_neg (show ¬ nI e < 0 by rw [n0]; exact nI_nlt (by omega) (by omega)), ans_some r1]
  · have hT' := hT
    obtain ⟨a1, a2, a3, a4, a5⟩ := hT
    obtain ⟨F, rfl⟩ : ∃ e, F = e + 1 := ⟨F - 1, by omega⟩
    rw [ptx_s] at hP
    rw [L_X8_reads_24_s, a5, if_neg (by decide), a1, gi ht (by decide), nI_clamp (by omega), a2, a4]
    by_cases h1 : m ≤ p
    · right
      rw [if_pos h1] at hP
      subst hP
      rw [ile_t h1 (by omega)]
      refine ⟨s, ?_, hF, fun _ => ⟨h30, htd⟩⟩
      rw [if_pos (by decide), h30, ans_none rfl]
      show _ = some (if 2 ≤ n then -9 else nI m, s)
      by_cases h2 : 2 ≤ n
      · rw [n2, ile_t h2 (by omega), if_pos h2]
      · rw [n2, ile_f (by omega) (by omega), if_neg h2, gi ht (by decide)]
    · left
      rw [if_neg h1, if_neg (h32 (by omega))] at hP
      rw [ile_f (by omega) (by omega), sp_byteAt ht hm (by omega) a1 a2 a3, Option.bind_some]
      dsimp only
      rw [sp_kindOf, Option.bind_some, show bya b m p = b p from if_pos (by omega)]
      dsimp only
      have fault : R.1 = some p → ∃ d', d' < d ∧ (Fq rdR σ (uI s 21 0 0 29 (nI p)) ∧ ((∃ e p', R.1 = some e ∧ e < 900 ∧ mT (uI s 21 0 0 29 (nI p)) t m b p' (nI e)) ∨ ∃ p' n c F, p' + d' = m + 1 ∧ p' ≤ m ∧ mT (uI s 21 0 0 29 (nI p)) t m b p' (-1) ∧ rI (uI s 21 0 0 29 (nI p)) 21 0 0 30 = nI n ∧ n ≤ 7 ∧ (∀ i, i < n → ∀ f, f < 5 → rI (uI s 21 0 0 29 (nI p)) 22 31 0 (7 * f + i) = nI (c i f)) ∧ (p' < m → b p' ≠ 32) ∧ m - p' < F ∧ ptx b m F p' n c = R)) := fun hr => ⟨0, by omega, hF.uI (Or.inl ⟨rfl, by decide⟩), Or.inl ⟨p, p, hr, by omega, mT_ft hT' _⟩⟩
      by_cases hk : kdN (b p) < 6
      · have hne : ¬ nI (kdN (b p)) = -9 := fun z => by
          have e9 : (-9 : Int32).toInt = -9 := by decide
          rw [fa_eq, nI_toInt (by omega), e9] at z
          omega
        rw [if_pos hk, if_neg hne, h30, a4]
        by_cases h7 : n = 7
        · rw [if_pos h7] at hP
          obtain ⟨d', y1, y2⟩ := fault (by rw [← hP])
          rw [n7, ieq_t h7]
          exact ⟨_, d', y1, rfl, y2⟩
        · rw [if_neg h7] at hP
          rw [n7, ieq_f h7 (by omega) (by decide), nI_1, show rI (uI s 21 0 0 27 (nI (p + 1))) 21 0 0 30 = nI n from h30, gi (by omega) (by decide), nI_clamp (by omega)]
          have hT2 : mT (uI (uI s 21 0 0 27 (nI (p + 1))) 22 31 0 n (nI (kdN (b p)))) t m b (p + 1) (-1) := mT_mv hT' _
          obtain ⟨υ, x1, x2, x3, x4⟩ := mo_pane (N := N) (fun σ_12 => if (rI σ_12 21 0 0 29) < 0 then (if (2 : Int32) ≤ (rI σ_12 21 0 0 30) then (some ((-9 : Int32), σ_12)) else (gd (ib (rI σ_12 21 0 0 28) 4) (some (rI σ_12 22 9 0 (rI σ_12 21 0 0 28).toNatClampNeg, σ_12)))) else (some (rI σ_12 21 0 0 29, σ_12))) q ht hm (by omega) hk hT2 h30 (by omega) (by rw [rI_uI, if_pos ⟨rfl, rfl, rfl, rfl⟩]) c
          have fx : Fq rdR σ υ := ((hF.uI (Or.inl ⟨rfl, by decide⟩)).uI (Or.inr ⟨rfl, rfl⟩)).tr x3 (fun _ _ _ _ z => z) (fun _ _ _ _ z => z)
          have done : ∀ f, mT υ t m b (p + 5) f → ∃ ω p', f_X8_blanks N υ = some ω ∧ mT ω t m b p' f ∧ p + 5 ≤ p' ∧ (p' ≤ m ∨ p' = p + 5) ∧ (p' < m → b p' ≠ 32) ∧ (∀ F n c R, m - (p + 5) < F → ptx b m F (p + 5) n c = R → ∃ F', m - p' < F' ∧ ptx b m F' p' n c = R) ∧ Fq r27 υ ω := fun f hf => sp_blanks (N := N) ht hm (by omega) hf hN
          rcases x4 with ⟨e, y1, y2, y3⟩ | ⟨x, y1, y2, y3, y4⟩
          · rw [y1] at hP
            obtain ⟨ω, p', k1, k2, -, -, -, -, k7⟩ := done _ y3
            refine ⟨ω, 0, by omega, ?_, r27_rd fx k7, Or.inl ⟨e, p', by rw [← hP], y2, k2⟩⟩
            refine Eq.trans x1 ?_
            rw [k1, Option.bind_some]
          · rw [y1] at hP
            dsimp only at hP
            have hp5 := (rpn_ok y1 c n).2
            obtain ⟨ω, p', k1, k2, k3, k4, k5, k6, k7⟩ := done _ y2
            obtain ⟨F', j1, j2⟩ := k6 F (n + 1) (tpn c n x) R (by omega) hP
            refine ⟨ω, m + 1 - p', by omega, ?_, r27_rd fx k7, Or.inr ⟨p', n + 1, tpn c n x, F', by omega, by omega, k2, ((k7 21 0 0 30 (by unfold r27; omega)).1).trans x2, by omega, fun i hi f hf => ?_, k5, j1, j2⟩⟩
            · refine Eq.trans x1 ?_
              rw [k1, Option.bind_some]
            · rw [(k7 22 31 0 _ (by unfold r27; omega)).1]
              by_cases ei : i = n
              · subst ei; exact y3 f hf
              · rw [y4 i f (by omega) hf, rI_uI, if_neg (by omega), rI_uI, if_neg (by omega), tpn_off ei]
                exact htd i (by omega) f hf
      · rw [if_neg hk, if_pos rfl, a4]
        have hr : R.1 = some p := by
          rw [← hP]
          by_cases h7 : n = 7
          · rw [if_pos h7]
          · rw [if_neg h7]
            have : rpn b m p = .inl p := by unfold rpn; rw [if_pos (by omega)]
            rw [this]
        obtain ⟨d', y1, y2⟩ := fault hr
        exact ⟨_, d', y1, rfl, y2⟩
end Reads
