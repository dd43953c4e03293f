section Fault
variable {N n : Nat} {σ : Sg} {c : Scr}
theorem rd_sc {τ : Sg} (h : Fq rdR σ τ) : Fq scR σ τ := h.mono (fun t i j k z => by unfold rdR at z; unfold scR; omega)
theorem st_fault (p0 : Int32) (hN : 300 < N) : StepI (f_X7_fault N p0) (f_X8_fault N p0) := by
  intro σ hI
  by_cases hr : 0 ≤ p0.toInt ∧ p0.toInt < (4 : Nat)
  · obtain ⟨t, ht, rfl⟩ := in_nI hr (by decide)
    rcases hI.2.1 t ht with ⟨a, b⟩ | ⟨m, hm, a, b, d⟩
    · refine ⟨-3, fdS σ 1, fdM (th0 (fdS σ 1)) 1, ?_, ?_, Inv_found hI (by decide)⟩
      · unfold f_X7_fault
        rw [sp_isText7, Option.bind_some, b2n_z, decide_eq_true hr, if_pos rfl, gi ht (by decide), nI_clamp (by omega), a, if_pos rfl, n1, sp_found7 (by decide)]; rfl
      · unfold f_X8_fault
        rw [← th0, sp_isText8, Option.bind_some, b2n_z, decide_eq_true hr, if_pos rfl, gi ht (by decide), nI_clamp (by omega)]
        dsimp only
        rw [show rI (th0 (fdS σ 1)) 22 9 0 t = rI σ 22 9 0 t from rfl, b, if_neg (by decide), n1, sp_found8 (by decide)]; rfl
    · obtain ⟨τ, e1, f1, -⟩ := cl_readInto (N := N) (t := t) (m := m) (c := fun _ _ => 0) (R := _) hm a rfl (by omega)
      have q0 : Fq scR σ τ := f1.q (fun _ _ _ _ z => scr1_sc z)
      have q1 : Fq scR σ (th0 τ) := q0.tr th0_fr (fun _ _ _ _ z => z) (fun _ _ _ _ z => z)
      obtain ⟨υ, e2, f2, -⟩ := mo_reads (N := N) (σ := th0 τ) (b := fun k => rI σ 6 t 0 k) (c := fun _ _ => 0) (R := _) ht hm (((q1 22 9 0 t (by unfold scR; omega)).1).trans b) (fun k hk => ((q1 22 8 0 _ (by unfold scR; omega)).1).trans (d k hk).symm) rfl hN
      refine ⟨ans m (ptx (fun k => rI σ 6 t 0 k) m 100 0 0 (fun _ _ => 0)), τ, υ, ?_, ?_, Inv_sc hI (q1.tr (rd_sc f2) (fun _ _ _ _ z => z) (fun _ _ _ _ z => z))⟩
      · unfold f_X7_fault
        rw [sp_isText7, Option.bind_some, b2n_z, decide_eq_true hr, if_pos rfl, gi ht (by decide), gi ht (by decide), nI_clamp (by omega), a, if_neg (nI_ne_m1 (by omega)), e1, Option.bind_some]
      · unfold f_X8_fault
        rw [← th0, sp_isText8, Option.bind_some, b2n_z, decide_eq_true hr, if_pos rfl, gi ht (by decide), nI_clamp (by omega)]
        dsimp only
        rw [((q1 22 9 0 t (by unfold scR; omega)).1).trans b, if_pos (nI_pos' (by omega)), e2, Option.bind_some]
  · refine ⟨-1, σ, th0 σ, ?_, ?_, Inv_th0 hI⟩
    · unfold f_X7_fault
      rw [sp_isText7, Option.bind_some, b2n_z, decide_eq_false hr]; rfl
    · unfold f_X8_fault
      rw [← th0, sp_isText8, Option.bind_some, b2n_z, decide_eq_false hr]; rfl
end Fault
