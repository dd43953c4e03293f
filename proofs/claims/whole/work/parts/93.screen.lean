section Screen
variable {N n : Nat} {σ : Sg} {c : Scr}
theorem ptx_e {b : Nat → Int32} {m e : Nat} : ∀ (F p n : Nat) (c : Scr), (ptx b m F p n c).1 = some e → e < m + 4
  | 0, p, n, c, h => by cases h
  | F + 1, p, n, c, h => by
    rw [ptx_s] at h
    by_cases h1 : m ≤ p
    · rw [if_pos h1] at h; cases h
    · rw [if_neg h1] at h
      by_cases h2 : b p = 32
      · rw [if_pos h2] at h; exact ptx_e F _ _ _ h
      · rw [if_neg h2] at h
        by_cases h3 : n = 7
        · rw [if_pos h3] at h; cases h; omega
        · rw [if_neg h3] at h
          cases hx : rpn b m p with
          | inl e' =>
            rw [hx] at h
            dsimp only at h
            cases h
            unfold rpn at hx
            repeat' split at hx
            all_goals first | (cases hx; omega) | cases hx
          | inr x =>
            rw [hx] at h
            exact ptx_e F _ _ _ h
theorem th0_c : Fq (fun t _ _ _ => t = 21) σ (th0 σ) := Fq.rf.uI rfl
theorem nI_ne_m9 {e : Nat} (h : e < 2147483648) : ¬ nI e = (-9 : Int32) := fun z => by
  have e9 : (-9 : Int32).toInt = -9 := by decide
  rw [fa_eq, nI_toInt h, e9] at z
  omega
theorem ans_9 {m : Nat} {b : Nat → Int32} {R : Option Nat × Nat × Scr} (hm : m ≤ 60) (hR : ptx b m 100 0 0 c = R) (h : ans m R = -9) : R.1 = none ∧ 2 ≤ R.2.1 := by
  cases hr : R.1 with
  | some e =>
    rw [ans_some hr] at h
    have := ptx_e (b := b) (m := m) (e := e) 100 0 0 c (by rw [hR]; exact hr)
    exact absurd h (nI_ne_m9 (by omega))
  | none =>
    rw [ans_none hr] at h
    by_cases h2 : 2 ≤ R.2.1
    · exact ⟨rfl, h2⟩
    · rw [if_neg h2] at h
      exact absurd h (nI_ne_m9 (by omega))
theorem msk_full {p : Nat → Bool} {n : Nat} (h : ∀ i, i < n → p i = true) : msk p n = 2 ^ n - 1 :=
  (msk_ext (by have := Nat.two_pow_pos n; omega) (fun i hi => by rw [Nat.testBit_two_pow_sub_one, h i hi, decide_eq_true hi])).symm
theorem I_full : ∀ j, j < 8 → ((1 : Int32) <<< (nI j &&& 31)) - 1 = nI (2 ^ j - 1) := by decide +kernel
theorem st_screen (p0 : Int32) (hN : 300 < N) : StepI (f_X7_screen N p0) (f_X8_screen N p0) := by
  intro σ hI
  by_cases hr : 0 ≤ p0.toInt ∧ p0.toInt < (4 : Nat)
  · obtain ⟨t, ht, rfl⟩ := in_nI hr (by decide)
    rcases hI.2.1 t ht with ⟨a, b⟩ | ⟨m, hm, a, b, d⟩
    · refine ⟨-3, fdS σ 1, fdM (th0 (fdS σ 1)) 1, ?_, ?_, Inv_found hI (by decide)⟩
      · unfold f_X7_screen
        rw [sp_isText7, Option.bind_some, b2n_z, decide_eq_true hr, if_pos rfl, gi ht (by decide), nI_clamp (by omega), a, if_pos rfl, n1, sp_found7 (by decide)]; rfl
      · unfold f_X8_screen
        rw [← th0, sp_isText8, Option.bind_some, b2n_z, decide_eq_true hr, if_pos rfl, gi ht (by decide), nI_clamp (by omega)]
        dsimp only
        rw [show rI (th0 (fdS σ 1)) 22 9 0 t = rI σ 22 9 0 t from rfl, b, if_neg (by decide), n1, sp_found8 (by decide)]; rfl
    · generalize hR : ptx (fun k => rI σ 6 t 0 k) m 100 0 0 (fun _ _ => 0) = R
      obtain ⟨τ, e1, f1, g1⟩ := cl_readInto (N := N) (t := t) (m := m) (c := fun _ _ => 0) (R := R) hm a hR (by omega)
      have q0 : Fq scR σ τ := f1.q (fun _ _ _ _ z => scr1_sc z)
      by_cases h9 : ans m R = -9
      · obtain ⟨r1, r2⟩ := ans_9 hm hR h9
        obtain ⟨s1, s2⟩ := g1 r1
        generalize hn : R.2.1 = n at *
        generalize hc : R.2.2 = c at *
        obtain ⟨τ1, e2, s3, f2⟩ := sp_become (N := N) (s := 0) (s' := 1) (by decide) s1 s2.ok (by omega)
        obtain ⟨v1, υ1, e3, s4, f3⟩ := cl_s70 (N := N) (σ := uI τ1 10 0 0 4 (0 : Int32)) (fun _ σ_5 => some (rI σ_5 7 0 0 1, σ_5)) (by omega)
        have fA : Fq (fun t _ _ _ => t = 10) τ1 υ1 := (Fq.rf.uI rfl).tr f3 (fun _ _ _ _ z => z) (fun _ _ _ _ z => z.1)
        have s5 : isScr υ1 0 n c := s3.frq fA (fun _ _ => by decide) (fun _ _ => by decide)
        have z10 : rI υ1 10 0 0 4 = nI 0 := ((f3 10 0 0 4 (by omega)).1).trans (by rw [rI_uI, if_pos ⟨rfl, rfl, rfl, rfl⟩]; rfl)
        have qa : Fq syR σ υ1 := ((q0.mono (fun _ _ _ _ z => Or.inl z)).tr (f2.q (R2 := syR) (fun t i j k z => by unfold scrR at z; unfold syR fScr; omega)) (fun _ _ _ _ z => z) (fun _ _ _ _ z => z)).tr fA (fun _ _ _ _ z => z) (fun t i j k z => by unfold syR fScr; omega)
        have q1 : Fq syR σ (th0 υ1) := qa.tr th0_fr (fun _ _ _ _ z => z) (fun _ _ _ _ z => Or.inl z)
        obtain ⟨w, e4, f4, g4⟩ := mo_reads (N := N) (σ := th0 υ1) (b := fun k => rI σ 6 t 0 k) (c := fun _ _ => 0) (R := R) ht hm (((q1 22 9 0 t (by unfold syR scR fScr; omega)).1).trans b) (fun k hk => ((q1 22 8 0 _ (by unfold syR scR fScr; omega)).1).trans (d k hk).symm) hR hN
        obtain ⟨y1, y2⟩ := g4 r1
        rw [hn] at y1 y2
        rw [hc] at y2
        have f5 : Fq (fun t _ _ k => t = 21 ∧ k = 10) w (uI w 21 0 0 10 (rI w 21 0 0 30)) := Fq.rf.uI ⟨rfl, rfl⟩
        have y10 : rI (uI w 21 0 0 10 (rI w 21 0 0 30)) 21 0 0 10 = nI n := by rw [rI_uI, if_pos ⟨rfl, rfl, rfl, rfl⟩, y1]
        obtain ⟨v2, w2, e5, g5, f6⟩ := mo_s52 (N := N) (n := n) (c := c) (σ := uI w 21 0 0 10 (rI w 21 0 0 30)) (fun _ σ_3 => gd (ib (21 : Int32) 22) (L_X8_screen_227 N (fun _ σ_4 => some (rI σ_4 21 0 0 10, σ_4)) N (0 : Int32) (uI (uI σ_3 22 14 0 (21 : Int32).toNatClampNeg (((1 : Int32) <<< ((rI σ_3 21 0 0 10) &&& 31)) - (1 : Int32))) 21 0 0 16 (0 : Int32)))) s2.1 y10 (fun i hi f hf => ((f5 22 31 0 _ (by omega)).1).trans (y2 i hi f hf)) (by omega)
        have z10w : rI w2 21 0 0 10 = nI n := ((f6 21 0 0 10 (by unfold cpR; omega)).1).trans y10
        have f7 : Fq (fun t i _ k => (t = 22 ∧ i = 14 ∧ k = 21) ∨ (t = 21 ∧ k = 16)) w2 (uI (uI w2 22 14 0 21 (nI (2 ^ n - 1))) 21 0 0 16 (0 : Int32)) := (Fq.rf.uI (Or.inl ⟨rfl, rfl, rfl⟩)).uI (Or.inr ⟨rfl, rfl⟩)
        obtain ⟨v3, w4, e6, g6, f8⟩ := mo_s227 (N := N) (σ := uI (uI w2 22 14 0 21 (nI (2 ^ n - 1))) 21 0 0 16 (0 : Int32)) (fun _ σ_4 => some (rI σ_4 21 0 0 10, σ_4)) (by omega)
        have f9 : Fq (fun t i _ k => (t = 22 ∧ i = 14 ∧ k = 21) ∨ (t = 21 ∧ k = 16) ∨ (t = 22 ∧ i = 19)) w2 w4 := f7.tr f8 (fun _ _ _ _ z => by omega) (fun _ _ _ _ z => by omega)
        have fB : Fq syR (th0 υ1) w4 := (((f4.mono (R2 := syR) (fun t i j k z => by unfold rdR at z; unfold syR scR fScr; omega)).tr f5 (fun _ _ _ _ z => z) (fun t i j k z => by unfold syR scR fScr; omega)).tr f6 (fun _ _ _ _ z => z) (fun t i j k z => by unfold cpR at z; unfold syR scR fScr; omega)).tr f9 (fun _ _ _ _ z => z) (fun t i j k z => by unfold syR scR fScr; omega)
        have fC : Fq (fun t _ _ _ => t = 21 ∨ t = 22) υ1 w4 := ((((th0_c (σ := υ1)).tr f4 (fun _ _ _ _ z => Or.inl z) (fun t i j k z => by unfold rdR at z; omega)).tr f5 (fun _ _ _ _ z => z) (fun t i j k z => by omega)).tr f6 (fun _ _ _ _ z => z) (fun t i j k z => by unfold cpR at z; omega)).tr f9 (fun _ _ _ _ z => z) (fun t i j k z => by omega)
        have k14 : ∀ k, k < 21 → rI w4 22 14 0 k = rI w2 22 14 0 k := fun k hk => (f9 22 14 0 k (by omega)).1
        have k21 : rI w4 22 14 0 21 = nI (2 ^ n - 1) := ((f8 22 14 0 21 (by omega)).1).trans (by rw [rI_uI, if_neg (by omega), rI_uI, if_pos ⟨rfl, rfl, rfl, rfl⟩])
        have hn7 := s2.1
        refine ⟨nI n, υ1, w4, ?_, ?_, Inv_scr (n := n) (nd := 0) (D := fun _ => c) hI (q1.tr fB (fun _ _ _ _ z => z) (fun _ _ _ _ z => z)) ⟨Or.inr r2, ⟨by decide, fun _ _ => ⟨s2.ok, fun _ _ => ⟨rfl, rfl, rfl⟩⟩⟩, ⟨s5.frq fC (fun _ _ => by omega) (fun _ _ => by omega), ((fC 10 0 0 4 (by omega)).1).trans z10, fun d hd => by omega⟩, ⟨⟨fun i hi => ?_, ?_⟩, ?_, fun d hd => by omega⟩, ⟨((f9 21 0 0 10 (by omega)).1).trans z10w, fun i hi => ?_⟩, fun k hk => Or.inl ⟨((fC 10 (k + 1) 0 4 (by omega)).1).trans (s4 k hk), g6 k hk⟩⟩⟩
        · unfold f_X7_screen
          rw [sp_isText7, Option.bind_some, b2n_z, decide_eq_true hr, if_pos rfl, gi ht (by decide), gi ht (by decide), nI_clamp (by omega), a, if_neg (nI_ne_m1 (by omega)), e1, Option.bind_some]
          dsimp only
          rw [if_pos h9, e2, Option.bind_some, e3, s5.1]
        · unfold f_X8_screen
          rw [← th0, sp_isText8, Option.bind_some, b2n_z, decide_eq_true hr, if_pos rfl, gi ht (by decide), nI_clamp (by omega)]
          dsimp only
          rw [((q1 22 9 0 t (by unfold syR scR fScr; omega)).1).trans b, if_pos (nI_pos' (by omega)), e4, Option.bind_some]
          dsimp only
          rw [if_pos h9, e5, z10w, I_full n (by omega)]
          refine Eq.trans e6 ?_
          rw [((f9 21 0 0 10 (by omega)).1).trans z10w]
        · obtain ⟨x0, x1, x2, x3, x4, x5⟩ := g5 i hi
          refine ⟨(k14 i (by omega)).trans x1, (k14 _ (by omega)).trans x2, ?_⟩
          show rI w4 22 14 0 (14 + c i 5) = nI i
          rw [(s2.2 i hi).2.1, k14 _ (by omega)]
          exact x5
        · show rI w4 22 14 0 21 = _
          rw [k21, msk_full (fun i hi => by show decide (c i 6 = 1) = true; rw [(s2.2 i hi).2.2]; rfl)]
        · exact ((f8 21 0 0 16 (by omega)).1).trans (by rw [rI_uI, if_pos ⟨rfl, rfl, rfl, rfl⟩]; rfl)
        · obtain ⟨x0, x1, x2, x3, x4, x5⟩ := g5 i hi
          exact ⟨((f9 22 11 0 i (by omega)).1).trans x0, ((f9 22 12 0 i (by omega)).1).trans x3, ((f9 22 13 0 i (by omega)).1).trans x4⟩
      · have q1 : Fq scR σ (th0 τ) := q0.tr th0_fr (fun _ _ _ _ z => z) (fun _ _ _ _ z => z)
        obtain ⟨υ, e2, f2, -⟩ := mo_reads (N := N) (σ := th0 τ) (b := fun k => rI σ 6 t 0 k) (c := fun _ _ => 0) (R := R) ht hm (((q1 22 9 0 t (by unfold scR; omega)).1).trans b) (fun k hk => ((q1 22 8 0 _ (by unfold scR; omega)).1).trans (d k hk).symm) hR hN
        refine ⟨-4, τ, υ, ?_, ?_, Inv_sc hI (q1.tr (rd_sc f2) (fun _ _ _ _ z => z) (fun _ _ _ _ z => z))⟩
        · unfold f_X7_screen
          rw [sp_isText7, Option.bind_some, b2n_z, decide_eq_true hr, if_pos rfl, gi ht (by decide), gi ht (by decide), nI_clamp (by omega), a, if_neg (nI_ne_m1 (by omega)), e1, Option.bind_some]
          dsimp only
          rw [if_neg h9]
        · unfold f_X8_screen
          rw [← th0, sp_isText8, Option.bind_some, b2n_z, decide_eq_true hr, if_pos rfl, gi ht (by decide), nI_clamp (by omega)]
          dsimp only
          rw [((q1 22 9 0 t (by unfold scR; omega)).1).trans b, if_pos (nI_pos' (by omega)), e2, Option.bind_some]
          dsimp only
          rw [if_neg h9]
  · refine ⟨-1, σ, th0 σ, ?_, ?_, Inv_th0 hI⟩
    · unfold f_X7_screen
      rw [sp_isText7, Option.bind_some, b2n_z, decide_eq_false hr]; rfl
    · unfold f_X8_screen
      rw [← th0, sp_isText8, Option.bind_some, b2n_z, decide_eq_false hr]; rfl
end Screen
