section ReadInto
variable {N n : Nat} {σ : Sg} {c : Scr}
/-- panes as they are told -/
def okT (n : Nat) (c : Scr) : Prop := n ≤ 7 ∧ ∀ i, i < n → okB (c i) ∧ c i 5 = i ∧ c i 6 = 1
theorem okT.ok (h : okT n c) : okS n c := ⟨h.1, fun i hi => ⟨(h.2 i hi).1, by rw [(h.2 i hi).2.1]; exact hi, by rw [(h.2 i hi).2.2]; decide⟩, fun i j hi hj e => by rw [(h.2 i hi).2.1, (h.2 j hj).2.1] at e; exact e⟩
theorem okT_tpn {b : Nat → Int32} {m p : Nat} {x : Nat × Nat × Nat × Nat × Nat} (h : okT n c) (hn : n < 7) (hx : rpn b m p = .inr x) : okT (n + 1) (tpn c n x) := by
  refine ⟨by omega, fun i hi => ?_⟩
  by_cases e : i = n
  · subst e
    exact ⟨(rpn_ok hx c i).1, by rw [tpn_at]; rfl, by rw [tpn_at]; rfl⟩
  · rw [tpn_off e]; exact h.2 i (by omega)
/-- the answer of a reading -/
def ans (m : Nat) (R : Option Nat × Nat × Scr) : Int32 := match R.1 with
  | some e => nI e
  | none => if 2 ≤ R.2.1 then -9 else nI m
theorem ptx_s (b : Nat → Int32) (m F p n : Nat) (c : Scr) : ptx b m (F + 1) p n c = if m ≤ p then (none, n, c) else if b p = 32 then ptx b m F (p + 1) n c else if n = 7 then (some p, n, c) else
    match rpn b m p with
    | .inl e => (some e, n, c)
    | .inr x => ptx b m F (p + 5) (n + 1) (tpn c n x) := rfl
theorem cl_readInto {t m : Nat} {R : Option Nat × Nat × Scr} (hm : m ≤ 60) (h5 : rI σ 5 t 0 1 = nI m) (hR : ptx (fun k => rI σ 6 t 0 k) m 100 0 0 c = R) (hN : 200 < N) :
    ∃ τ, f_X5_readInto N t 1 σ = some (ans m R, τ) ∧ Fr (scrR 1) σ τ ∧ (R.1 = none → isScr τ 1 R.2.1 R.2.2 ∧ okT R.2.1 R.2.2) := by
  unfold f_X5_readInto
  generalize hb : (fun k => rI σ 6 t 0 k) = b at *
  have hb' : ∀ τ, Fr (scrR 1) σ τ → (fun k => rI τ 6 t 0 k) = b := fun τ h => by
    rw [← hb]; funext k; exact (h 6 t 0 (by unfold scrR; omega) k).1
  refine lp_gen (fun q (s : Int32 × Sg) => L_X5_readInto_7 N (fun v2_2 σ_2 => if (2 : Int32) ≤ (rI σ_2 7 1 0 1) then (some ((-9 : Int32), σ_2)) else (some (rI σ_2 5 t 0 1, σ_2))) t 1 q s.1 s.2)
    (fun d s => ∃ p n c F, p + d = m ∧ s.1 = nI p ∧ m - p < F ∧ ptx b m F p n c = R ∧ isScr s.2 1 n c ∧ okT n c ∧ Fr (scrR 1) σ s.2)
    (fun o => ∃ τ, o = some (ans m R, τ) ∧ Fr (scrR 1) σ τ ∧ (R.1 = none → isScr τ 1 R.2.1 R.2.2 ∧ okT R.2.1 R.2.2)) ?_ N m (0, uI σ 7 1 0 1 0) ⟨0, 0, c, 100, by omega, rfl, by omega, hR, ⟨by rw [rI_uI, if_pos ⟨rfl, rfl, rfl, rfl⟩]; rfl, fun i hi => by omega⟩, ⟨by omega, fun i hi => by omega⟩, Fr.rf.uI ⟨Or.inl rfl, rfl⟩⟩ (by omega)
  rintro q d ⟨v, τ⟩ ⟨p, n, c, F, hd, hv, hF, hP, hS, ho, hfr⟩
  dsimp only at hv hS hfr ⊢
  subst hv
  have t5 : rI τ 5 t 0 1 = nI m := ((hfr 5 t 0 (by unfold scrR; omega) 1).1).trans h5
  have t6 := hb' τ hfr
  have t6p : rI τ 6 t 0 p = b p := congrFun t6 p
  obtain ⟨F, rfl⟩ : ∃ e, F = e + 1 := ⟨F - 1, by omega⟩
  rw [ptx_s] at hP
  have hn := ho.1
  rw [L_X5_readInto_7_s, t5]
  by_cases h1 : m ≤ p
  · right
    rw [if_pos h1] at hP
    subst hP
    rw [ile_t h1 (by omega), hS.1]
    refine ⟨τ, ?_, hfr, fun _ => ⟨hS, ho⟩⟩
    show _ = some (if 2 ≤ n then -9 else nI m, τ)
    by_cases h2 : 2 ≤ n
    · rw [n2, ile_t h2 (by omega), if_pos h2]
    · rw [n2, ile_f (by omega) (by omega), if_neg h2]
  · rw [if_neg h1] at hP
    rw [ile_f (by omega) (by omega), gi (by omega) (by decide), nI_clamp (by omega), t6p]
    by_cases h32 : b p = 32
    · left
      rw [if_pos h32] at hP
      rw [if_pos h32, nI_1]
      exact ⟨(nI (p + 1), τ), d - 1, by omega, rfl, p + 1, n, c, F, by omega, rfl, by omega, hP, hS, ho, hfr⟩
    · rw [if_neg h32] at hP
      rw [if_neg h32, hS.1]
      by_cases h7 : n = 7
      · right
        rw [if_pos h7] at hP
        subst hP
        rw [n7, ilt_f (by omega) (by omega)]
        exact ⟨τ, rfl, hfr, fun z => by cases z⟩
      · rw [if_neg h7] at hP
        rw [n7, ilt_t (by omega) (by decide), gi (by omega) (by decide), nI_clamp (by omega)]
        obtain ⟨r1, r2⟩ := cl_readPane (N := N) (i := n) hm t5 (show p < m by omega) c (by omega)
        rw [t6] at r1 r2
        cases hx : rpn b m p with
        | inl e =>
          right
          rw [hx] at hP
          dsimp only at hP
          subst hP
          have he : e ≤ p + 4 := by
            unfold rpn at hx
            repeat' split at hx
            all_goals first | (cases hx; omega) | cases hx
          rw [r1 e hx, Option.bind_some]
          dsimp only
          rw [if_neg (show ¬ nI e = -9 by rw [fa_eq, nI_toInt (by omega)]; have : (-9 : Int32).toInt = -9 := by decide
                                          omega)]
          exact ⟨τ, rfl, hfr, fun z => by cases z⟩
        | inr x =>
          left
          rw [hx] at hP
          dsimp only at hP
          obtain ⟨υ, e1, e2, e3⟩ := r2 x hx
          have hp5 := (rpn_ok hx c n).2
          have z7 : rI υ 7 1 0 1 = nI n := ((e3 7 1 0 (by unfold at9; omega) 1).1).trans hS.1
          rw [e1, Option.bind_some]
          dsimp only
          rw [if_pos rfl, z7, gi (by omega) (by decide), nI_clamp (by omega), rI_uI, if_neg (by omega), z7, nI_1, n4, nI_add, nI_1]
          have fr2 : Fr (scrR 1) σ (uI (uI υ 9 1 n 5 (nI n)) 7 1 0 1 (nI (n + 1))) := ((hfr.tr e3 (fun _ _ _ z => z) (fun t a b z => ⟨Or.inr z.1, z.2.1⟩)).uI ⟨Or.inr rfl, rfl⟩).uI ⟨Or.inl rfl, rfl⟩
          refine ⟨(nI (p + 4 + 1), uI (uI υ 9 1 n 5 (nI n)) 7 1 0 1 (nI (n + 1))), d - 5, by omega, rfl, p + 5, n + 1, tpn c n x, F, by omega, rfl, by omega, hP, ⟨by rw [rI_uI, if_pos ⟨rfl, rfl, rfl, rfl⟩], fun i hi => ?_⟩, okT_tpn ho (by omega) hx, fr2⟩
          by_cases ei : i = n
          · subst ei; exact e2
          · rw [tpn_off ei]
            have hpi := (hS.2 i (by omega)).fr e3 (fun z => ei z.2.2)
            refine ⟨fun f hf => ?_, hpi.2.1, hpi.2.2⟩
            show rI (uI (uI υ 9 1 n 5 (nI n)) 7 1 0 1 (nI (n + 1))) 9 1 i f = _
            rw [rI_uI, if_neg (by omega), rI_uI, if_neg (by omega)]
            exact hpi.1 f hf
end ReadInto
