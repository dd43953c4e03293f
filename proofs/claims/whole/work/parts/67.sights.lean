section Sights
variable {N n nd : Nat} {σ : Sg} {D : Nat → Scr} {c : Scr}
/-- whether a pair of a row tells of a cell and of who may be there -/
def gq (n : Nat) (a b : Int32) : Bool := decide (0 ≤ a.toInt ∧ a.toInt < 96) && decide (-1 ≤ b.toInt ∧ b.toInt < (n : Int))
/-- the same, of the j-th pair -/
abbrev gp (n : Nat) (f : Nat → Int32) (j : Nat) : Bool := gq n (f (2 * j)) (f (2 * j + 1))
theorem gq_t {n : Nat} {a b : Int32} : gq n a b = true ↔ (0 ≤ a.toInt ∧ a.toInt < 96) ∧ (-1 ≤ b.toInt ∧ b.toInt < (n : Int)) := by
  unfold gq
  rw [Bool.and_eq_true, decide_eq_true_eq, decide_eq_true_eq]
theorem cl_sights {r m : Nat} (hS : isScr σ 0 n c) (hn : n ≤ 7) (hr : r < 6) (a : rI σ 2 r 0 1 = nI (2 * m)) (hm : m ≤ 20) (hN : 100 < N) :
    ((∀ j, j < m → gp n (fun k => rI σ 3 r 0 k) j = true) → L_X7_refusalOfSights_61 N (fun _ σ_8 => some ((0 : Int32), σ_8)) (nI r) N 0 σ = some (0, σ)) ∧ ((¬ ∀ j, j < m → gp n (fun k => rI σ 3 r 0 k) j = true) → L_X7_refusalOfSights_61 N (fun _ σ_8 => some ((0 : Int32), σ_8)) (nI r) N 0 σ = some (-3, fdS σ 3)) := by
  have key : ((∀ j, j < m → gp n (fun k => rI σ 3 r 0 k) j = true) ∧ L_X7_refusalOfSights_61 N (fun _ σ_8 => some ((0 : Int32), σ_8)) (nI r) N 0 σ = some (0, σ)) ∨ ((¬ ∀ j, j < m → gp n (fun k => rI σ 3 r 0 k) j = true) ∧ L_X7_refusalOfSights_61 N (fun _ σ_8 => some ((0 : Int32), σ_8)) (nI r) N 0 σ = some (-3, fdS σ 3)) := by
    refine lp_gen (fun q v => L_X7_refusalOfSights_61 N (fun _ σ_8 => some ((0 : Int32), σ_8)) (nI r) q v σ) (fun d v => ∃ j, j + d = m ∧ v = nI (2 * j) ∧ ∀ k, k < j → gp n (fun k => rI σ 3 r 0 k) k = true) (fun o => ((∀ j, j < m → gp n (fun k => rI σ 3 r 0 k) j = true) ∧ o = some (0, σ)) ∨ ((¬ ∀ j, j < m → gp n (fun k => rI σ 3 r 0 k) j = true) ∧ o = some (-3, fdS σ 3))) ?_ N m 0 ⟨0, by omega, rfl, fun k hk => by omega⟩ (by omega)
    rintro q d v ⟨j, hd, rfl, hg⟩
    rw [L_X7_refusalOfSights_61_s, gi hr (by decide), nI_clamp (by omega), a, nI_1]
    by_cases hj : j < m
    · rw [ile_f (by omega) (by omega), gi hr (by decide), gi (by omega) (by decide), gi hr (by decide), gi (by omega) (by decide), nI_clamp (by omega), sp_isCell, Option.bind_some, b2n_z, nI_clamp (by omega), n2, nI_add]
      by_cases h1 : 0 ≤ (rI σ 3 r 0 (2 * j)).toInt ∧ (rI σ 3 r 0 (2 * j)).toInt < (96 : Nat)
      · rw [decide_eq_true h1, if_pos rfl]
        by_cases h2 : -1 ≤ (rI σ 3 r 0 (2 * j + 1)).toInt ∧ (rI σ 3 r 0 (2 * j + 1)).toInt < (n : Int)
        · left
          refine ⟨nI (2 * j + 2), d - 1, by omega, ?_, j + 1, by omega, by rw [show 2 * (j + 1) = 2 * j + 2 by omega], fun k hk => ?_⟩
          · by_cases hm1 : rI σ 3 r 0 (2 * j + 1) = -1
            · rw [if_pos hm1]
            · have hp : 0 ≤ (rI σ 3 r 0 (2 * j + 1)).toInt := by
                have : (rI σ 3 r 0 (2 * j + 1)).toInt ≠ -1 := fun z => hm1 ((fa_eq _ _).mpr (by rw [z, m1_toInt]))
                omega
              rw [if_neg hm1]
              dsimp only
              rw [sp_has hS hn, Option.bind_some, b2n_z, decide_eq_true ⟨hp, h2.2⟩, if_pos rfl]
          · by_cases e : k = j
            · subst e
              exact gq_t.mpr ⟨h1, h2⟩
            · exact hg k (by omega)
        · right; right
          refine ⟨fun hall => ?_, ?_⟩
          · exact h2 (gq_t.mp (hall j hj)).2
          · have hm1 : ¬ rI σ 3 r 0 (2 * j + 1) = -1 := fun z => h2 (by rw [z, m1_toInt]; omega)
            rw [if_neg hm1]
            dsimp only
            rw [sp_has hS hn, Option.bind_some, b2n_z, decide_eq_false (fun z => h2 ⟨by omega, z.2⟩), if_neg (by decide), n3, sp_found7 (by decide)]; rfl
      · right; right
        refine ⟨fun hall => ?_, ?_⟩
        · exact h1 (gq_t.mp (hall j hj)).1
        · rw [decide_eq_false h1, if_neg (by decide), n3, sp_found7 (by decide)]; rfl
    · right; left
      have e : j = m := by omega
      subst e
      exact ⟨hg, by rw [ile_t (by omega) (by omega)]⟩
  rcases key with ⟨k1, k2⟩ | ⟨k1, k2⟩
  · exact ⟨fun _ => k2, fun z => absurd k1 z⟩
  · exact ⟨fun z => absurd z k1, fun _ => k2⟩
theorem mo_sights {r m : Nat} (h0 : rI σ 21 0 0 10 = nI n) (hn : n ≤ 7) (hr : r < 6) (a : rI σ 22 7 0 r = nI (2 * m)) (hm : m ≤ 20) (hN : 100 < N) :
    ((∀ j, j < m → gp n (fun k => rI σ 22 6 0 (40 * r + k)) j = true) → L_X8_againstPairs_52 N (fun _ σ_8 => some ((0 : Int32), σ_8)) (nI r) N 0 σ = some (0, σ)) ∧ ((¬ ∀ j, j < m → gp n (fun k => rI σ 22 6 0 (40 * r + k)) j = true) → L_X8_againstPairs_52 N (fun _ σ_8 => some ((0 : Int32), σ_8)) (nI r) N 0 σ = some (-3, fdM σ 3)) := by
  have z0 : (0 : Int32).toInt = 0 := by decide
  have z95 : (95 : Int32).toInt = 95 := by decide
  have zn : (nI n - 1).toInt = (n : Int) - 1 := sub1_toInt (by omega)
  have key : ((∀ j, j < m → gp n (fun k => rI σ 22 6 0 (40 * r + k)) j = true) ∧ L_X8_againstPairs_52 N (fun _ σ_8 => some ((0 : Int32), σ_8)) (nI r) N 0 σ = some (0, σ)) ∨ ((¬ ∀ j, j < m → gp n (fun k => rI σ 22 6 0 (40 * r + k)) j = true) ∧ L_X8_againstPairs_52 N (fun _ σ_8 => some ((0 : Int32), σ_8)) (nI r) N 0 σ = some (-3, fdM σ 3)) := by
    refine lp_gen (fun q v => L_X8_againstPairs_52 N (fun _ σ_8 => some ((0 : Int32), σ_8)) (nI r) q v σ) (fun d v => ∃ j, j + d = m ∧ v = nI (2 * j) ∧ ∀ k, k < j → gp n (fun k => rI σ 22 6 0 (40 * r + k)) k = true) (fun o => ((∀ j, j < m → gp n (fun k => rI σ 22 6 0 (40 * r + k)) j = true) ∧ o = some (0, σ)) ∨ ((¬ ∀ j, j < m → gp n (fun k => rI σ 22 6 0 (40 * r + k)) j = true) ∧ o = some (-3, fdM σ 3))) ?_ N m 0 ⟨0, by omega, rfl, fun k hk => by omega⟩ (by omega)
    rintro q d v ⟨j, hd, rfl, hg⟩
    rw [L_X8_againstPairs_52_s, gi hr (by decide), nI_clamp (by omega), a]
    by_cases hj : j < m
    · rw [ile_f (by omega) (by omega), n40, pk_mul, nI_add, gi (by omega) (by decide), nI_clamp (by omega), sp_in, Option.bind_some, b2n_z, z0, z95, nI_1, gi (by omega) (by decide), nI_clamp (by omega), n2, nI_add]
      by_cases h1 : 0 ≤ (rI σ 22 6 0 (40 * r + 2 * j)).toInt ∧ (rI σ 22 6 0 (40 * r + 2 * j)).toInt ≤ 95
      · rw [decide_eq_true h1, if_pos rfl]
        dsimp only
        rw [h0, sp_in, Option.bind_some, b2n_z, m1_toInt, zn]
        by_cases h2 : -1 ≤ (rI σ 22 6 0 (40 * r + 2 * j + 1)).toInt ∧ (rI σ 22 6 0 (40 * r + 2 * j + 1)).toInt ≤ (n : Int) - 1
        · left
          refine ⟨nI (2 * j + 2), d - 1, by omega, ?_, j + 1, by omega, by rw [show 2 * (j + 1) = 2 * j + 2 by omega], fun k hk => ?_⟩
          · rw [decide_eq_true h2, if_pos rfl]
          · by_cases e : k = j
            · subst e
              refine gq_t.mpr ⟨by dsimp only; omega, ?_⟩
              dsimp only
              rw [← Nat.add_assoc]; omega
            · exact hg k (by omega)
        · right; right
          refine ⟨fun hall => ?_, ?_⟩
          · have := (gq_t.mp (hall j hj)).2
            dsimp only at this
            rw [← Nat.add_assoc] at this
            exact h2 (by omega)
          · rw [decide_eq_false h2, if_neg (by decide), n3, sp_found8 (by decide)]; rfl
      · right; right
        refine ⟨fun hall => ?_, ?_⟩
        · have := (gq_t.mp (hall j hj)).1
          dsimp only at this
          exact h1 (by omega)
        · rw [decide_eq_false h1, if_neg (by decide), n3, sp_found8 (by decide)]; rfl
    · right; left
      have e : j = m := by omega
      subst e
      exact ⟨hg, by rw [ile_t (by omega) (by omega)]⟩
  rcases key with ⟨k1, k2⟩ | ⟨k1, k2⟩
  · exact ⟨fun _ => k2, fun z => absurd k1 z⟩
  · exact ⟨fun z => absurd z k1, fun _ => k2⟩
/-- the pairs, in the reference's row -/
def prM (σ : Sg) (r m : Nat) (cl : Nat → Nat) (tl : Nat → Int32) : Prop := m ≤ 20 ∧ rI σ 22 7 0 r = nI (2 * m) ∧ ∀ j, j < m → cl j < 96 ∧ rI σ 22 6 0 (40 * r + 2 * j) = nI (cl j) ∧ rI σ 22 6 0 (40 * r + 2 * j + 1) = tl j
theorem rs_cases (hI : iRow σ) (hS : isScr σ 0 n c) (ok : okS n c) (p q : Int32) (hN : 100 < N) :
    (f_X7_refusalOfSights N p q σ = some (-1, σ) ∧ ∀ τ, mS τ n c → (∀ k, rI τ 22 7 0 k = rI σ 22 7 0 k ∧ rI τ 22 6 0 k = rI σ 22 6 0 k) → f_X8_againstPairs N p q τ = some (-1, τ)) ∨
    (∃ f, f < 6 ∧ f_X7_refusalOfSights N p q σ = some (-3, fdS σ f) ∧ ∀ τ, mS τ n c → (∀ k, rI τ 22 7 0 k = rI σ 22 7 0 k ∧ rI τ 22 6 0 k = rI σ 22 6 0 k) → f_X8_againstPairs N p q τ = some (-3, fdM τ f)) ∨
    ∃ i r m cl tl, i < n ∧ r < 6 ∧ p = nI i ∧ q = nI r ∧ prs σ r m cl tl ∧ (∀ j, j < m → tl j = -1 ∨ ∃ w, w < n ∧ tl j = nI w) ∧ f_X7_refusalOfSights N p q σ = some (0, σ) ∧ ∀ τ, mS τ n c → (∀ k, rI τ 22 7 0 k = rI σ 22 7 0 k ∧ rI τ 22 6 0 k = rI σ 22 6 0 k) → f_X8_againstPairs N p q τ = some (0, τ) ∧ prM τ r m cl tl := by
  have hn := ok.1
  by_cases hi : 0 ≤ p.toInt ∧ p.toInt < (n : Nat)
  · by_cases hr : 0 ≤ q.toInt ∧ q.toInt < (6 : Nat)
    · obtain ⟨i, hin, rfl⟩ := in_nI hi (by omega)
      obtain ⟨r, hr6, rfl⟩ := in_nI hr (by decide)
      right
      have c0 : f_X7_refusalOfSights N (nI i) (nI r) σ = f_X7_refusalOfSights N (nI i) (nI r) σ := rfl
      conv at c0 =>
        rhs
        rw [f_X7_refusalOfSights, sp_has hS hn, Option.bind_some, b2n_z, decide_eq_true hi, if_pos rfl, sp_isRow7, Option.bind_some, b2n_z, decide_eq_true hr, if_pos rfl, gi hr6 (by decide), nI_clamp (show r < 2 ^ 31 by omega)]
      have m0 : ∀ τ, mS τ n c → f_X8_againstPairs N (nI i) (nI r) τ = (if 0 ≤ (rI τ 22 7 0 r) then (if ((rI τ 22 7 0 r) - (rI τ 22 7 0 r) / (2 : Int32) * (2 : Int32)) = (1 : Int32) then ((f_X8_found N (5 : Int32) τ).bind (fun w3 => some (w3.1, w3.2))) else (L_X8_againstPairs_52 N (fun v3_8 σ_8 => some ((0 : Int32), σ_8)) (nI r) N (0 : Int32) τ)) else ((f_X8_found N (1 : Int32) τ).bind (fun w9 => some (w9.1, w9.2)))) := by
        intro τ hm
        unfold f_X8_againstPairs
        rw [sp_isPane hm.1 hn, Option.bind_some, b2n_z, decide_eq_true hi, if_pos rfl, sp_isRow8, Option.bind_some, b2n_z, decide_eq_true hr, if_pos rfl, gi hr6 (by decide), gi hr6 (by decide), nI_clamp (by omega)]
      dsimp only at c0
      rcases hI r hr6 with ⟨a, b⟩ | ⟨m', hm', a, b, d⟩
      · left
        refine ⟨1, by decide, ?_, fun τ hm hτ => ?_⟩
        · rw [c0, a, if_pos rfl, n1, sp_found7 (by decide)]; rfl
        · rw [m0 τ hm, (hτ r).1, b, if_neg (by decide), n1, sp_found8 (by decide)]; rfl
      · rw [a, if_neg (nI_ne_m1 (by omega)), gi hr6 (by decide), n2, pk_rem (by omega) (by decide) (by decide)] at c0
        have m1 : ∀ τ, mS τ n c → (∀ k, rI τ 22 7 0 k = rI σ 22 7 0 k ∧ rI τ 22 6 0 k = rI σ 22 6 0 k) → f_X8_againstPairs N (nI i) (nI r) τ = (if nI (m' % 2) = 1 then some (-3, fdM τ 5) else (L_X8_againstPairs_52 N (fun v3_8 σ_8 => some ((0 : Int32), σ_8)) (nI r) N (0 : Int32) τ)) := by
          intro τ hm hτ
          rw [m0 τ hm, (hτ r).1, b, if_pos (nI_pos' (by omega)), n2, pk_rem (by omega) (by decide) (by decide), n5, sp_found8 (by decide)]
          rfl
        by_cases hodd : m' % 2 = 1
        · left
          refine ⟨5, by decide, ?_, fun τ hm hτ => ?_⟩
          · rw [c0, iz_f (by omega) (by omega), n5, sp_found7 (by decide)]; rfl
          · rw [m1 τ hm hτ, n1, ieq_t hodd]
        · obtain ⟨m, rfl⟩ : ∃ m, m' = 2 * m := ⟨m' / 2, by omega⟩
          rw [iz_t (by omega)] at c0
          obtain ⟨s1, s2⟩ := cl_sights (N := N) hS hn hr6 a (by omega) hN
          have ge : ∀ j, j < m → gp n (fun k => rI σ 22 6 0 (40 * r + k)) j = gp n (fun k => rI σ 3 r 0 k) j := fun j hj => by
            unfold gp
            dsimp only; rw [d (2 * j) (by omega), d (2 * j + 1) (by omega)]
          by_cases hall : ∀ j, j < m → gp n (fun k => rI σ 3 r 0 k) j = true
          · right
            have hp : ∀ j, j < m → (0 ≤ (rI σ 3 r 0 (2 * j)).toInt ∧ (rI σ 3 r 0 (2 * j)).toInt < (96 : Nat)) ∧ (-1 ≤ (rI σ 3 r 0 (2 * j + 1)).toInt ∧ (rI σ 3 r 0 (2 * j + 1)).toInt < (n : Int)) := fun j hj => by
              exact gq_t.mp (hall j hj)
            have hcl : ∀ j, j < m → (rI σ 3 r 0 (2 * j)).toNatClampNeg < 96 ∧ rI σ 3 r 0 (2 * j) = nI (rI σ 3 r 0 (2 * j)).toNatClampNeg := fun j hj => by
              obtain ⟨x, hx, e⟩ := in_nI (hp j hj).1 (by decide)
              rw [e, nI_clamp (by omega)]
              exact ⟨hx, rfl⟩
            refine ⟨i, r, m, fun j => (rI σ 3 r 0 (2 * j)).toNatClampNeg, fun j => rI σ 3 r 0 (2 * j + 1), hin, hr6, rfl, rfl, ⟨by omega, a, fun j hj => ⟨(hcl j hj).1, (hcl j hj).2, rfl⟩⟩, fun j hj => ?_, by rw [c0]; exact s1 hall, fun τ hm hτ => ⟨?_, by omega, (hτ r).1.trans b, fun j hj => ⟨(hcl j hj).1, ?_, ?_⟩⟩⟩
            · by_cases e : rI σ 3 r 0 (2 * j + 1) = -1
              · exact Or.inl e
              · have hne : (rI σ 3 r 0 (2 * j + 1)).toInt ≠ -1 := fun z => e ((fa_eq _ _).mpr (by rw [z, m1_toInt]))
                exact Or.inr (in_nI (p := rI σ 3 r 0 (2 * j + 1)) (n := n) ⟨by have := (hp j hj).2.1; omega, (hp j hj).2.2⟩ (by omega))
            · rw [m1 τ hm hτ, n1, ieq_f (by omega) (by omega) (by decide)]
              refine (mo_sights (N := N) hm.1 hn hr6 ((hτ r).1.trans b) (by omega) hN).1 (fun j hj => ?_)
              have : gp n (fun k => rI τ 22 6 0 (40 * r + k)) j = gp n (fun k => rI σ 22 6 0 (40 * r + k)) j := by
                unfold gp
                dsimp only; rw [(hτ _).2, (hτ _).2]
              rw [this, ge j hj]; exact hall j hj
            · rw [(hτ _).2, ← d (2 * j) (by omega)]; exact (hcl j hj).2
            · rw [(hτ _).2, Nat.add_assoc, ← d (2 * j + 1) (by omega)]
          · left
            refine ⟨3, by decide, by rw [c0]; exact s2 hall, fun τ hm hτ => ?_⟩
            rw [m1 τ hm hτ, n1, ieq_f (by omega) (by omega) (by decide)]
            refine (mo_sights (N := N) hm.1 hn hr6 ((hτ r).1.trans b) (by omega) hN).2 (fun z => hall (fun j hj => ?_))
            have h := z j hj
            have : gp n (fun k => rI τ 22 6 0 (40 * r + k)) j = gp n (fun k => rI σ 22 6 0 (40 * r + k)) j := by
              unfold gp
              dsimp only; rw [(hτ _).2, (hτ _).2]
            rw [this, ge j hj] at h
            exact h
    · left
      refine ⟨?_, fun τ hm _ => ?_⟩
      · unfold f_X7_refusalOfSights
        rw [sp_has hS hn, Option.bind_some, b2n_z, decide_eq_true hi, if_pos rfl, sp_isRow7, Option.bind_some, b2n_z, decide_eq_false hr]; rfl
      · unfold f_X8_againstPairs
        rw [sp_isPane hm.1 hn, Option.bind_some, b2n_z, decide_eq_true hi, if_pos rfl, sp_isRow8, Option.bind_some, b2n_z, decide_eq_false hr]; rfl
  · left
    refine ⟨?_, fun τ hm _ => ?_⟩
    · unfold f_X7_refusalOfSights
      rw [sp_has hS hn, Option.bind_some, b2n_z, decide_eq_false hi]; rfl
    · unfold f_X8_againstPairs
      rw [sp_isPane hm.1 hn, Option.bind_some, b2n_z, decide_eq_false hi]; rfl
end Sights
