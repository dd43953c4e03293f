/-! the reference: its screen as it is (mS), as it would be (mW), what is covered (mC), seen (mV) -/
theorem z_add (x : Int32) : (0 : Int32) + x = x := Int32.zero_add x
theorem cl21 : (21 : Int32).toNatClampNeg = 21 := by decide
theorem cl0 : (0 : Int32).toNatClampNeg = 0 := by decide
theorem gi21 {α : Type} (o : Option α) : gd (ib (21 : Int32) 22) o = o := gi (a := 21) (by decide) (by decide) o
def isMod (g : Nat → Int32) (n : Nat) (c : Scr) : Prop := (∀ i, i < n → g i = nI (c i 1) ∧ g (7 + i) = nI (c i 2) ∧ g (14 + c i 5) = nI i) ∧ g 21 = nI (msk (opn c) n)
def mS (σ : Sg) (n : Nat) (c : Scr) : Prop := rI σ 21 0 0 10 = nI n ∧ (∀ i, i < n → rI σ 22 11 0 i = nI (c i 0) ∧ rI σ 22 12 0 i = nI (c i 3) ∧ rI σ 22 13 0 i = nI (c i 4)) ∧ isMod (fun k => rI σ 22 14 0 k) n c
def mW (σ : Sg) (n : Nat) (c : Scr) : Prop := rI σ 21 0 0 10 = nI n ∧ (∀ i, i < n → rI σ 22 20 0 i = nI (c i 0) ∧ rI σ 22 12 0 i = nI (c i 3) ∧ rI σ 22 13 0 i = nI (c i 4)) ∧ isMod (fun k => rI σ 22 21 0 k) n c
def mC (σ : Sg) (n : Nat) (c : Scr) : Prop := ∀ i, i < n → rL σ 23 22 0 i = lN (msk (cvr (c i)) 48) ∧ rL σ 23 23 0 i = lN (msk (fun x => cvr (c i) (48 + x)) 48)
def mV (σ : Sg) (n : Nat) (c : Scr) : Prop := ∀ i, i < n → rL σ 23 24 0 i = lN (msk (vis n c i) 48) ∧ rL σ 23 25 0 i = lN (msk (fun x => vis n c i (48 + x)) 48)
section Mod
variable {N n : Nat} {σ : Sg} {c : Scr}
theorem sp_in (v lo hi : Int32) : f_X8_in N v lo hi σ = some (nI (b2n (decide (lo.toInt ≤ v.toInt ∧ v.toInt ≤ hi.toInt))), σ) := by
  unfold f_X8_in
  have e1 : (v < lo) ↔ v.toInt < lo.toInt := fa_lt v lo
  have e2 : (hi < v) ↔ hi.toInt < v.toInt := fa_lt hi v
  simp only [e1, e2]
  by_cases a1 : v.toInt < lo.toInt
  · rw [if_pos a1, decide_eq_false (by omega)]; rfl
  · by_cases a2 : hi.toInt < v.toInt
    · rw [if_neg a1, if_pos a2, decide_eq_false (by omega)]; rfl
    · rw [if_neg a1, if_neg a2, decide_eq_true (by omega)]; rfl
theorem b2n_z {α : Type} (b : Bool) (x y : α) : (if nI (b2n b) = 0 then x else y) = if b then y else x := by
  cases b
  · exact iz_t rfl x y
  · exact iz_f (by decide) (by decide) x y
theorem sp_isCovered {k i x : Nat} {p : Nat → Nat} (h3 : rI σ 22 12 0 i = nI (p 3)) (h4 : rI σ 22 13 0 i = nI (p 4)) (ok : okB p) (hk : k < 6) (hi : i < 7) (hx : x < 96) :
    f_X8_isCovered N (nI k) (nI i) (nI (p 1)) (nI (p 2)) (nI x) σ = some (nI (b2n (cvk k p x)), σ) := by
  obtain ⟨ok0, ok1, ok2, ok3, ok4⟩ := ok
  have hm : x % 12 < 12 := Nat.mod_lt _ (by decide)
  have hd : x / 12 < 8 := by omega
  have em : nI x - nI x / 12 * 12 = nI (x % 12) := by rw [n12]; exact pk_rem (by omega) (by decide) (by decide)
  have ed : nI x / 12 = nI (x / 12) := by rw [n12]; exact pk_div (by omega) (by decide) (by decide)
  have t1 : (nI (x % 12) - nI (p 1)).toInt = (x % 12 : Nat) - (p 1 : Nat) := pk_sub_toInt (by omega) (by omega)
  have t2 : (nI (x / 12) - nI (p 2)).toInt = (x / 12 : Nat) - (p 2 : Nat) := pk_sub_toInt (by omega) (by omega)
  have w1 : nI (p 3) - 1 = nI (p 3 - 1) := by rw [n1, pk_sub ok1]
  have w2 : nI (p 4) - 1 = nI (p 4 - 1) := by rw [n1, pk_sub ok3]
  have u1 : (nI (p 3 - 1)).toInt = (p 3 - 1 : Nat) := nI_toInt (by omega)
  have u2 : (nI (p 4 - 1)).toInt = (p 4 - 1 : Nat) := nI_toInt (by omega)
  have z0 : (0 : Int32).toInt = 0 := by decide
  have e1 : (nI (x % 12) - nI (p 1) = 0) ↔ x % 12 = p 1 := by rw [fa_eq, t1, z0]; omega
  have e2 : (nI (x / 12) - nI (p 2) = 0) ↔ x / 12 = p 2 := by rw [fa_eq, t2, z0]; omega
  have e3 : (nI (x % 12) - nI (p 1) = nI (p 3 - 1)) ↔ x % 12 + 1 = p 1 + p 3 := by rw [fa_eq, t1, u1]; omega
  have e4 : (nI (x / 12) - nI (p 2) = nI (p 4 - 1)) ↔ x / 12 + 1 = p 2 + p 4 := by rw [fa_eq, t2, u2]; omega
  have e5 : (nI (x % 12) + nI (x / 12) - (nI (x % 12) + nI (x / 12)) / 2 * 2 = 0) ↔ (x % 12 + x / 12) % 2 = 0 := by
    rw [nI_add, n2, pk_rem (by omega) (by decide) (by decide), n0, nI_eq (by omega) (by decide)]
  have e6 : ∀ d : Nat, d < 9 → ((nI k = nI d) ↔ k = d) := fun d hd => nI_eq (by omega) (by omega)
  unfold f_X8_isCovered
  rw [em, ed, gi hi (by decide), nI_clamp (by omega), h3, w1, sp_in, Option.bind_some, b2n_z, t1, u1, z0]
  unfold cvk ibx
  by_cases a1 : 0 ≤ ((x % 12 : Nat) : Int) - (p 1 : Nat) ∧ ((x % 12 : Nat) : Int) - (p 1 : Nat) ≤ (p 3 - 1 : Nat)
  · rw [decide_eq_true a1, if_pos rfl, gi hi (by decide), h4, w2, sp_in, Option.bind_some, b2n_z, t2, u2, z0]
    by_cases a2 : 0 ≤ ((x / 12 : Nat) : Int) - (p 2 : Nat) ∧ ((x / 12 : Nat) : Int) - (p 2 : Nat) ≤ (p 4 - 1 : Nat)
    · rw [decide_eq_true a2, if_pos rfl, decide_eq_true (p := (p 1 ≤ x % 12 ∧ x % 12 < p 1 + p 3) ∧ (p 2 ≤ x / 12 ∧ x / 12 < p 2 + p 4)) (by omega), Bool.true_and]
      have gi7 : ∀ o : Option (Int32 × Sg), gd (ib (nI i) 7) o = o := fun o => gi hi (by decide) o
      have cli : (nI i).toNatClampNeg = i := nI_clamp (by omega)
      dsimp only
      simp (maxSteps := 2000000) only [gi7, cli, h3, h4, w1, w2, e1, e2, e3, e4, e5]
      simp only [n1, n2, n4, n5, e6 1 (by decide), e6 2 (by decide), e6 4 (by decide), e6 5 (by decide)]
      unfold rch b2n
      obtain ⟨A, hA⟩ : ∃ A : Bool, (x % 12 = p 1) = (A = true) := ⟨decide (x % 12 = p 1), by simp⟩
      obtain ⟨B, hB⟩ : ∃ A : Bool, (x / 12 = p 2) = (A = true) := ⟨decide (x / 12 = p 2), by simp⟩
      obtain ⟨C, hC⟩ : ∃ A : Bool, (x % 12 + 1 = p 1 + p 3) = (A = true) := ⟨decide (x % 12 + 1 = p 1 + p 3), by simp⟩
      obtain ⟨D, hD⟩ : ∃ A : Bool, (x / 12 + 1 = p 2 + p 4) = (A = true) := ⟨decide (x / 12 + 1 = p 2 + p 4), by simp⟩
      obtain ⟨E, hE⟩ : ∃ A : Bool, ((x % 12 + x / 12) % 2 = 0) = (A = true) := ⟨decide ((x % 12 + x / 12) % 2 = 0), by simp⟩
      simp only [hA, hB, hC, hD, hE]
      clear hA hB hC hD hE e1 e2 e3 e4 e5 e6
      rcases (by omega : k = 0 ∨ k = 1 ∨ k = 2 ∨ k = 3 ∨ k = 4 ∨ k = 5) with rfl | rfl | rfl | rfl | rfl | rfl <;>
        cases A <;> cases B <;> cases C <;> cases D <;> cases E <;> rfl
    · rw [decide_eq_false a2, decide_eq_false (p := (p 1 ≤ x % 12 ∧ x % 12 < p 1 + p 3) ∧ (p 2 ≤ x / 12 ∧ x / 12 < p 2 + p 4)) (by omega)]; rfl
  · rw [decide_eq_false a1, decide_eq_false (p := (p 1 ≤ x % 12 ∧ x % 12 < p 1 + p 3) ∧ (p 2 ≤ x / 12 ∧ x / 12 < p 2 + p 4)) (by omega)]; rfl
/-- the masks of pane i set -/
def cvS (σ : Sg) (i : Nat) (P : Nat → Bool) : Sg := uL (uL σ 23 22 0 i (lN (msk P 48))) 23 23 0 i (lN (msk (fun x => P (48 + x)) 48))
theorem lor0 (a : Int64) : a ||| (0 : Int64) = a := Int64.or_zero
theorem lmsk_t {p : Nat → Bool} {j : Nat} (h : p j = true) (hj : j < 63) : lN (msk p j) ||| ((1 : Int64) <<< ((nI j).toInt64 &&& 63)) = lN (msk p (j + 1)) := by
  have hl := msk_lt p j
  rw [L_1 j hj, fb_orL, msk_succ, if_pos h]
  congr 1
  rw [Nat.or_comm, show 2 ^ j = 2 ^ j * 1 from (Nat.mul_one _).symm, ← Nat.two_pow_add_eq_or_of_lt hl 1, Nat.add_comm]
theorem lmsk_f {p : Nat → Bool} {j : Nat} (h : p j = false) : lN (msk p (j + 1)) = lN (msk p j) := by
  rw [msk_succ, h]
  rfl
theorem sp_covering {i : Nat} (hW : mW σ n c) (ok : okB (c i)) (hi : i < n) (hn : n ≤ 7) (hN : 48 < N) : f_X8_covering N (nI i) σ = some (cvS σ i (cvr (c i))) := by
  obtain ⟨h0, h1, h2, h3⟩ := hW
  obtain ⟨k0, k1, k2⟩ := h1 i hi
  obtain ⟨g1, g2, g3⟩ := h2 i hi
  unfold f_X8_covering
  refine up_eq (fun m v (a : Int64 × Int64) => L_X8_covering_8 N (fun v2_4 v4_4 _ σ_4 => gd (ib (nI i) 7) (gd (ib (nI i) 7) (some (uL (uL σ_4 23 22 0 (nI i).toNatClampNeg v2_4) 23 23 0 (nI i).toNatClampNeg v4_4)))) (nI i) m a.1 a.2 v σ)
    (fun _ a => some (uL (uL σ 23 22 0 i a.1) 23 23 0 i a.2)) (fun j => (lN (msk (cvr (c i)) j), lN (msk (fun x => cvr (c i) (48 + x)) j))) 0 48 ?_ ?_ N (by omega) (by omega)
  · intro m
    show L_X8_covering_8 N _ (nI i) (m + 1) _ _ _ σ = _
    rw [L_X8_covering_8_s, n48, ile_t (Nat.le_refl _) (by decide)]
    simp (disch := omega) only [gi, nI_clamp]
  · intro m j _ hj
    show L_X8_covering_8 N _ (nI i) (m + 1) _ _ _ σ = L_X8_covering_8 N _ (nI i) m _ _ _ σ
    have q1 : rI σ 22 21 0 i = nI (c i 1) := g1
    have q2 : rI σ 22 21 0 (7 + i) = nI (c i 2) := g2
    have s1 := sp_isCovered (N := N) (σ := σ) k1 k2 ok ok.1 (show i < 7 by omega) (show j < 96 by omega)
    have s2 := sp_isCovered (N := N) (σ := σ) k1 k2 ok ok.1 (show i < 7 by omega) (show 48 + j < 96 by omega)
    rw [L_X8_covering_8_s, n48, ile_f hj (by decide)]
    simp (disch := omega) only [gi, nI_clamp, z_add, n7, nI_add, k0, q1, q2, s1, s2, Option.bind_some, b2n_z, lor0, nI_1]
    have c1 : cvk (c i 0) (c i) j = cvr (c i) j := rfl
    have c2 : cvk (c i 0) (c i) (48 + j) = cvr (c i) (48 + j) := rfl
    rw [c1, c2]
    cases a1 : cvr (c i) j <;> cases a2 : cvr (c i) (48 + j)
    · rw [lmsk_f a1, lmsk_f (p := fun x => cvr (c i) (48 + x)) a2]; rfl
    · rw [lmsk_f a1, ← lmsk_t (p := fun x => cvr (c i) (48 + x)) a2 (by omega)]; rfl
    · rw [← lmsk_t a1 (by omega), lmsk_f (p := fun x => cvr (c i) (48 + x)) a2]; rfl
    · rw [← lmsk_t a1 (by omega), ← lmsk_t (p := fun x => cvr (c i) (48 + x)) a2 (by omega)]; rfl
theorem mW_uL {t i j k : Nat} {v : Int64} (h : mW σ n c) : mW (uL σ t i j k v) n c := h
theorem mS_uL {t i j k : Nat} {v : Int64} (h : mS σ n c) : mS (uL σ t i j k v) n c := h
theorem mW_cv {i : Nat} {P : Nat → Bool} (h : mW σ n c) : mW (cvS σ i P) n c := h
def rgC : Nat → Nat → Nat → Prop := fun t i j => t = 23 ∧ (i = 22 ∨ i = 23) ∧ j = 0
def rgV : Nat → Nat → Nat → Prop := fun t i j => t = 23 ∧ (i = 24 ∨ i = 25) ∧ j = 0
def rgW : Nat → Nat → Nat → Prop := fun t i j => t = 22 ∧ (i = 20 ∨ i = 21) ∧ j = 0
theorem Fr_cv {R : Nat → Nat → Nat → Prop} {τ : Sg} {i : Nat} {P : Nat → Bool} (h : Fr R σ τ) (hr : ∀ a b d, rgC a b d → R a b d) : Fr R σ (cvS τ i P) :=
  (h.uL (hr _ _ _ ⟨rfl, Or.inl rfl, rfl⟩)).uL (hr _ _ _ ⟨rfl, Or.inr rfl, rfl⟩)
theorem cv_at {i : Nat} {P : Nat → Bool} : rL (cvS σ i P) 23 22 0 i = lN (msk P 48) ∧ rL (cvS σ i P) 23 23 0 i = lN (msk (fun x => P (48 + x)) 48) := by
  unfold cvS
  constructor
  · rw [rL_uL, rL_uL]; simp
  · rw [rL_uL]; simp
theorem cv_off {i k : Nat} {P : Nat → Bool} (h : k ≠ i) : rL (cvS σ i P) 23 22 0 k = rL σ 23 22 0 k ∧ rL (cvS σ i P) 23 23 0 k = rL σ 23 23 0 k := by
  unfold cvS
  constructor
  · rw [rL_uL, rL_uL]; simp [h]
  · rw [rL_uL, rL_uL]; simp [h]
theorem sp_coveringAll (hW : mW σ n c) (ok : okS n c) (hN : 48 < N) : ∃ τ, f_X8_coveringAll N σ = some τ ∧ mW τ n c ∧ mC τ n c ∧ Fr rgC σ τ := by
  have hn := ok.1
  unfold f_X8_coveringAll
  obtain ⟨τ, e, h1, h2, h3⟩ := up_rel (fun m v τ => L_X8_coveringAll_2 N (fun _ σ_2 => some σ_2) m v τ) (fun _ τ => some τ) (fun j τ => mW τ n c ∧ (∀ i, i < j → rL τ 23 22 0 i = lN (msk (cvr (c i)) 48) ∧ rL τ 23 23 0 i = lN (msk (fun x => cvr (c i) (48 + x)) 48)) ∧ Fr rgC σ τ) n
    (fun m τ h => by
      show L_X8_coveringAll_2 N _ (m + 1) _ _ = _
      rw [L_X8_coveringAll_2_s, h.1.1, ile_t (Nat.le_refl _) (by omega)])
    (fun m j τ hj h => by
      refine ⟨cvS τ j (cvr (c j)), ?_, mW_cv h.1, fun i hi => ?_, Fr_cv h.2.2 (fun _ _ _ z => z)⟩
      · show L_X8_coveringAll_2 N _ (m + 1) _ _ = L_X8_coveringAll_2 N _ m _ _
        rw [L_X8_coveringAll_2_s, h.1.1, ile_f hj (by omega), sp_covering h.1 (ok.2.1 j hj).1 hj hn hN, nI_1]
        rfl
      · by_cases hij : i = j
        · subst hij; exact cv_at
        · have o := cv_off (σ := τ) (P := cvr (c j)) hij
          rw [o.1, o.2]
          exact h.2.1 i (by omega))
    n 0 σ N (by omega) ⟨hW, fun i hi => by omega, Fr.rf⟩ (by omega)
  exact ⟨τ, e, h1, h2, h3⟩
theorem sp_asNow (hN : 22 < N) (hS : mS σ n c) (ok : okS n c) : ∃ τ, f_X8_asNow N σ = some τ ∧ mW τ n c ∧ Fr rgW σ τ := by
  unfold f_X8_asNow
  obtain ⟨τ, e, h1, h2⟩ := up_rel (fun m v τ => L_X8_asNow_2 N (fun v1_1 σ_1 => L_X8_asNow_28 N (fun _ σ_2 => some σ_2) N (0 : Int32) σ_1) m v τ) (fun _ τ => L_X8_asNow_28 N (fun _ σ_2 => some σ_2) N (0 : Int32) τ) (fun j τ => (∀ k, k < j → rI τ 22 21 0 k = rI σ 22 14 0 k) ∧ Fr rgW σ τ) 22
    (fun m τ h => by
      show L_X8_asNow_2 N _ (m + 1) _ _ = _
      rw [L_X8_asNow_2_s, n22, ile_t (Nat.le_refl _) (by decide)])
    (fun m j τ hj h => by
      refine ⟨uI τ 22 21 0 j (rI τ 22 14 0 j), ?_, fun k hk => ?_, h.2.uI ⟨rfl, Or.inr rfl, rfl⟩⟩
      · show L_X8_asNow_2 N _ (m + 1) _ _ = L_X8_asNow_2 N _ m _ _
        rw [L_X8_asNow_2_s, n22, ile_f hj (by decide)]
        simp (disch := omega) only [gi, nI_clamp, nI_1]
      · rw [rI_uI]
        by_cases hkj : k = j
        · subst hkj
          rw [if_pos ⟨rfl, rfl, rfl, rfl⟩]
          exact (h.2 22 14 0 (fun z => absurd z.2.1 (by decide)) k).1
        · rw [if_neg (fun z => hkj z.2.2.2)]
          exact h.1 k (by omega))
    22 0 σ N (by omega) ⟨fun k hk => by omega, Fr.rf⟩ (by omega)
  obtain ⟨υ, e2, h3, h4, h5⟩ := up_rel (fun m v τ => L_X8_asNow_28 N (fun _ σ_2 => some σ_2) m v τ) (fun _ τ => some τ) (fun j υ => (∀ k, k < j → rI υ 22 20 0 k = rI σ 22 11 0 k) ∧ (∀ k, k < 22 → rI υ 22 21 0 k = rI σ 22 14 0 k) ∧ Fr rgW σ υ) 7
    (fun m τ h => by
      show L_X8_asNow_28 N _ (m + 1) _ _ = _
      rw [L_X8_asNow_28_s, n7, ile_t (Nat.le_refl _) (by decide)])
    (fun m j τ hj h => by
      refine ⟨uI τ 22 20 0 j (rI τ 22 11 0 j), ?_, fun k hk => ?_, fun k hk => ?_, h.2.2.uI ⟨rfl, Or.inl rfl, rfl⟩⟩
      · show L_X8_asNow_28 N _ (m + 1) _ _ = L_X8_asNow_28 N _ m _ _
        rw [L_X8_asNow_28_s, n7, ile_f hj (by decide)]
        simp (disch := omega) only [gi, nI_clamp, nI_1]
      · rw [rI_uI]
        by_cases hkj : k = j
        · subst hkj
          rw [if_pos ⟨rfl, rfl, rfl, rfl⟩]
          exact (h.2.2 22 11 0 (fun z => absurd z.2.1 (by decide)) k).1
        · rw [if_neg (fun z => hkj z.2.2.2)]
          exact h.1 k (by omega)
      · rw [rI_uI, if_neg (fun z => absurd z.2.1 (by decide))]
        exact h.2.1 k hk)
    7 0 τ N (by omega) ⟨fun k hk => by omega, h1, h2⟩ (by omega)
  obtain ⟨s0, s1, s2, s3⟩ := hS
  have hn := ok.1
  refine ⟨υ, e.trans e2, ⟨((h5 21 0 0 (fun z => absurd z.1 (by decide)) 10).1).trans s0, fun i hi => ?_, fun i hi => ?_, ?_⟩, h5⟩
  · obtain ⟨a0, a1, a2⟩ := s1 i hi
    exact ⟨(h3 i (by omega)).trans a0, ((h5 22 12 0 (fun z => absurd z.2.1 (by decide)) i).1).trans a1, ((h5 22 13 0 (fun z => absurd z.2.1 (by decide)) i).1).trans a2⟩
  · obtain ⟨a0, a1, a2⟩ := s2 i hi
    have := (ok.2.1 i hi).2.1
    exact ⟨(h4 i (by omega)).trans a0, (h4 (7 + i) (by omega)).trans a1, (h4 (14 + c i 5) (by omega)).trans a2⟩
  · exact (h4 21 (by decide)).trans s3
/-! what is seen -/
theorem m1_sub (x : Int32) : x + (-1 : Int32) = x - 1 := by rw [Int32.sub_eq_add_neg]
theorem has_bit {i : Nat} (hi : i < n) (hn : n ≤ 7) {p : Nat → Bool} : f_X8_has N (nI (msk p n)) (nI i) σ = some (nI (b2n (p i)), σ) := by
  unfold f_X8_has
  rw [I_bitM p (by omega) hi]
  cases p i <;> rfl
/-- those that come first: whose rank is T at least -/
def ab (n : Nat) (c : Scr) (T x : Nat) : Bool := anyb (fun i => (opn c i && decide (T ≤ rk (c i))) && cvr (c i) x) n
def seS (σ : Sg) (i : Nat) (x y : Int64) : Sg := uL (uL σ 23 24 0 i x) 23 25 0 i y
def seI (σ : Sg) (n : Nat) (c : Scr) (T : Nat) (a : Int64 × Int64 × Sg) : Prop :=
  a.1 = lN (msk (ab n c T) 48) ∧ a.2.1 = lN (msk (fun x => ab n c T (48 + x)) 48) ∧ (∀ i, i < n → T ≤ rk (c i) → rL a.2.2 23 24 0 i = lN (msk (vis n c i) 48) ∧ rL a.2.2 23 25 0 i = lN (msk (fun x => vis n c i (48 + x)) 48)) ∧ Fr rgV σ a.2.2
theorem se_at {i : Nat} {x y : Int64} : rL (seS σ i x y) 23 24 0 i = x ∧ rL (seS σ i x y) 23 25 0 i = y := by
  unfold seS
  constructor
  · rw [rL_uL, rL_uL]; simp
  · rw [rL_uL]; simp
theorem se_off {i k : Nat} {x y : Int64} (h : k ≠ i) : rL (seS σ i x y) 23 24 0 k = rL σ 23 24 0 k ∧ rL (seS σ i x y) 23 25 0 k = rL σ 23 25 0 k := by
  unfold seS
  constructor
  · rw [rL_uL, rL_uL]; simp [h]
  · rw [rL_uL, rL_uL]; simp [h]
theorem Fr_se {R : Nat → Nat → Nat → Prop} {τ : Sg} {i : Nat} {x y : Int64} (h : Fr R σ τ) (hr : ∀ a b d, rgV a b d → R a b d) : Fr R σ (seS τ i x y) :=
  (h.uL (hr _ _ _ ⟨rfl, Or.inl rfl, rfl⟩)).uL (hr _ _ _ ⟨rfl, Or.inr rfl, rfl⟩)
theorem ab_same {T T' : Nat} (h : ∀ i, i < n → ((T ≤ rk (c i)) ↔ (T' ≤ rk (c i)))) (x : Nat) : ab n c T x = ab n c T' x := by
  unfold ab
  exact anyb_cong (fun i hi => by rw [decide_eq_decide.mpr (h i hi)])
theorem ab_step {i : Nat} (ok : okS n c) (hi : i < n) (x : Nat) : ab n c (rk (c i)) x = (ab n c (rk (c i) + 1) x || (opn c i && cvr (c i) x)) := by
  rw [Bool.eq_iff_iff, Bool.or_eq_true]
  unfold ab
  rw [anyb_iff, anyb_iff]
  constructor
  · rintro ⟨j, hj, h⟩
    simp only [Bool.and_eq_true, decide_eq_true_eq] at h
    by_cases e : rk (c j) = rk (c i)
    · have := rk_inj ok hj hi e
      subst this
      exact Or.inr (by simp [h.1.1, h.2])
    · exact Or.inl ⟨j, hj, by simp only [Bool.and_eq_true, decide_eq_true_eq]; exact ⟨⟨h.1.1, by omega⟩, h.2⟩⟩
  · rintro (⟨j, hj, h⟩ | h)
    · simp only [Bool.and_eq_true, decide_eq_true_eq] at h
      exact ⟨j, hj, by simp only [Bool.and_eq_true, decide_eq_true_eq]; exact ⟨⟨h.1.1, by omega⟩, h.2⟩⟩
    · simp only [Bool.and_eq_true] at h
      exact ⟨i, hi, by simp only [Bool.and_eq_true, decide_eq_true_eq]; exact ⟨⟨h.1, Nat.le_refl _⟩, h.2⟩⟩
theorem vis_ab {i : Nat} (x : Nat) : vis n c i x = (opn c i && (cvr (c i) x && !ab n c (rk (c i) + 1) x)) := rfl
theorem ord_at {k : Nat} (ok : okS n c) (hk : k < n) : ∃ i, i < n ∧ c i 5 = k := fb_onto (f := fun i => c i 5) (fun i hi => (ok.2.1 i hi).2.1) (fun i j hij hj h => absurd (ok.2.2 i j (by omega) hj h) (by omega)) hk
/-- the step of the inner loop, once for each pane of the round -/
theorem se_take {i T : Nat} {a : Int64 × Int64 × Sg} (ok : okS n c) (hi : i < n) (hC : mC σ n c) (hT : rk (c i) + 1 = T) (h : seI σ n c T a) :
    seI σ n c (rk (c i)) (a.1 ||| (if opn c i then rL a.2.2 23 22 0 i &&& (a.1 ^^^ (-1)) else 0), a.2.1 ||| (if opn c i then rL a.2.2 23 23 0 i &&& (a.2.1 ^^^ (-1)) else 0), seS a.2.2 i (if opn c i then rL a.2.2 23 22 0 i &&& (a.1 ^^^ (-1)) else 0) (if opn c i then rL a.2.2 23 23 0 i &&& (a.2.1 ^^^ (-1)) else 0)) := by
  obtain ⟨h1, h2, h3, h4⟩ := h
  subst hT
  have c1 : rL a.2.2 23 22 0 i = lN (msk (cvr (c i)) 48) := ((h4 23 22 0 (fun z => absurd z.2.1 (by decide)) i).2).trans (hC i hi).1
  have c2 : rL a.2.2 23 23 0 i = lN (msk (fun x => cvr (c i) (48 + x)) 48) := ((h4 23 23 0 (fun z => absurd z.2.1 (by decide)) i).2).trans (hC i hi).2
  have v1 : (if opn c i then rL a.2.2 23 22 0 i &&& (a.1 ^^^ (-1)) else 0) = lN (msk (vis n c i) 48) := by
    rw [c1, h1, L_not]
    cases ho : opn c i with
    | false => exact ((L_zero _).mpr (fun x _ => by rw [vis_ab, ho]; rfl)).symm
    | true => exact L_cong (fun x _ => by rw [vis_ab, ho]; rfl)
  have v2 : (if opn c i then rL a.2.2 23 23 0 i &&& (a.2.1 ^^^ (-1)) else 0) = lN (msk (fun x => vis n c i (48 + x)) 48) := by
    rw [c2, h2, L_not]
    cases ho : opn c i with
    | false => exact ((L_zero _).mpr (fun x _ => by rw [vis_ab, ho]; rfl)).symm
    | true => exact L_cong (fun x _ => by rw [vis_ab, ho]; rfl)
  rw [v1, v2]
  have key : ∀ x, (ab n c (rk (c i) + 1) x || vis n c i x) = ab n c (rk (c i)) x := fun x => by
    rw [ab_step ok hi x, vis_ab]
    cases ab n c (rk (c i) + 1) x <;> cases opn c i <;> cases cvr (c i) x <;> rfl
  refine ⟨?_, ?_, fun j hj hT => ?_, Fr_se h4 (fun _ _ _ z => z)⟩
  · show a.1 ||| _ = _
    rw [h1, L_or]
    exact L_cong (fun x _ => key x)
  · show a.2.1 ||| _ = _
    rw [h2, L_or]
    exact L_cong (fun x _ => key (48 + x))
  · by_cases e : j = i
    · subst e; exact se_at
    · have o := se_off (σ := a.2.2) (x := lN (msk (vis n c i) 48)) (y := lN (msk (fun x => vis n c i (48 + x)) 48)) e
      show rL (seS _ _ _ _) 23 24 0 j = _ ∧ rL (seS _ _ _ _) 23 25 0 j = _
      rw [o.1, o.2]
      refine h3 j hj ?_
      have : rk (c j) ≠ rk (c i) := fun q => e (rk_inj ok hj hi q)
      omega
theorem se_skip {T T' : Nat} {a : Int64 × Int64 × Sg} (hT : ∀ i, i < n → ((T ≤ rk (c i)) ↔ (T' ≤ rk (c i)))) (h : seI σ n c T a) : seI σ n c T' a := by
  obtain ⟨h1, h2, h3, h4⟩ := h
  refine ⟨?_, ?_, fun i hi hr => h3 i hi ((hT i hi).mpr hr), h4⟩
  · rw [h1]; exact L_cong (fun x _ => ab_same hT x)
  · rw [h2]; exact L_cong (fun x _ => ab_same hT (48 + x))
theorem mW.fr {R : Nat → Nat → Nat → Prop} {τ : Sg} (h : Fr R σ τ) (hW : mW σ n c) (h1 : ¬ R 21 0 0) (h2 : ∀ i, ¬ R 22 i 0) : mW τ n c := by
  obtain ⟨s0, s1, s2, s3⟩ := hW
  refine ⟨((h 21 0 0 h1 10).1).trans s0, fun i hi => ?_, fun i hi => ?_, ((h 22 21 0 (h2 21) 21).1).trans s3⟩
  · obtain ⟨a0, a1, a2⟩ := s1 i hi
    exact ⟨((h 22 20 0 (h2 20) i).1).trans a0, ((h 22 12 0 (h2 12) i).1).trans a1, ((h 22 13 0 (h2 13) i).1).trans a2⟩
  · obtain ⟨a0, a1, a2⟩ := s2 i hi
    exact ⟨((h 22 21 0 (h2 21) i).1).trans a0, ((h 22 21 0 (h2 21) (7 + i)).1).trans a1, ((h 22 21 0 (h2 21) (14 + c i 5)).1).trans a2⟩
theorem sp_see21 (hW : mW σ n c) (hC : mC σ n c) (ok : okS n c) (K : Int64 → Int64 → Int32 → Sg → Option Sg) {ρ : Nat} (hρ : ρ < 2) (m : Nat) (hm : 7 < m) (a : Int64 × Int64 × Sg) (hI : seI σ n c (7 * (1 - ρ) + n) a) :
    ∃ b v, L_X8_seeing_21 N K (nI ρ) m a.1 a.2.1 (nI n - 1) a.2.2 = K b.1 b.2.1 v b.2.2 ∧ seI σ n c (7 * (1 - ρ)) b := by
  have hn := ok.1
  refine lp_gen (fun q (s : (Int64 × Int64 × Sg) × Int32) => L_X8_seeing_21 N K (nI ρ) q s.1.1 s.1.2.1 s.2 s.1.2.2) (fun d s => d ≤ n ∧ s.2 = nI d - 1 ∧ seI σ n c (7 * (1 - ρ) + d) s.1) (fun o => ∃ b v, o = K b.1 b.2.1 v b.2.2 ∧ seI σ n c (7 * (1 - ρ)) b) ?_ m n (a, nI n - 1) ⟨Nat.le_refl _, rfl, hI⟩ (by omega)
  rintro q d ⟨b, v⟩ ⟨hd, rfl, hb⟩
  dsimp only
  rw [L_X8_seeing_21_s]
  rcases Nat.eq_zero_or_pos d with h0 | h0
  · right
    subst h0
    refine ⟨b, nI 0 - 1, ?_, hb⟩
    rw [if_pos (by decide)]
  · left
    obtain ⟨k, rfl⟩ : ∃ k, d = k + 1 := ⟨d - 1, by omega⟩
    obtain ⟨i, hi, hk⟩ := ord_at ok (show k < n by omega)
    obtain ⟨w0, w1, w2, w3⟩ := hW.fr hb.2.2.2 (fun z => absurd z.1 (by decide)) (fun _ z => absurd z.1 (by decide))
    have g3 : rI b.2.2 22 21 0 (14 + k) = nI i := by rw [← hk]; exact (w2 i hi).2.2
    have g0 := (w1 i hi).1
    have g21 : rI b.2.2 22 21 0 21 = nI (msk (opn c) n) := w3
    have k0 := (ok.2.1 i hi).1.1
    have hrk : rk (c i) = if c i 0 = 3 then 7 + k else k := by unfold rk; rw [hk]
    have t2 : (if opn c i then rL b.2.2 23 22 0 i &&& (b.1 ^^^ (-1)) else 0) = (if opn c i then rL b.2.2 23 22 0 i &&& (b.1 ^^^ (-1 : Int64)) else 0) := rfl
    have pe : nI (k + 1) - 1 = nI k := nI_pred k
    rw [pe, if_neg (nI_pos (by omega))]
    simp (disch := omega) only [n14, nI_add, gi, nI_clamp, g3, g0, gi21, cl21, g21, has_bit hi hn, Option.bind_some, b2n_z, m1_sub]
    by_cases ht : (c i 0 = 3) ↔ ρ = 0
    · -- of this round
      refine ⟨((b.1 ||| (if opn c i then rL b.2.2 23 22 0 i &&& (b.1 ^^^ (-1)) else 0), b.2.1 ||| (if opn c i then rL b.2.2 23 23 0 i &&& (b.2.1 ^^^ (-1)) else 0), seS b.2.2 i (if opn c i then rL b.2.2 23 22 0 i &&& (b.1 ^^^ (-1)) else 0) (if opn c i then rL b.2.2 23 23 0 i &&& (b.2.1 ^^^ (-1)) else 0)), nI k - 1), k, by omega, ?_, by omega, rfl, ?_⟩
      · by_cases h3 : c i 0 = 3
        · have hr0 : ρ = 0 := ht.mp h3
          subst hr0
          rw [n3, ieq_t h3, iz_t rfl]
          cases ho : opn c i <;> simp [rL_uL, seS]
        · have hr1 : ρ = 1 := by
            have : ¬ ρ = 0 := fun z => h3 (ht.mpr z)
            omega
          subst hr1
          rw [n3, ieq_f h3 (by omega) (by decide), iz_f (by decide) (by decide)]
          cases ho : opn c i <;> simp [rL_uL, seS]
      · have e : 7 * (1 - ρ) + k = rk (c i) := by
          rw [hrk]
          by_cases h3 : c i 0 = 3
          · rw [if_pos h3, ht.mp h3]
          · rw [if_neg h3]
            have : ¬ ρ = 0 := fun z => h3 (ht.mpr z)
            have : ρ = 1 := by omega
            subst this; omega
        rw [e]
        exact se_take ok hi hC (by omega) hb
    · refine ⟨(b, nI k - 1), k, by omega, ?_, by omega, rfl, ?_⟩
      · by_cases h3 : c i 0 = 3
        · have hr0 : ρ ≠ 0 := fun z => ht ⟨fun _ => z, fun _ => h3⟩
          rw [n3, ieq_t h3, iz_f hr0 (by omega)]
        · have hr0 : ρ = 0 := by
            rcases Nat.eq_zero_or_pos ρ with z | z
            · exact z
            · exact absurd ⟨fun y => absurd y h3, fun y => by omega⟩ ht
          subst hr0
          rw [n3, ieq_f h3 (by omega) (by decide), iz_t rfl]
      · refine se_skip (fun j hj => ?_) hb
        have hjn := (ok.2.1 j hj).2.1
        constructor
        · intro h; omega
        · intro h
          by_cases e : rk (c j) = 7 * (1 - ρ) + k
          · exfalso
            unfold rk at e
            by_cases h3 : c j 0 = 3
            · rw [if_pos h3] at e
              have hr0 : ρ = 0 := by
                rcases Nat.eq_zero_or_pos ρ with z | z
                · exact z
                · have : ρ = 1 := by omega
                  subst this; omega
              subst hr0
              have : j = i := ok.2.2 j i hj hi (by omega)
              subst this
              exact ht ⟨fun _ => rfl, fun _ => h3⟩
            · rw [if_neg h3] at e
              have hr1 : ρ = 1 := by
                rcases Nat.eq_zero_or_pos ρ with z | z
                · subst z; omega
                · omega
              subst hr1
              have : j = i := ok.2.2 j i hj hi (by omega)
              subst this
              exact ht ⟨fun z => absurd z h3, fun z => absurd z (by decide)⟩
          · omega
theorem sp_seeing (hW : mW σ n c) (hC : mC σ n c) (ok : okS n c) (hN : 7 < N) : ∃ τ, f_X8_seeing N σ = some τ ∧ mV τ n c ∧ Fr rgV σ τ := by
  have hn := ok.1
  unfold f_X8_seeing
  obtain ⟨q, rfl⟩ : ∃ q, N = q + 3 := ⟨N - 3, by omega⟩
  have e0 : ∀ x, ab n c (7 + n) x = false := fun x => by
    unfold ab
    cases h : anyb (fun i => (opn c i && decide (7 + n ≤ rk (c i))) && cvr (c i) x) n with
    | false => rfl
    | true =>
      obtain ⟨i, hi, hb⟩ := anyb_iff.mp h
      simp only [Bool.and_eq_true, decide_eq_true_eq] at hb
      have := (ok.2.1 i hi).2.1
      have hr := hb.1.2
      unfold rk at hr
      split at hr <;> omega
  have i0 : seI σ n c (7 * (1 - 0) + n) ((0 : Int64), (0 : Int64), σ) :=
    ⟨((L_zero _).mpr (fun x _ => e0 x)).symm, ((L_zero _).mpr (fun x _ => e0 (48 + x))).symm, fun i hi hr => by
      have := (ok.2.1 i hi).2.1
      unfold rk at hr
      split at hr <;> omega, Fr.rf⟩
  rw [L_X8_seeing_7_s, n2, n0, ile_f (by decide) (by decide), hW.1]
  obtain ⟨b, v, e1, h1⟩ := sp_see21 (N := q + 3) hW hC ok (fun v1_3 v3_3 _ σ_3 => L_X8_seeing_7 (q + 3) (fun _ _ _ σ_4 => some σ_4) (q + 2) v1_3 v3_3 (nI 0 + 1) σ_3) (ρ := 0) (by decide) (q + 3) (by omega) _ i0
  rw [n1] at e1
  refine Exists.imp ?_ (?_ : ∃ τ, L_X8_seeing_7 (q + 3) (fun _ _ _ σ_4 => some σ_4) (q + 2) b.1 b.2.1 (nI 1) b.2.2 = some τ ∧ mV τ n c ∧ Fr rgV σ τ)
  · intro τ h
    exact ⟨(by rw [← h.1]; exact e1), h.2⟩
  rw [L_X8_seeing_7_s, n2, ile_f (by decide) (by decide), ((h1.2.2.2 21 0 0 (fun z => absurd z.1 (by decide)) 10).1).trans hW.1]
  have i1 : seI σ n c (7 * (1 - 1) + n) b := se_skip (fun i hi => by
    have := (ok.2.1 i hi).2.1
    unfold rk
    split <;> omega) h1
  obtain ⟨b2, v2, e2, h2⟩ := sp_see21 (N := q + 3) hW hC ok (fun v1_3 v3_3 _ σ_3 => L_X8_seeing_7 (q + 3) (fun _ _ _ σ_4 => some σ_4) (q + 1) v1_3 v3_3 (nI 1 + 1) σ_3) (ρ := 1) (by decide) (q + 3) (by omega) _ i1
  refine ⟨b2.2.2, ?_, fun i hi => h2.2.2.1 i hi (by omega), h2.2.2.2⟩
  refine Eq.trans e2 ?_
  rw [L_X8_seeing_7_s, nI_1, n2, ile_t (Nat.le_refl _) (by decide)]
end Mod
