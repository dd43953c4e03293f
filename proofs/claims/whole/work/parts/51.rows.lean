/-! a call of the class, then the same of the reference -/
def StepI (A B : Sg → Option (Int32 × Sg)) : Prop := ∀ σ, Inv σ → ∃ a σ1 σ2, A σ = some (a, σ1) ∧ B σ1 = some (a, σ2) ∧ Inv σ2
def StepL (A B : Sg → Option (Int64 × Sg)) : Prop := ∀ σ, Inv σ → ∃ a σ1 σ2, A σ = some (a, σ1) ∧ B σ1 = some (a, σ2) ∧ Inv σ2
theorem in_nI {p : Int32} {n : Nat} (h : 0 ≤ p.toInt ∧ p.toInt < n) (hn : n < 2147483648) : ∃ r, r < n ∧ p = nI r := vp_in_of (vp_in_iff.mpr h) hn
theorem m1_toInt : ((-1 : Int32).toInt) = -1 := by decide
theorem nI_ne_m1 {m : Nat} (h : m < 2147483648) : ¬ nI m = (-1 : Int32) := fun e => by
  rw [fa_eq, nI_toInt h, m1_toInt] at e
  omega
def th0 (σ : Sg) : Sg := uI σ 21 0 0 0 (0 : Int32)
theorem th0_fr {σ : Sg} : Fq scR σ (th0 σ) := Fq.rf.uI (Or.inr (Or.inr (Or.inl ⟨rfl, Or.inl rfl⟩)))
theorem Inv_th0 {σ : Sg} (h : Inv σ) : Inv (th0 σ) := Inv_sc h th0_fr
theorem th0_rI {σ : Sg} {t i j k : Nat} (h : ¬ (t = 21 ∧ k = 0)) : rI (th0 σ) t i j k = rI σ t i j k := by
  unfold th0
  rw [rI_uI, if_neg (fun z => h ⟨z.1, z.2.2.2⟩)]
theorem th0_rL {σ : Sg} {t i j k : Nat} : rL (th0 σ) t i j k = rL σ t i j k := rfl
/-! findings -/
def fdS (σ : Sg) (f : Nat) : Sg := uI (uI σ 0 0 0 11 (nI f)) 20 0 0 f (rI σ 20 0 0 f + 1)
def fdM (σ : Sg) (f : Nat) : Sg := uI (uI σ 21 0 0 4 (nI f)) 22 5 0 f (rI σ 22 5 0 f + 1)
theorem sp_found7 {N f : Nat} {σ : Sg} (hf : f < 6) : f_X7_found N (nI f) σ = some (-3, fdS σ f) := by
  unfold f_X7_found fdS
  simp (disch := omega) only [gi, nI_clamp]
  rw [rI_uI, if_neg (by simp)]
theorem sp_found8 {N f : Nat} {σ : Sg} (hf : f < 6) : f_X8_found N (nI f) σ = some (-3, fdM σ f) := by
  unfold f_X8_found fdM
  simp (disch := omega) only [gi, nI_clamp]
  rw [rI_uI, if_neg (by simp)]
theorem Inv_found {σ : Sg} (h : Inv σ) {f : Nat} (hf : f < 6) : Inv (fdM (th0 (fdS σ f)) f) := by
  refine Inv_find h ?_ ?_
  · unfold fdM th0 fdS
    refine Fq.uI (Fq.uI (Fq.uI (Fq.uI (Fq.uI Fq.rf ?_) ?_) ?_) ?_) ?_ <;> simp [fdR, scR, fFind]
  · obtain ⟨-, -, -, -, h5, -⟩ := h
    unfold fdM th0 fdS
    refine ⟨by simp [rI_uI], fun g hg => ?_⟩
    have := h5.2 g hg
    by_cases e : g = f
    · subst e
      simp [rI_uI, this]
    · simp [rI_uI, this, e]
theorem fdS_rI {σ : Sg} {f t i j k : Nat} (h : ¬ (t = 0 ∨ t = 20)) : rI (fdS σ f) t i j k = rI σ t i j k := by
  unfold fdS
  rw [rI_uI, if_neg (fun z => h (Or.inr z.1)), rI_uI, if_neg (fun z => h (Or.inl z.1))]
section Rows
variable {N : Nat} {σ : Sg}
theorem sp_isRow7 (p : Int32) : f_X7_isRow N p σ = some (nI (b2n (decide (0 ≤ p.toInt ∧ p.toInt < (6 : Nat)))), σ) := by
  unfold f_X7_isRow
  have e1 : (p < 0) ↔ p.toInt < 0 := fa_lt p 0
  have e2 : ((6 : Int32) ≤ p) ↔ 6 ≤ p.toInt := fa_le 6 p
  simp only [e1, e2]
  by_cases a1 : p.toInt < 0
  · rw [if_pos a1, decide_eq_false (by omega)]; rfl
  · by_cases a2 : 6 ≤ p.toInt
    · rw [if_neg a1, if_pos a2, decide_eq_false (by omega)]; rfl
    · rw [if_neg a1, if_neg a2, decide_eq_true (by omega)]; rfl
theorem sp_isText7 (p : Int32) : f_X7_isText N p σ = some (nI (b2n (decide (0 ≤ p.toInt ∧ p.toInt < (4 : Nat)))), σ) := by
  unfold f_X7_isText
  have e1 : (p < 0) ↔ p.toInt < 0 := fa_lt p 0
  have e2 : ((4 : Int32) ≤ p) ↔ 4 ≤ p.toInt := fa_le 4 p
  simp only [e1, e2]
  by_cases a1 : p.toInt < 0
  · rw [if_pos a1, decide_eq_false (by omega)]; rfl
  · by_cases a2 : 4 ≤ p.toInt
    · rw [if_neg a1, if_pos a2, decide_eq_false (by omega)]; rfl
    · rw [if_neg a1, if_neg a2, decide_eq_true (by omega)]; rfl
theorem in_le (p : Int32) {m : Nat} (lo hi : Int32) (h0 : lo.toInt = 0) (h1 : hi.toInt = (m : Int) - 1) : decide (lo.toInt ≤ p.toInt ∧ p.toInt ≤ hi.toInt) = decide (0 ≤ p.toInt ∧ p.toInt < (m : Nat)) := by
  rw [decide_eq_decide, h0, h1]
  omega
theorem sp_isRow8 (p : Int32) : f_X8_isRow N p σ = some (nI (b2n (decide (0 ≤ p.toInt ∧ p.toInt < (6 : Nat)))), σ) := by
  unfold f_X8_isRow
  rw [sp_in, in_le p (m := 6) _ _ (by decide) (by decide)]
  rfl
theorem sp_isText8 (p : Int32) : f_X8_isText N p σ = some (nI (b2n (decide (0 ≤ p.toInt ∧ p.toInt < (4 : Nat)))), σ) := by
  unfold f_X8_isText
  rw [sp_in, in_le p (m := 4) _ _ (by decide) (by decide)]
  rfl
theorem sub1_toInt {m : Nat} (hm : m < 1073741824) : (nI m - 1).toInt = (m : Int) - 1 := by
  rw [n1, pk_sub_toInt hm (by decide)]
  rfl
theorem rp_cases (hI : iRow σ) (p0 p1 : Int32) :
    (f_X7_refusalOfPlace N p0 p1 σ = some (-1, σ) ∧ ∀ τ, (∀ r, r < 6 → rI τ 22 7 0 r = rI σ 22 7 0 r) → f_X8_against N p0 p1 τ = some (-1, τ)) ∨
    (∃ f, f < 6 ∧ f_X7_refusalOfPlace N p0 p1 σ = some (-3, fdS σ f) ∧ ∀ τ, (∀ r, r < 6 → rI τ 22 7 0 r = rI σ 22 7 0 r) → f_X8_against N p0 p1 τ = some (-3, fdM τ f)) ∨
    (∃ r i m, r < 6 ∧ i < m ∧ m ≤ 40 ∧ p0 = nI r ∧ p1 = nI i ∧ rI σ 2 r 0 1 = nI m ∧ rI σ 22 7 0 r = nI m ∧ (∀ k, k < m → rI σ 3 r 0 k = rI σ 22 6 0 (40 * r + k)) ∧ f_X7_refusalOfPlace N p0 p1 σ = some (0, σ) ∧ ∀ τ, (∀ r, r < 6 → rI τ 22 7 0 r = rI σ 22 7 0 r) → f_X8_against N p0 p1 τ = some (0, τ)) := by
  by_cases hr : 0 ≤ p0.toInt ∧ p0.toInt < (6 : Nat)
  · right
    obtain ⟨r, hr6, rfl⟩ := in_nI hr (by decide)
    have e7 : ∀ x y : Option (Int32 × Sg), (if nI (b2n (decide (0 ≤ (nI r).toInt ∧ (nI r).toInt < (6 : Nat)))) = 0 then x else y) = y := fun x y => by rw [b2n_z, decide_eq_true hr, if_pos rfl]
    rcases hI r hr6 with ⟨a, b⟩ | ⟨m, hm, a, b, d⟩
    · left
      refine ⟨1, by decide, ?_, fun τ hτ => ?_⟩
      · unfold f_X7_refusalOfPlace
        rw [sp_isRow7, Option.bind_some, e7, gi hr6 (by decide), nI_clamp (by omega)]
        simp only [a, if_true]
        rw [n1, sp_found7 (by decide)]; rfl
      · unfold f_X8_against
        rw [sp_isRow8, Option.bind_some, e7, gi hr6 (by decide), nI_clamp (by omega)]
        simp only [hτ r hr6, b]
        rw [if_neg (by decide), n1, sp_found8 (by decide)]; rfl
    · have hsub := sub1_toInt (show m < 1073741824 by omega)
      have cls : f_X7_refusalOfPlace N (nI r) p1 σ = if 0 ≤ p1.toInt ∧ p1.toInt < (m : Nat) then some (0, σ) else some (-3, fdS σ 2) := by
        unfold f_X7_refusalOfPlace
        rw [sp_isRow7, Option.bind_some, e7]
        simp (disch := omega) only [gi, nI_clamp, a]
        rw [if_neg (nI_ne_m1 (by omega))]
        unfold f_X3_hasPlaces
        rw [a]
        have e1 : (p1 < 0) ↔ p1.toInt < 0 := fa_lt p1 0
        have e2 : (nI m - 1 < p1) ↔ (m : Int) - 1 < p1.toInt := by rw [fa_lt, hsub]
        simp only [e1, e2]
        by_cases a1 : p1.toInt < 0
        · rw [if_pos a1, if_neg (by omega), Option.bind_some, if_pos rfl, n2, sp_found7 (by decide)]; rfl
        · by_cases a2 : (m : Int) - 1 < p1.toInt
          · rw [if_neg a1, if_pos a2, if_neg (by omega), Option.bind_some, if_pos rfl, n2, sp_found7 (by decide)]; rfl
          · rw [if_neg a1, if_neg a2, if_pos (by omega), Option.bind_some, if_neg (show ¬ (1 : Int32) = 0 by decide)]
      have mod : ∀ τ, (∀ r, r < 6 → rI τ 22 7 0 r = rI σ 22 7 0 r) → f_X8_against N (nI r) p1 τ = if 0 ≤ p1.toInt ∧ p1.toInt < (m : Nat) then some (0, τ) else some (-3, fdM τ 2) := by
        intro τ hτ
        unfold f_X8_against
        rw [sp_isRow8, Option.bind_some, e7]
        simp (disch := omega) only [gi, nI_clamp, hτ r hr6, b]
        rw [if_pos (nI_pos' (by omega)), sp_in, in_le p1 (m := m) _ _ (by decide) hsub, Option.bind_some, b2n_z]
        by_cases a1 : 0 ≤ p1.toInt ∧ p1.toInt < (m : Nat)
        · rw [decide_eq_true a1, if_pos rfl, if_pos a1]
        · rw [decide_eq_false a1, if_neg a1, if_neg (by decide), n2, sp_found8 (by decide)]; rfl
      by_cases a1 : 0 ≤ p1.toInt ∧ p1.toInt < (m : Nat)
      · right
        obtain ⟨i, hi, rfl⟩ := in_nI a1 (by omega)
        exact ⟨r, i, m, hr6, hi, hm, rfl, rfl, a, b, d, by rw [cls, if_pos a1], fun τ hτ => by rw [mod τ hτ, if_pos a1]⟩
      · left
        exact ⟨2, by decide, by rw [cls, if_neg a1], fun τ hτ => by rw [mod τ hτ, if_neg a1]⟩
  · left
    refine ⟨?_, fun τ _ => ?_⟩
    · unfold f_X7_refusalOfPlace
      rw [sp_isRow7, Option.bind_some, b2n_z, decide_eq_false hr, if_neg (by decide)]
    · unfold f_X8_against
      rw [sp_isRow8, Option.bind_some, b2n_z, decide_eq_false hr, if_neg (by decide)]
theorem rowOK_fr {R : Nat → Nat → Nat → Nat → Prop} {τ : Sg} {r : Nat} (h : Fq R σ τ) (hi : rowOK σ r) (h2 : ¬ R 2 r 0 1) (h3 : ∀ k, k < 40 → ¬ R 3 r 0 k) (h7 : ¬ R 22 7 0 r) (h6 : ∀ k, k < 40 → ¬ R 22 6 0 (40 * r + k)) : rowOK τ r := by
  rcases hi with ⟨a, b⟩ | ⟨m, hm, a, b, d⟩
  · exact Or.inl ⟨((h _ _ _ _ h2).1).trans a, ((h _ _ _ _ h7).1).trans b⟩
  · exact Or.inr ⟨m, hm, ((h _ _ _ _ h2).1).trans a, ((h _ _ _ _ h7).1).trans b, fun k hk => ((h _ _ _ _ (h3 k (by omega))).1).trans ((d k hk).trans ((h _ _ _ _ (h6 k (by omega))).1).symm)⟩
/-- the places of row r on both sides -/
def rgR (r : Nat) (t i j k : Nat) : Prop := scR t i j k ∨ fTold t i j k ∨ ((t = 2 ∨ t = 3) ∧ i = r) ∨ (t = 22 ∧ i = 7 ∧ k = r) ∨ (t = 22 ∧ i = 6 ∧ 40 * r ≤ k ∧ k < 40 * r + 40)
theorem Inv_row1 {τ : Sg} {r : Nat} (hI : Inv σ) (h : Fq (rgR r) σ τ) (hr : r < 6) (e : rowOK τ r) (e2 : iTold τ) : Inv τ := by
  refine Inv_row hI (h.mono (fun t i j k z => ?_)) (fun q hq => ?_) e2
  · rcases z with z | z | z | z | z
    · exact Or.inl z
    · exact Or.inr (Or.inr z)
    · exact Or.inr (Or.inl (by unfold fRow; omega))
    · exact Or.inr (Or.inl (by unfold fRow; omega))
    · exact Or.inr (Or.inl (by unfold fRow; omega))
  · by_cases eq : q = r
    · rw [eq]; exact e
    · refine rowOK_fr h (hI.1 q hq) ?_ (fun k hk => ?_) ?_ (fun k hk => ?_) <;> simp only [rgR, scR, fTold] <;> omega
theorem st_at (p0 p1 : Int32) : StepI (f_X7_at N p0 p1) (f_X8_at N p0 p1) := by
  intro σ hI
  rcases rp_cases (N := N) hI.1 p0 p1 with ⟨e1, e2⟩ | ⟨f, hf, e1, e2⟩ | ⟨r, i, m, hr, hi, hm, rfl, rfl, a, b, d, e1, e2⟩
  · refine ⟨-1, σ, th0 σ, ?_, ?_, Inv_th0 hI⟩
    · unfold f_X7_at; rw [e1]; rfl
    · unfold f_X8_at; rw [show uI σ 21 0 0 0 (0 : Int32) = th0 σ from rfl, e2 _ (fun r _ => th0_rI (by omega))]; rfl
  · refine ⟨-3, fdS σ f, fdM (th0 (fdS σ f)) f, ?_, ?_, Inv_found hI hf⟩
    · unfold f_X7_at; rw [e1]; rfl
    · unfold f_X8_at; rw [show uI (fdS σ f) 21 0 0 0 (0 : Int32) = th0 (fdS σ f) from rfl, e2 _ (fun r _ => by rw [th0_rI (by omega), fdS_rI (by omega)])]; rfl
  · refine ⟨1, uI σ 0 0 0 12 (rI σ 3 r 0 i), uI (th0 (uI σ 0 0 0 12 (rI σ 3 r 0 i))) 21 0 0 1 (rI σ 22 6 0 (40 * r + i)), ?_, ?_, ?_⟩
    · unfold f_X7_at; rw [e1, Option.bind_some, if_pos rfl]
      simp (disch := omega) only [gi, nI_clamp]
    · unfold f_X8_at
      rw [show uI (uI σ 0 0 0 12 (rI σ 3 r 0 i)) 21 0 0 0 (0 : Int32) = th0 (uI σ 0 0 0 12 (rI σ 3 r 0 i)) from rfl, e2 _ (fun r _ => by rw [th0_rI (by omega), rI_uI, if_neg (by simp)]), Option.bind_some, if_pos rfl, n40, pk_mul, nI_add, gi (by omega) (by decide), nI_clamp (by omega)]
      unfold f_X8_tells
      rw [th0_rI (by omega), rI_uI, if_neg (by simp)]; rfl
    · refine Inv_tell hI ?_ ?_
      · unfold th0
        refine Fq.uI (Fq.uI (Fq.uI Fq.rf ?_) ?_) ?_ <;> simp [tlR, scR, fTold]
      · unfold iTold th0
        rw [← d i hi]
        simp [rI_uI]
theorem st_lay (p0 p1 p2 : Int32) : StepI (f_X7_lay N p0 p1 p2) (f_X8_lay N p0 p1 p2) := by
  intro σ hI
  rcases rp_cases (N := N) hI.1 p0 p1 with ⟨e1, e2⟩ | ⟨f, hf, e1, e2⟩ | ⟨r, i, m, hr, hi, hm, rfl, rfl, a, b, d, e1, e2⟩
  · refine ⟨-1, σ, th0 σ, ?_, ?_, Inv_th0 hI⟩
    · unfold f_X7_lay; rw [e1]; rfl
    · unfold f_X8_lay; rw [show uI σ 21 0 0 0 (0 : Int32) = th0 σ from rfl, e2 _ (fun r _ => th0_rI (by omega))]; rfl
  · refine ⟨-3, fdS σ f, fdM (th0 (fdS σ f)) f, ?_, ?_, Inv_found hI hf⟩
    · unfold f_X7_lay; rw [e1]; rfl
    · unfold f_X8_lay; rw [show uI (fdS σ f) 21 0 0 0 (0 : Int32) = th0 (fdS σ f) from rfl, e2 _ (fun r _ => by rw [th0_rI (by omega), fdS_rI (by omega)])]; rfl
  · refine ⟨1, uI (uI σ 0 0 0 12 (rI σ 3 r 0 i)) 3 r 0 i p2, uI (uI (th0 (uI (uI σ 0 0 0 12 (rI σ 3 r 0 i)) 3 r 0 i p2)) 22 6 0 (40 * r + i) p2) 21 0 0 1 (rI σ 22 6 0 (40 * r + i)), ?_, ?_, ?_⟩
    · unfold f_X7_lay; rw [e1, Option.bind_some, if_pos rfl]
      simp (disch := omega) only [gi, nI_clamp]
    · unfold f_X8_lay
      rw [show uI (uI (uI σ 0 0 0 12 (rI σ 3 r 0 i)) 3 r 0 i p2) 21 0 0 0 (0 : Int32) = th0 (uI (uI σ 0 0 0 12 (rI σ 3 r 0 i)) 3 r 0 i p2) from rfl, e2 _ (fun r _ => by rw [th0_rI (by omega), rI_uI, if_neg (by simp), rI_uI, if_neg (by simp)]), Option.bind_some, if_pos rfl, n40, pk_mul, nI_add, gi (by omega) (by decide), gi (by omega) (by decide), nI_clamp (by omega)]
      unfold f_X8_tells
      rw [th0_rI (by omega), rI_uI, if_neg (by simp), rI_uI, if_neg (by simp)]; rfl
    · refine Inv_row1 (r := r) hI ?_ hr ?_ ?_
      · unfold th0
        refine Fq.uI (Fq.uI (Fq.uI (Fq.uI (Fq.uI Fq.rf ?_) ?_) ?_) ?_) ?_ <;> simp [rgR, scR, fTold] <;> omega
      · refine Or.inr ⟨m, hm, ?_, ?_, fun k hk => ?_⟩
        · unfold th0; simp [rI_uI, a]
        · unfold th0; simp [rI_uI, b]
        · unfold th0
          by_cases e : k = i
          · subst e; simp [rI_uI]
          · have e' : ¬ (40 * r + k = 40 * r + i) := by omega
            simp [rI_uI, e]
            exact d k hk
      · unfold iTold th0
        rw [← d i hi]
        simp [rI_uI]
theorem st_tear (p0 : Int32) : StepI (f_X7_tear N p0) (f_X8_tear N p0) := by
  intro σ hI
  by_cases hr : 0 ≤ p0.toInt ∧ p0.toInt < (6 : Nat)
  · obtain ⟨r, hr6, rfl⟩ := in_nI hr (by decide)
    rcases hI.1 r hr6 with ⟨a, b⟩ | ⟨m, hm, a, b, d⟩
    · refine ⟨-3, fdS σ 1, fdM (th0 (fdS σ 1)) 1, ?_, ?_, Inv_found hI (by decide)⟩
      · unfold f_X7_tear
        rw [sp_isRow7, Option.bind_some, b2n_z, decide_eq_true hr, if_pos rfl, gi hr6 (by decide), nI_clamp (by omega)]
        simp only [a, if_true]
        rw [n1, sp_found7 (by decide)]; rfl
      · unfold f_X8_tear
        rw [show uI (fdS σ 1) 21 0 0 0 (0 : Int32) = th0 (fdS σ 1) from rfl, sp_isRow8, Option.bind_some, b2n_z, decide_eq_true hr, if_pos rfl, gi hr6 (by decide), nI_clamp (by omega)]
        simp only [th0_rI (show ¬ ((22 : Nat) = 21 ∧ r = 0) by omega), fdS_rI (show ¬ ((22 : Nat) = 0 ∨ (22 : Nat) = 20) by omega), b]
        rw [if_neg (by decide), n1, sp_found8 (by decide)]; rfl
    · refine ⟨1, uI σ 2 r 0 1 (-1), uI (th0 (uI σ 2 r 0 1 (-1))) 22 7 0 r (-1), ?_, ?_, ?_⟩
      · unfold f_X7_tear
        rw [sp_isRow7, Option.bind_some, b2n_z, decide_eq_true hr, if_pos rfl]
        simp (disch := omega) only [gi, nI_clamp, a]
        rw [if_neg (nI_ne_m1 (by omega))]
      · unfold f_X8_tear
        rw [show uI (uI σ 2 r 0 1 (-1)) 21 0 0 0 (0 : Int32) = th0 (uI σ 2 r 0 1 (-1)) from rfl, sp_isRow8, Option.bind_some, b2n_z, decide_eq_true hr, if_pos rfl]
        have b' : rI (th0 (uI σ 2 r 0 1 (-1))) 22 7 0 r = nI m := by rw [th0_rI (by omega), rI_uI, if_neg (by simp)]; exact b
        simp (disch := omega) only [gi, nI_clamp, b']
        rw [if_pos (nI_pos' (by omega))]
      · refine Inv_row1 (r := r) hI ?_ hr6 ?_ ?_
        · unfold th0
          refine Fq.uI (Fq.uI (Fq.uI Fq.rf ?_) ?_) ?_ <;> simp [rgR, scR, fTold]
        · exact Or.inl ⟨by unfold th0; simp [rI_uI], by simp [rI_uI]⟩
        · have := hI.2.2.1
          unfold iTold th0 at *
          simp [rI_uI, this]
  · refine ⟨-1, σ, th0 σ, ?_, ?_, Inv_th0 hI⟩
    · unfold f_X7_tear; rw [sp_isRow7, Option.bind_some, b2n_z, decide_eq_false hr]; rfl
    · unfold f_X8_tear; rw [show uI σ 21 0 0 0 (0 : Int32) = th0 σ from rfl, sp_isRow8, Option.bind_some, b2n_z, decide_eq_false hr]; rfl
theorem sp_fill {t i j an : Nat} {v : Int32} (ha : an < 2147483648) (hN : an < N) : ∃ τ, f_J7_fill_53178 N t i j an v σ = some τ ∧ (∀ k, k < an → rI τ t i j k = v) ∧ Fq (fun a b c d => a = t ∧ b = i ∧ c = j ∧ d < an) σ τ := by
  unfold f_J7_fill_53178
  obtain ⟨τ, e, h1, h2⟩ := up_rel (fun m w τ => L_J7_fill_53178_5 N (fun _ σ_1 => some σ_1) t i j an v (Int32.ofNat an) m w τ) (fun _ τ => some τ) (fun q τ => (∀ k, k < q → rI τ t i j k = v) ∧ Fq (fun a b c d => a = t ∧ b = i ∧ c = j ∧ d < an) σ τ) an
    (fun m τ h => by
      show L_J7_fill_53178_5 N _ t i j an v (nI an) (m + 1) _ _ = _
      rw [L_J7_fill_53178_5_s, ile_t (Nat.le_refl _) ha])
    (fun m q τ hq h => by
      refine ⟨uI τ t i j q v, ?_, fun k hk => ?_, h.2.uI ⟨rfl, rfl, rfl, hq⟩⟩
      · show L_J7_fill_53178_5 N _ t i j an v (nI an) (m + 1) _ _ = L_J7_fill_53178_5 N _ t i j an v (nI an) m _ _
        rw [L_J7_fill_53178_5_s, ile_f hq ha, gi hq ha, nI_clamp (by omega), nI_1]
      · rw [rI_uI]
        by_cases e : k = q
        · rw [if_pos ⟨rfl, rfl, rfl, e⟩]
        · rw [if_neg (fun z => e z.2.2.2)]; exact h.1 k (by omega))
    an 0 σ N (by omega) ⟨fun k hk => by omega, Fq.rf⟩ (by omega)
  exact ⟨τ, e, h1, h2⟩
theorem st_row (p0 p1 : Int32) (hN : 100 < N) : StepI (f_X7_row N p0 p1) (f_X8_row N p0 p1) := by
  intro σ hI
  have th : ∀ τ : Sg, uI τ 21 0 0 0 (0 : Int32) = th0 τ := fun _ => rfl
  by_cases hr : 0 ≤ p0.toInt ∧ p0.toInt < (6 : Nat)
  · obtain ⟨r, hr6, rfl⟩ := in_nI hr (by decide)
    by_cases h40 : p1 ≤ (40 : Int32)
    · by_cases h0 : (0 : Int32) ≤ p1
      · have hp : 0 ≤ p1.toInt ∧ p1.toInt < (41 : Nat) := by
          have a1 := (fa_le 0 p1).mp h0
          have a2 := (fa_le p1 40).mp h40
          have z0 : (0 : Int32).toInt = 0 := by decide
          have z40 : (40 : Int32).toInt = 40 := by decide
          omega
        obtain ⟨m, hm, rfl⟩ := in_nI hp (by decide)
        obtain ⟨τ, e, h1, h2⟩ := sp_fill (N := N) (σ := σ) (t := 3) (i := r) (j := 0) (an := 40) (v := 0) (by decide) (by omega)
        obtain ⟨υ, e2, h3, h4⟩ := up_rel (fun q w τ => L_X8_row_39 N (fun _ σ_2 => some (nI m, σ_2)) (nI r) (nI m) q w τ) (fun _ τ => some (nI m, τ)) (fun q υ => (∀ k, k < q → rI υ 22 6 0 (40 * r + k) = 0) ∧ Fq (fun a b c d => a = 22 ∧ b = 6 ∧ 40 * r ≤ d ∧ d < 40 * r + 40) (uI (th0 (uI τ 2 r 0 1 (nI m))) 22 7 0 r (nI m)) υ) m
          (fun q υ h => by
            show L_X8_row_39 N _ (nI r) (nI m) (q + 1) _ _ = _
            rw [L_X8_row_39_s, ile_t (Nat.le_refl _) (by omega)])
          (fun q k υ hk h => by
            refine ⟨uI υ 22 6 0 (40 * r + k) 0, ?_, fun l hl => ?_, h.2.uI ⟨rfl, rfl, by omega, by omega⟩⟩
            · show L_X8_row_39 N _ (nI r) (nI m) (q + 1) _ _ = L_X8_row_39 N _ (nI r) (nI m) q _ _
              rw [L_X8_row_39_s, ile_f hk (by omega), n40, pk_mul, nI_add, gi (by omega) (by decide), nI_clamp (by omega), nI_1]
            · rw [rI_uI]
              by_cases e : l = k
              · rw [e, if_pos ⟨rfl, rfl, rfl, rfl⟩]
              · rw [if_neg (fun z => e (by omega))]; exact h.1 l (by omega))
          m 0 (uI (th0 (uI τ 2 r 0 1 (nI m))) 22 7 0 r (nI m)) N (by omega) ⟨fun k hk => by omega, Fq.rf⟩ (by omega)
        refine ⟨nI m, uI τ 2 r 0 1 (nI m), υ, ?_, ?_, ?_⟩
        · unfold f_X7_row f_X3_renew
          rw [sp_isRow7, Option.bind_some, b2n_z, decide_eq_true hr, if_pos rfl, if_pos h40, if_pos h0, gi hr6 (by decide), nI_clamp (by omega)]
          simp only [e, Option.bind_some]
        · unfold f_X8_row
          rw [th, sp_isRow8, Option.bind_some, b2n_z, decide_eq_true hr, if_pos rfl, if_pos h40, if_pos h0, gi hr6 (by decide), nI_clamp (by omega)]
          exact e2
        · have f1 : Fq (rgR r) σ (uI (th0 (uI τ 2 r 0 1 (nI m))) 22 7 0 r (nI m)) := by
            unfold th0
            refine Fq.uI (Fq.uI (Fq.uI (h2.mono (fun t i j k z => ?_)) ?_) ?_) ?_ <;> unfold rgR scR fTold <;> omega
          have f2 : Fq (rgR r) σ υ := f1.tr h4 (fun _ _ _ _ z => z) (fun t i j k z => by simp only [rgR, scR, fTold]; omega)
          have g2 : rI υ 2 r 0 1 = nI m := by rw [(h4 2 r 0 1 (by omega)).1]; unfold th0; simp [rI_uI]
          have g7 : rI υ 22 7 0 r = nI m := by rw [(h4 22 7 0 r (by omega)).1]; simp [rI_uI]
          refine Inv_row1 (r := r) hI f2 hr6 (Or.inr ⟨m, by omega, g2, g7, fun k hk => ?_⟩) ?_
          · rw [h3 k hk, (h4 3 r 0 k (by omega)).1]
            unfold th0
            simp [rI_uI]
            exact h1 k (by omega)
          · have a1 := (h4 0 0 0 12 (by omega)).1
            have a2 := (h4 21 0 0 1 (by omega)).1
            have b1 := (h2 0 0 0 12 (by omega)).1
            have b2 := (h2 21 0 0 1 (by omega)).1
            have := hI.2.2.1
            unfold iTold at *
            rw [a1, a2]
            unfold th0
            simp [rI_uI, b1, b2, this]
      · refine ⟨-3, fdS σ 5, fdM (th0 (fdS σ 5)) 5, ?_, ?_, Inv_found hI (by decide)⟩
        · unfold f_X7_row
          rw [sp_isRow7, Option.bind_some, b2n_z, decide_eq_true hr, if_pos rfl, if_pos h40, if_neg h0, n5, sp_found7 (by decide)]; rfl
        · unfold f_X8_row
          rw [th, sp_isRow8, Option.bind_some, b2n_z, decide_eq_true hr, if_pos rfl, if_pos h40, if_neg h0, n5, sp_found8 (by decide)]; rfl
    · refine ⟨-1, σ, th0 σ, ?_, ?_, Inv_th0 hI⟩
      · unfold f_X7_row; rw [sp_isRow7, Option.bind_some, b2n_z, decide_eq_true hr, if_pos rfl, if_neg h40]
      · unfold f_X8_row; rw [th, sp_isRow8, Option.bind_some, b2n_z, decide_eq_true hr, if_pos rfl, if_neg h40]
  · refine ⟨-1, σ, th0 σ, ?_, ?_, Inv_th0 hI⟩
    · unfold f_X7_row; rw [sp_isRow7, Option.bind_some, b2n_z, decide_eq_false hr]; rfl
    · unfold f_X8_row; rw [th, sp_isRow8, Option.bind_some, b2n_z, decide_eq_false hr]; rfl
end Rows
