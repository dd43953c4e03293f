section Next
variable {N n : Nat} {σ : Sg}
/-- the order that would be, in the reference's array -/
def arr (σ : Sg) (n : Nat) (p : Nat → Nat) : Prop := rI σ 21 0 0 10 = nI n ∧ ∀ k, k < n → p k < 7 ∧ rI σ 22 21 0 (14 + k) = nI (p k)
def r14 (t i j k : Nat) : Prop := t = 22 ∧ i = 21 ∧ j = 0 ∧ 14 ≤ k ∧ k < 21
theorem nx_7 (K : Int32 → Option (Int32 × Sg)) {p : Nat → Nat} (h : arr σ n p) (hn : n ≤ 7) : ∀ k q, k < q → k ≤ n - 1 → L_X8_nextOrder_7 N K σ q (nI k - 1) = K (nI (pvt p k) - 1) := by
  intro k
  induction k with
  | zero =>
    intro q hq _
    obtain ⟨q, rfl⟩ : ∃ e, q = e + 1 := ⟨q - 1, by omega⟩
    rw [L_X8_nextOrder_7_s, if_pos (by decide)]
    rfl
  | succ e ih =>
    intro q hq hk
    obtain ⟨q, rfl⟩ : ∃ e, q = e + 1 := ⟨q - 1, by omega⟩
    have ev : nI (e + 1) - 1 = nI e := by rw [n1, pk_sub (by omega)]; rfl
    obtain ⟨a1, a2⟩ := h.2 e (by omega)
    obtain ⟨b1, b2⟩ := h.2 (e + 1) (by omega)
    rw [L_X8_nextOrder_7_s, ev, if_neg (show ¬ nI e < 0 by rw [n0]; exact nI_nlt (by omega) (by omega)), n14, nI_add, nI_1, gi (by omega) (by decide), gi (by omega) (by decide), nI_clamp (by omega), nI_clamp (by omega), a2, Nat.add_assoc, b2, m1_sub]
    show _ = K (nI (if p e ≤ p (e + 1) then e + 1 else pvt p e) - 1)
    by_cases hl : p e ≤ p (e + 1)
    · rw [ile_t hl (by omega), if_pos hl, ev]
    · rw [ile_f (by omega) (by omega), if_neg hl, ih q (by omega) (by omega)]
theorem pvt_le (p : Nat → Nat) : ∀ k, pvt p k ≤ k
  | 0 => Nat.le_refl _
  | k + 1 => by
    show (if p k ≤ p (k + 1) then k + 1 else pvt p k) ≤ k + 1
    split
    · exact Nat.le_refl _
    · have := pvt_le p k; omega
theorem fnd_lt {p : Nat → Nat} {v : Nat} : ∀ k, v < k → fnd p v k < k
  | 0, h => by omega
  | k + 1, h => by
    show (if p v ≤ p k then k else fnd p v k) < k + 1
    split
    · omega
    · rename_i hl
      have : v ≠ k := fun z => hl (by rw [z]; exact Nat.le_refl _)
      have := fnd_lt (p := p) (v := v) k (by omega)
      omega
theorem nx_53 (K : Int32 → Option (Int32 × Sg)) {p : Nat → Nat} {v : Nat} (h : arr σ n p) (hn : n ≤ 7) : ∀ k q, v < k → k < q → k ≤ n → L_X8_nextOrder_53 N K (nI v) σ q (nI k - 1) = K (nI (fnd p v k)) := by
  intro k
  induction k with
  | zero => intro q hv; omega
  | succ e ih =>
    intro q hv hq hk
    obtain ⟨q, rfl⟩ : ∃ e, q = e + 1 := ⟨q - 1, by omega⟩
    have ev : nI (e + 1) - 1 = nI e := by rw [n1, pk_sub (by omega)]; rfl
    obtain ⟨a1, a2⟩ := h.2 e (by omega)
    obtain ⟨b1, b2⟩ := h.2 v (by omega)
    rw [L_X8_nextOrder_53_s, ev, n14, nI_add, nI_add, gi (by omega) (by decide), gi (by omega) (by decide), nI_clamp (by omega), nI_clamp (by omega), a2, b2, m1_sub]
    show _ = K (nI (if p v ≤ p e then e else fnd p v e))
    by_cases hl : p v ≤ p e
    · rw [ile_t hl (by omega), if_pos hl]
    · have : v ≠ e := fun z => hl (by rw [z]; exact Nat.le_refl _)
      rw [ile_f (by omega) (by omega), if_neg hl, ih q (by omega) (by omega) (by omega)]
theorem sp_trades {p : Nat → Nat} {a b : Nat} (h : arr σ n p) (hn : n ≤ 7) (ha : a < n) (hb : b < n) : ∃ τ, f_X8_trades N (nI a) (nI b) σ = some τ ∧ arr τ n (swp p a b) ∧ Fq r14 σ τ := by
  refine ⟨uI (uI σ 22 21 0 (14 + a) (rI σ 22 21 0 (14 + b))) 22 21 0 (14 + b) (rI σ 22 21 0 (14 + a)), ?_, ⟨h.1, fun k hk => ?_⟩, (Fq.rf.uI ⟨rfl, rfl, rfl, by omega, by omega⟩).uI ⟨rfl, rfl, rfl, by omega, by omega⟩⟩
  · unfold f_X8_trades
    rw [n14, nI_add, nI_add, gi (by omega) (by decide), gi (by omega) (by decide), gi (by omega) (by decide), gi (by omega) (by decide), nI_clamp (by omega), nI_clamp (by omega)]
  · obtain ⟨a1, a2⟩ := h.2 a ha
    obtain ⟨b1, b2⟩ := h.2 b hb
    obtain ⟨k1, k2⟩ := h.2 k hk
    unfold swp
    rw [rI_uI]
    by_cases e : k = b
    · rw [if_pos e, if_pos ⟨rfl, rfl, rfl, by omega⟩]; exact ⟨a1, a2⟩
    · rw [if_neg e, if_neg (show ¬ (22 = 22 ∧ 21 = 21 ∧ 0 = 0 ∧ 14 + k = 14 + b) from fun z => e (by omega)), rI_uI]
      by_cases e2 : k = a
      · rw [if_pos e2, if_pos ⟨rfl, rfl, rfl, by omega⟩]; exact ⟨b1, b2⟩
      · rw [if_neg e2, if_neg (fun z => e2 (by omega))]; exact ⟨k1, k2⟩
theorem nx_98 (K : Int32 → Int32 → Sg → Option (Int32 × Sg)) (hn : n ≤ 7) : ∀ m f a b p τ, b - a ≤ m → m < f → b < n → a ≤ n → arr τ n p → Fq r14 σ τ → ∃ v w υ, L_X8_nextOrder_98 N K f (nI a) (nI b) τ = K v w υ ∧ arr υ n (rvs m p a b) ∧ Fq r14 σ υ := by
  intro m
  induction m with
  | zero =>
    intro f a b p τ h1 h2 h3 ha h4 h5
    obtain ⟨f, rfl⟩ : ∃ e, f = e + 1 := ⟨f - 1, by omega⟩
    rw [L_X8_nextOrder_98_s, ile_t (by omega) (by omega)]
    exact ⟨_, _, τ, rfl, h4, h5⟩
  | succ m ih =>
    intro f a b p τ h1 h2 h3 ha h4 h5
    obtain ⟨f, rfl⟩ : ∃ e, f = e + 1 := ⟨f - 1, by omega⟩
    show ∃ v w υ, _ ∧ arr υ n (if b ≤ a then p else rvs m (swp p a b) (a + 1) (b - 1)) ∧ _
    by_cases hab : b ≤ a
    · rw [L_X8_nextOrder_98_s, ile_t hab (by omega), if_pos hab]
      exact ⟨_, _, τ, rfl, h4, h5⟩
    · obtain ⟨υ, e, g1, g2⟩ := sp_trades (N := N) (a := a) (b := b) h4 hn (by omega) h3
      rw [L_X8_nextOrder_98_s, ile_f (by omega) (by omega), if_neg hab, e, Option.bind_some, nI_1, m1_sub, n1, pk_sub (by omega)]
      exact ih f (a + 1) (b - 1) _ υ (by omega) (by omega) (by omega) (by omega) g1 (h5.tr g2 (fun _ _ _ _ z => z) (fun _ _ _ _ z => z))
theorem sp_next {p : Nat → Nat} (h : arr σ n p) (hn : n ≤ 7) (hn2 : 2 ≤ n) (hN : 100 < N) :
    (pvt p (n - 1) = 0 → f_X8_nextOrder N σ = some (0, σ)) ∧ (pvt p (n - 1) ≠ 0 → ∃ τ, f_X8_nextOrder N σ = some (1, τ) ∧ arr τ n (nxt n p) ∧ Fq r14 σ τ) := by
  have hp := pvt_le p (n - 1)
  have e2 : nI n - 2 = nI (n - 1) - 1 := by rw [n2, n1, pk_sub (by omega), pk_sub (by omega)]; rfl
  refine ⟨fun e => ?_, fun e => ?_⟩
  · unfold f_X8_nextOrder
    rw [h.1, e2, nx_7 _ h hn (n - 1) N (by omega) (Nat.le_refl _), e, if_neg (by decide)]
  · obtain ⟨v, hv⟩ : ∃ v, pvt p (n - 1) = v + 1 := ⟨pvt p (n - 1) - 1, by omega⟩
    have ev : nI (v + 1) - 1 = nI v := by rw [n1, pk_sub (by omega)]; rfl
    have hf := fnd_lt (p := p) (v := v) n (by omega)
    obtain ⟨υ, g0, g1, g2⟩ := sp_trades (N := N) (a := v) (b := fnd p v n) h hn (by omega) hf
    obtain ⟨a, b, ω, k1, k2, k3⟩ := nx_98 (N := N) (σ := υ) (fun v3_5 v4_5 σ_5 => some ((1 : Int32), σ_5)) hn n N (v + 1) (n - 1) _ υ (by omega) (by omega) (by omega) (by omega) g1 Fq.rf
    refine ⟨ω, ?_, ?_, g2.tr k3 (fun _ _ _ _ z => z) (fun _ _ _ _ z => z)⟩
    · unfold f_X8_nextOrder
      rw [h.1, e2, nx_7 _ h hn (n - 1) N (by omega) (Nat.le_refl _), hv, ev, if_pos (nI_pos' (by omega)), nx_53 _ h hn n N (by omega) (by omega) (Nat.le_refl _), g0, Option.bind_some, g1.1, nI_1, n1, pk_sub (by omega)]
      exact k1
    · unfold nxt
      rw [hv]
      exact k2
end Next
