section Text
variable {N n : Nat} {σ : Sg} {c : Scr}
def kdN (x : Int32) : Nat := if x = 112 then 0 else if x = 102 then 1 else if x = 103 then 2 else if x = 116 then 3 else if x = 104 then 4 else if x = 109 then 5 else 6
/-- a figure at a place, between two bounds -/
def fgo (b : Nat → Int32) (m p lo hi : Nat) : Option Nat := if p < m ∧ (lo : Int) ≤ (b p - 48).toInt ∧ (b p - 48).toInt ≤ (hi : Int) then some (b p - 48).toInt.toNat else none
theorem fgo_b {b : Nat → Int32} {m p lo hi v : Nat} (h : fgo b m p lo hi = some v) (hh : hi < 100) : lo ≤ v ∧ v ≤ hi ∧ b p - 48 = nI v ∧ p < m := by
  unfold fgo at h
  by_cases e : p < m ∧ (lo : Int) ≤ (b p - 48).toInt ∧ (b p - 48).toInt ≤ (hi : Int)
  · rw [if_pos e] at h
    cases h
    refine ⟨by omega, by omega, ?_, e.1⟩
    rw [fa_eq, nI_toInt (by omega)]; omega
  · rw [if_neg e] at h; cases h
/-- a pane told from a place on: or where it is at fault -/
def rpn (b : Nat → Int32) (m p : Nat) : Nat ⊕ (Nat × Nat × Nat × Nat × Nat) :=
  if 6 ≤ kdN (b p) then .inl p else
  match fgo b m (p + 1) 0 9 with
  | none => .inl (p + 1)
  | some l => match fgo b m (p + 2) 0 7 with
    | none => .inl (p + 2)
    | some t => match fgo b m (p + 3) 1 (if 12 - l < 9 then 12 - l else 9) with
      | none => .inl (p + 3)
      | some w => match fgo b m (p + 4) 1 (8 - t) with
        | none => .inl (p + 4)
        | some h => .inr (kdN (b p), l, t, w, h)
def tpn (c : Scr) (i : Nat) (x : Nat × Nat × Nat × Nat × Nat) : Scr := fun j f => if j = i then (if f = 0 then x.1 else if f = 1 then x.2.1 else if f = 2 then x.2.2.1 else if f = 3 then x.2.2.2.1 else if f = 4 then x.2.2.2.2 else if f = 5 then i else 1) else c j f
/-- the reading of a text from a place on -/
def ptx (b : Nat → Int32) (m : Nat) : Nat → Nat → Nat → Scr → Option Nat × Nat × Scr
  | 0, _, n, c => (none, n, c)
  | F + 1, p, n, c => if m ≤ p then (none, n, c) else if b p = 32 then ptx b m F (p + 1) n c else if n = 7 then (some p, n, c) else
    match rpn b m p with
    | .inl e => (some e, n, c)
    | .inr x => ptx b m F (p + 5) (n + 1) (tpn c n x)
theorem cl_kindAt {t p : Nat} (hp : p < 60) (hN : 100 < N) : f_X5_kindAt N t (nI p) σ = some (if kdN (rI σ 6 t 0 p) < 6 then nI (kdN (rI σ 6 t 0 p)) else -1, σ) := by
  unfold f_X5_kindAt
  have key : ∀ q, L_X5_kindAt_2 N (fun _ => some ((-1 : Int32), σ)) t (nI p) σ (q + 7) 0 = some (if kdN (rI σ 6 t 0 p) < 6 then nI (kdN (rI σ 6 t 0 p)) else -1, σ) := by
    intro q
    generalize hb : rI σ 6 t 0 p = x
    have one : ∀ (q j : Nat), j < 6 → L_X5_kindAt_2 N (fun _ => some ((-1 : Int32), σ)) t (nI p) σ (q + 1) (nI j) = if x = lettersI j then some (nI j, σ) else L_X5_kindAt_2 N (fun _ => some ((-1 : Int32), σ)) t (nI p) σ q (nI (j + 1)) := fun q j hj => by
      rw [L_X5_kindAt_2_s, n6, ile_f hj (by decide), gi hp (by decide), gi hj (by decide), nI_clamp (by omega), nI_clamp (by omega), hb, nI_1]
    rw [n0, one _ 0 (by decide), one _ 1 (by decide), one _ 2 (by decide), one _ 3 (by decide), one _ 4 (by decide), one _ 5 (by decide), L_X5_kindAt_2_s, n6, ile_t (by decide) (by decide)]
    unfold kdN
    show (if x = 112 then some (nI 0, σ) else if x = 102 then some (nI 1, σ) else if x = 103 then some (nI 2, σ) else if x = 116 then some (nI 3, σ) else if x = 104 then some (nI 4, σ) else if x = 109 then some (nI 5, σ) else some (-1, σ)) = _
    by_cases h0 : x = 112
    · simp only [if_pos h0]; rfl
    · by_cases h1 : x = 102
      · simp only [if_neg h0, if_pos h1]; rfl
      · by_cases h2 : x = 103
        · simp only [if_neg h0, if_neg h1, if_pos h2]; rfl
        · by_cases h3 : x = 116
          · simp only [if_neg h0, if_neg h1, if_neg h2, if_pos h3]; rfl
          · by_cases h4 : x = 104
            · simp only [if_neg h0, if_neg h1, if_neg h2, if_neg h3, if_pos h4]; rfl
            · by_cases h5 : x = 109
              · simp only [if_neg h0, if_neg h1, if_neg h2, if_neg h3, if_neg h4, if_pos h5]; rfl
              · simp only [if_neg h0, if_neg h1, if_neg h2, if_neg h3, if_neg h4, if_neg h5]; rfl
  obtain ⟨M, rfl⟩ : ∃ M, N = M + 7 := ⟨N - 7, by omega⟩
  exact key M
theorem cl_figure {t p m lo hi : Nat} (hm : m ≤ 60) (h5 : rI σ 5 t 0 1 = nI m) (hp : p < 1000) (hlo : lo < 100) (hhi : hi < 100) : f_X5_figureAt N t (nI p) (nI lo) (nI hi) σ = some (match fgo (fun k => rI σ 6 t 0 k) m p lo hi with | none => -1 | some v => nI v, σ) := by
  unfold f_X5_figureAt
  have tl : (nI lo).toInt = lo := nI_toInt (by omega)
  have th : (nI hi).toInt = hi := nI_toInt (by omega)
  have e48 : (48 : Int32) = nI 48 := rfl
  rw [h5]
  by_cases h1 : p < m
  · rw [ilt_t h1 (by omega), gi (by omega) (by decide), nI_clamp (by omega)]
    simp only [fa_lt, fa_le, tl, th]
    by_cases h2 : (rI σ 6 t 0 p - 48).toInt < lo
    · have : fgo (fun k => rI σ 6 t 0 k) m p lo hi = none := by unfold fgo; exact if_neg (fun z => by have := z.2.1; dsimp only at this; omega)
      rw [if_pos h2, this]
    · by_cases h3 : (rI σ 6 t 0 p - 48).toInt ≤ hi
      · have : fgo (fun k => rI σ 6 t 0 k) m p lo hi = some (rI σ 6 t 0 p - 48).toInt.toNat := by unfold fgo; exact if_pos ⟨h1, by dsimp only; omega, by dsimp only; omega⟩
        rw [if_neg h2, if_pos h3, this]
        have e : rI σ 6 t 0 p - 48 = nI (rI σ 6 t 0 p - 48).toInt.toNat := by rw [fa_eq, nI_toInt (by omega)]; omega
        exact congrArg (fun z => some (z, σ)) e
      · have : fgo (fun k => rI σ 6 t 0 k) m p lo hi = none := by unfold fgo; exact if_neg (fun z => by have := z.2.2; dsimp only at this; omega)
        rw [if_neg h2, if_neg h3, this]
  · have : fgo (fun k => rI σ 6 t 0 k) m p lo hi = none := by unfold fgo; exact if_neg (fun z => h1 z.1)
    rw [ilt_f (by omega) (by omega), this]
end Text
