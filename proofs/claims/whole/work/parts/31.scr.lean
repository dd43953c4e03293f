/-! a screen: n panes by number, a pane by its fields -/
abbrev Scr : Type := Nat → Nat → Nat
def okS (n : Nat) (c : Scr) : Prop := n ≤ 7 ∧ (∀ i, i < n → okB (c i) ∧ c i 5 < n ∧ c i 6 < 2) ∧ (∀ i j, i < n → j < n → c i 5 = c j 5 → i = j)
def isScr (σ : Sg) (s n : Nat) (c : Scr) : Prop := rI σ 7 s 0 1 = nI n ∧ ∀ i, i < n → isPn σ s i (c i)
def anyb (p : Nat → Bool) : Nat → Bool
  | 0 => false
  | n + 1 => anyb p n || p n
theorem anyb_s (p : Nat → Bool) (n : Nat) : anyb p (n + 1) = (anyb p n || p n) := rfl
theorem anyb_iff {p : Nat → Bool} {n : Nat} : anyb p n = true ↔ ∃ i, i < n ∧ p i = true := by
  induction n with
  | zero => exact ⟨fun h => absurd h Bool.false_ne_true, fun ⟨i, h, _⟩ => absurd h (Nat.not_lt_zero i)⟩
  | succ n ih =>
    rw [anyb_s, Bool.or_eq_true, ih]
    constructor
    · rintro (⟨i, h1, h2⟩ | h)
      · exact ⟨i, by omega, h2⟩
      · exact ⟨n, by omega, h⟩
    · rintro ⟨i, h1, h2⟩
      by_cases h : i = n
      · subst h; exact Or.inr h2
      · exact Or.inl ⟨i, by omega, h2⟩
theorem anyb_cong {p q : Nat → Bool} {n : Nat} (h : ∀ i, i < n → p i = q i) : anyb p n = anyb q n := by
  induction n with
  | zero => rfl
  | succ n ih => rw [anyb_s, anyb_s, ih (fun i hi => h i (by omega)), h n (by omega)]
def opn (c : Scr) (i : Nat) : Bool := decide (c i 6 = 1)
/-- pane i at a cell, if of the open ones those with ov are over it -/
def vo (ov : Nat → Bool) (n : Nat) (c : Scr) (i x : Nat) : Bool := cvr (c i) x && !anyb (fun j => (opn c j && ov j) && cvr (c j) x) n
def vis (n : Nat) (c : Scr) (i x : Nat) : Bool := opn c i && vo (fun j => decide (rk (c i) < rk (c j))) n c i x
theorem msk_t {p : Nat → Bool} {j : Nat} (h : p j = true) (hj : j < 31) : nI (msk p j) ||| ((1 : Int32) <<< (nI j &&& 31)) = nI (msk p (j + 1)) := by
  have hl := msk_lt p j
  rw [I_1 j hj, fa_or, msk_succ, if_pos h]
  congr 1
  rw [Nat.or_comm, show 2 ^ j = 2 ^ j * 1 from (Nat.mul_one _).symm, ← Nat.two_pow_add_eq_or_of_lt hl 1, Nat.add_comm]
theorem msk_f {p : Nat → Bool} {j : Nat} (h : p j = false) : nI (msk p (j + 1)) = nI (msk p j) := by
  rw [msk_succ, h]
  rfl
theorem ct_t {p : Nat → Bool} {j : Nat} (h : p j = true) : nI (fb_ct p j) + 1 = nI (fb_ct p (j + 1)) := by
  rw [nI_1, fb_ct_succ, if_pos h]
theorem ct_f {p : Nat → Bool} {j : Nat} (h : p j = false) : nI (fb_ct p (j + 1)) = nI (fb_ct p j) := by
  rw [fb_ct_succ, h]
  rfl
theorem ct_f0 {p : Nat → Bool} {j : Nat} (h : p j = false) : nI (fb_ct p j) + 0 = nI (fb_ct p (j + 1)) := by
  rw [ct_f h, n0, nI_add]
  rfl
section Scr
variable {N s n : Nat} {σ : Sg} {c : Scr}
theorem isScr.f {i : Nat} (hS : isScr σ s n c) (hi : i < n) {f : Nat} (hf : f < 7) : rI σ 9 s i f = nI (c i f) := (hS.2 i hi).1 f hf
theorem isScr.o {i : Nat} (hS : isScr σ s n c) (ok : okS n c) (hi : i < n) : nb (rI σ 9 s i 6) = nI (b2n (opn c i)) := by
  have h := (ok.2.1 i hi).2.2
  rw [hS.f hi (by decide), nb_b _ h]
  unfold opn b2n
  rcases (by omega : c i 6 = 0 ∨ c i 6 = 1) with e | e <;> rw [e] <;> rfl
theorem sp_has {x : Int32} (hS : isScr σ s n c) (hn : n ≤ 7) : f_X4_has N s x σ = some (nI (b2n (decide (0 ≤ x.toInt ∧ x.toInt < n))), σ) := by
  unfold f_X4_has
  rw [hS.1]
  have e1 : (x < 0) ↔ x.toInt < 0 := fa_lt x 0
  have e2 : (nI n ≤ x) ↔ (n : Int) ≤ x.toInt := by rw [fa_le, nI_toInt (by omega)]
  simp only [e1, e2]
  by_cases a1 : x.toInt < 0
  · rw [if_pos a1, decide_eq_false (by omega)]; rfl
  · by_cases a2 : (n : Int) ≤ x.toInt
    · rw [if_neg a1, if_pos a2, decide_eq_false (by omega)]; rfl
    · rw [if_neg a1, if_neg a2, decide_eq_true (by omega)]; rfl
theorem sp_after {i : Nat} (hS : isScr σ s n c) (ok : okS n c) (hi : i < n) (hN : 7 < N) : f_X4_after N s (nI i) σ = some (nI (msk (fun j => decide (c i 5 < c j 5)) n), σ) := by
  have hn := ok.1
  have oi := ok.2.1 i hi
  unfold f_X4_after
  refine up_eq (fun m v a => L_X4_after_4 N (fun v2_1 _ => some (v2_1, σ)) s (nI i) σ m a v) (fun _ a => some (a, σ)) (fun j => nI (msk (fun j => decide (c i 5 < c j 5)) j)) 0 n ?_ ?_ N (by omega) (by omega)
  · intro m
    show L_X4_after_4 N _ s (nI i) σ (m + 1) _ _ = _
    rw [L_X4_after_4_s, hS.1, ile_t (Nat.le_refl _) (by omega)]
  · intro m j _ hj
    show L_X4_after_4 N _ s (nI i) σ (m + 1) _ _ = L_X4_after_4 N _ s (nI i) σ m _ _
    have oj := ok.2.1 j hj
    rw [L_X4_after_4_s, hS.1, ile_f hj (by omega)]
    simp (disch := omega) only [gi, nI_clamp, hS.f hj, hS.f hi, nI_1]
    by_cases h : c i 5 < c j 5
    · rw [ile_f h (by omega), msk_t (p := fun j => decide (c i 5 < c j 5)) (decide_eq_true h) (by omega)]
    · rw [ile_t (by omega) (by omega), msk_f (p := fun j => decide (c i 5 < c j 5)) (decide_eq_false h)]
theorem sp_notTop {i : Nat} (hS : isScr σ s n c) (ok : okS n c) (hi : i < n) (hN : 7 < N) : f_X4_notTopAfter N s (nI i) σ = some (nI (fb_ct (fun j => decide (c i 5 < c j 5) && !decide (c j 0 = 3)) n), σ) := by
  have hn := ok.1
  have oi := ok.2.1 i hi
  unfold f_X4_notTopAfter
  refine up_eq (fun m v a => L_X4_notTopAfter_4 N (fun v2_1 _ => some (v2_1, σ)) s (nI i) σ m a v) (fun _ a => some (a, σ)) (fun j => nI (fb_ct (fun j => decide (c i 5 < c j 5) && !decide (c j 0 = 3)) j)) 0 n ?_ ?_ N (by omega) (by omega)
  · intro m
    show L_X4_notTopAfter_4 N _ s (nI i) σ (m + 1) _ _ = _
    rw [L_X4_notTopAfter_4_s, hS.1, ile_t (Nat.le_refl _) (by omega)]
  · intro m j _ hj
    show L_X4_notTopAfter_4 N _ s (nI i) σ (m + 1) _ _ = L_X4_notTopAfter_4 N _ s (nI i) σ m _ _
    have oj := ok.2.1 j hj
    have ok0 := oj.1.1
    rw [L_X4_notTopAfter_4_s, hS.1, ile_f hj (by omega)]
    simp (disch := omega) only [gi, nI_clamp, hS.f hj, hS.f hi, nI_1 j]
    by_cases h : c i 5 < c j 5
    · by_cases h3 : c j 0 = 3
      · rw [ile_f h (by omega), n3, ieq_t h3, ct_f0 (p := fun j => decide (c i 5 < c j 5) && !decide (c j 0 = 3)) (by simp [h3])]
      · rw [ile_f h (by omega), n3, ieq_f h3 (by omega) (by decide), ct_t (p := fun j => decide (c i 5 < c j 5) && !decide (c j 0 = 3)) (by simp [h, h3])]
    · rw [ile_t (by omega) (by omega), ct_f0 (p := fun j => decide (c i 5 < c j 5) && !decide (c j 0 = 3)) (by simp [h])]
/-- who is over whom, if a set tells who comes later -/
def ovr (c : Scr) (m i j : Nat) : Bool := if c j 0 = 3 then (if c i 0 = 3 then m.testBit j else true) else (if c i 0 = 3 then false else m.testBit j)
theorem sp_would {i j m : Nat} (hS : isScr σ s n c) (ok : okS n c) (hi : i < n) (hj : j < n) (hm : m < 128) : f_X4_wouldBeOver N s (nI j) (nI i) (nI m) σ = some (nI (b2n (ovr c m i j)), σ) := by
  have hn := ok.1
  have oi := (ok.2.1 i hi).1.1
  have oj := (ok.2.1 j hj).1.1
  unfold f_X4_wouldBeOver ovr
  simp (disch := omega) only [gi, nI_clamp, hS.f hj, hS.f hi]
  rw [I_bit m (by omega) (by omega), n3]
  by_cases h1 : c j 0 = 3
  · by_cases h2 : c i 0 = 3
    · rw [ieq_t h1, ieq_t h2, if_pos h1, if_pos h2]
      cases m.testBit j <;> rfl
    · rw [ieq_t h1, ieq_f h2 (by omega) (by decide), if_pos h1, if_neg h2]; rfl
  · by_cases h2 : c i 0 = 3
    · rw [ieq_f h1 (by omega) (by decide), ieq_t h2, if_neg h1, if_pos h2]; rfl
    · rw [ieq_f h1 (by omega) (by decide), ieq_f h2 (by omega) (by decide), if_neg h1, if_neg h2]
      cases m.testBit j <;> rfl
theorem sp_shown {i m : Nat} (hS : isScr σ s n c) (ok : okS n c) (hi : i < n) (hm : m < 128) (hN : 7 < N) : f_X4_shown N s (nI i) (nI m) σ = some (nI (if opn c i then fb_ct (vo (ovr c m i) n c i) 96 else 0), σ) := by
  have hn := ok.1
  unfold f_X4_shown
  simp (disch := omega) only [gi, nI_clamp, hS.o ok hi]
  cases ho : opn c i with
  | false => rfl
  | true =>
    rw [show b2n true = 1 from rfl, iz_f (by decide) (by decide), (hS.2 i hi).2.1, (hS.2 i hi).2.2]
    have h := up_eq (fun q v (a : Int64 × Int64) => L_X4_shown_38 N (fun v3_2 v5_2 _ σ_2 => (f_J13_bitCount_95d88 N v3_2 σ_2).bind (fun w3 => (f_J13_bitCount_95d88 N v5_2 w3.2).bind (fun w4 => some (w3.1 + w4.1, w4.2)))) s (nI i) (nI m) q a.1 a.2 v σ)
      (fun _ a => (f_J13_bitCount_95d88 N a.1 σ).bind (fun w3 => (f_J13_bitCount_95d88 N a.2 w3.2).bind (fun w4 => some (w3.1 + w4.1, w4.2))))
      (fun j => (lN (msk (vo (ovr c m i) j c i) 48), lN (msk (fun x => vo (ovr c m i) j c i (48 + x)) 48))) 0 n ?_ ?_ N (by omega) (by omega)
    · have e0 : ∀ x, vo (ovr c m i) 0 c i x = cvr (c i) x := fun x => by unfold vo; show (_ && !false) = _; simp
      simp only [funext e0] at h
      refine Eq.trans h ?_
      simp only [bcL_msk, Option.bind_some, ct96, if_true]
    · intro q
      show L_X4_shown_38 N _ s (nI i) (nI m) (q + 1) _ _ _ _ = _
      rw [L_X4_shown_38_s, hS.1, ile_t (Nat.le_refl _) (by omega)]
    · intro q j _ hj
      show L_X4_shown_38 N _ s (nI i) (nI m) (q + 1) _ _ _ _ = L_X4_shown_38 N _ s (nI i) (nI m) q _ _ _ _
      rw [L_X4_shown_38_s, hS.1, ile_f hj (by omega)]
      simp (disch := omega) only [gi, nI_clamp, hS.o ok hj, nI_1]
      have hv : ∀ x, vo (ovr c m i) (j + 1) c i x = (vo (ovr c m i) j c i x && !((opn c j && ovr c m i j) && cvr (c j) x)) := fun x => by
        unfold vo
        rw [anyb_s, Bool.not_or]
        exact (Bool.and_assoc _ _ _).symm
      cases hoj : opn c j with
      | false =>
        rw [show b2n false = 0 from rfl, iz_t rfl]
        have e : vo (ovr c m i) (j + 1) c i = vo (ovr c m i) j c i := funext fun x => by rw [hv x, hoj]; simp
        rw [e]
      | true =>
        rw [show b2n true = 1 from rfl, iz_f (by decide) (by decide), sp_would hS ok hi hj hm]
        show (if nI (b2n (ovr c m i j)) = 0 then _ else _) = _
        cases hov : ovr c m i j with
        | false =>
          rw [show b2n false = 0 from rfl, iz_t rfl]
          have e : vo (ovr c m i) (j + 1) c i = vo (ovr c m i) j c i := funext fun x => by rw [hv x, hoj, hov]; simp
          rw [e]
        | true =>
          rw [show b2n true = 1 from rfl, iz_f (by decide) (by decide), (hS.2 j hj).2.1, (hS.2 j hj).2.2, L_not, L_not]
          have e : vo (ovr c m i) (j + 1) c i = fun x => vo (ovr c m i) j c i x && !cvr (c j) x := funext fun x => by rw [hv x, hoj, hov]; simp
          rw [e]
theorem vo_cong {ov ov' : Nat → Bool} (h : ∀ j, j < n → ov j = ov' j) (i x : Nat) : vo ov n c i x = vo ov' n c i x := by
  unfold vo
  rw [anyb_cong (fun j hj => by rw [h j hj])]
theorem ovr_after {i j : Nat} (ok : okS n c) (hi : i < n) (hj : j < n) : ovr c (msk (fun j => decide (c i 5 < c j 5)) n) i j = decide (rk (c i) < rk (c j)) := by
  have oi := (ok.2.1 i hi).2.1
  have oj := (ok.2.1 j hj).2.1
  have hn := ok.1
  unfold ovr rk
  rw [msk_bit, decide_eq_true hj, Bool.true_and]
  by_cases h1 : c j 0 = 3 <;> by_cases h2 : c i 0 = 3 <;> simp [h1, h2] <;> omega
theorem sp_shownNow {i : Nat} (hS : isScr σ s n c) (ok : okS n c) (hi : i < n) (hN : 7 < N) : f_X4_shownNow N s (nI i) σ = some (nI (fb_ct (vis n c i) 96), σ) := by
  have hn := ok.1
  have hl := msk_lt (fun j => decide (c i 5 < c j 5)) n
  have h2 : 2 ^ n ≤ 2 ^ 7 := Nat.pow_le_pow_right (by decide) hn
  unfold f_X4_shownNow
  rw [sp_after hS ok hi hN]
  simp only [Option.bind_some]
  rw [sp_shown hS ok hi (by omega) hN]
  simp only [Option.bind_some]
  have e : (if opn c i then fb_ct (vo (ovr c (msk (fun j => decide (c i 5 < c j 5)) n) i) n c i) 96 else 0) = fb_ct (vis n c i) 96 := by
    cases ho : opn c i with
    | false => exact (fb_ct_zero.mpr (fun x _ => by unfold vis; rw [ho]; rfl)).symm
    | true =>
      rw [if_pos rfl]
      refine fb_ct_cong (fun x _ => ?_)
      unfold vis
      rw [ho, Bool.true_and]
      exact vo_cong (fun j hj => ovr_after ok hi hj) i x
  rw [e]
theorem sp_howManyCover {x : Nat} (hS : isScr σ s n c) (ok : okS n c) (hx : x < 96) (hN : 7 < N) : f_X4_howManyCover N s (nI x) σ = some (nI (fb_ct (fun j => opn c j && cvr (c j) x) n), σ) := by
  have hn := ok.1
  unfold f_X4_howManyCover
  refine up_eq (fun m v a => L_X4_howManyCover_4 N (fun v2_2 _ σ_2 => some (v2_2, σ_2)) s (nI x) m a v σ) (fun _ a => some (a, σ)) (fun j => nI (fb_ct (fun j => opn c j && cvr (c j) x) j)) 0 n ?_ ?_ N (by omega) (by omega)
  · intro m
    show L_X4_howManyCover_4 N _ s (nI x) (m + 1) _ _ _ = _
    rw [L_X4_howManyCover_4_s, hS.1, ile_t (Nat.le_refl _) (by omega)]
  · intro m j _ hj
    show L_X4_howManyCover_4 N _ s (nI x) (m + 1) _ _ _ = L_X4_howManyCover_4 N _ s (nI x) m _ _ _
    rw [L_X4_howManyCover_4_s, hS.1, ile_f hj (by omega)]
    simp (disch := omega) only [gi, nI_clamp, hS.o ok hj, nI_1 j, sp_hasCell N s j (hS.2 j hj) hx]
    cases ho : opn c j with
    | false => rw [show b2n false = 0 from rfl, iz_t rfl, ct_f0 (p := fun j => opn c j && cvr (c j) x) (by simp [ho])]
    | true =>
      rw [show b2n true = 1 from rfl, iz_f (by decide) (by decide)]
      show (if nI (b2n (cvr (c j) x)) = 0 then _ else _) = _
      cases hc : cvr (c j) x with
      | false => rw [show b2n false = 0 from rfl, iz_t rfl, ct_f0 (p := fun j => opn c j && cvr (c j) x) (by simp [hc])]
      | true => rw [show b2n true = 1 from rfl, iz_f (by decide) (by decide), ct_t (p := fun j => opn c j && cvr (c j) x) (by simp [ho, hc])]
theorem rk_lt {i : Nat} (ok : okS n c) (hi : i < n) : rk (c i) < 14 := by
  have h := (ok.2.1 i hi).2.1
  have hn := ok.1
  unfold rk
  split <;> omega
theorem rk_inj {i j : Nat} (ok : okS n c) (hi : i < n) (hj : j < n) (h : rk (c i) = rk (c j)) : i = j := by
  have h1 := (ok.2.1 i hi).2.1
  have h2 := (ok.2.1 j hj).2.1
  have hn := ok.1
  apply ok.2.2 i j hi hj
  unfold rk at h
  split at h <;> split at h <;> omega
theorem sp_howManyOver {i x : Nat} (hS : isScr σ s n c) (ok : okS n c) (hi : i < n) (hx : x < 96) (hN : 7 < N) : f_X4_howManyOver N s (nI i) (nI x) σ = some (nI (fb_ct (fun j => (opn c j && decide (rk (c i) < rk (c j))) && cvr (c j) x) n), σ) := by
  have hn := ok.1
  have hri := rk_lt ok hi
  unfold f_X4_howManyOver
  simp (disch := omega) only [gi, nI_clamp, sp_rank N s i (hS.2 i hi) (ok.2.1 i hi).1]
  refine up_eq (fun m v a => L_X4_howManyOver_16 N (fun v2_2 _ σ_2 => some (v2_2, σ_2)) s (nI x) (nI (rk (c i))) m a v σ) (fun _ a => some (a, σ)) (fun j => nI (fb_ct (fun j => (opn c j && decide (rk (c i) < rk (c j))) && cvr (c j) x) j)) 0 n ?_ ?_ N (by omega) (by omega)
  · intro m
    show L_X4_howManyOver_16 N _ s (nI x) _ (m + 1) _ _ _ = _
    rw [L_X4_howManyOver_16_s, hS.1, ile_t (Nat.le_refl _) (by omega)]
  · intro m j _ hj
    have hrj := rk_lt ok hj
    show L_X4_howManyOver_16 N _ s (nI x) _ (m + 1) _ _ _ = L_X4_howManyOver_16 N _ s (nI x) _ m _ _ _
    rw [L_X4_howManyOver_16_s, hS.1, ile_f hj (by omega)]
    simp (disch := omega) only [gi, nI_clamp, hS.o ok hj, nI_1 j, sp_hasCell N s j (hS.2 j hj) hx, sp_rank N s j (hS.2 j hj) (ok.2.1 j hj).1, Option.bind_some]
    cases ho : opn c j with
    | false => rw [show b2n false = 0 from rfl, iz_t rfl, ct_f0 (p := fun j => (opn c j && decide (rk (c i) < rk (c j))) && cvr (c j) x) (by simp [ho])]
    | true =>
      rw [show b2n true = 1 from rfl, iz_f (by decide) (by decide)]
      show (if nI (rk (c j)) ≤ nI (rk (c i)) then _ else _) = _
      by_cases hr : rk (c i) < rk (c j)
      · rw [ile_f hr (by omega)]
        show (if nI (b2n (cvr (c j) x)) = 0 then _ else _) = _
        cases hc : cvr (c j) x with
        | false => rw [show b2n false = 0 from rfl, iz_t rfl, ct_f0 (p := fun j => (opn c j && decide (rk (c i) < rk (c j))) && cvr (c j) x) (by simp [hc])]
        | true => rw [show b2n true = 1 from rfl, iz_f (by decide) (by decide), ct_t (p := fun j => (opn c j && decide (rk (c i) < rk (c j))) && cvr (c j) x) (by simp [ho, hc, hr])]
      · rw [ile_t (by omega) (by omega), ct_f0 (p := fun j => (opn c j && decide (rk (c i) < rk (c j))) && cvr (c j) x) (by simp [hr])]
/-- who is in the way of pane i -/
def itw (n : Nat) (c : Scr) (i j : Nat) : Bool := (opn c j && decide (rk (c i) < rk (c j))) && anyb (fun x => cvr (c i) x && cvr (c j) x) 96
theorem ct_any {p : Nat → Bool} {n : Nat} : (0 < fb_ct p n) ↔ anyb p n = true := by rw [fb_ct_pos, anyb_iff]
theorem sp_inTheWay {i : Nat} (hS : isScr σ s n c) (ok : okS n c) (hi : i < n) (hN : 7 < N) : f_X4_inTheWayOf N s (nI i) σ = some (nI (msk (itw n c i) n), σ) := by
  have hn := ok.1
  have hri := rk_lt ok hi
  unfold f_X4_inTheWayOf
  simp (disch := omega) only [gi, nI_clamp]
  refine up_eq (fun m v a => L_X4_inTheWayOf_12 N (fun v2_2 _ σ_2 => some (v2_2, σ_2)) s s i m a v σ) (fun _ a => some (a, σ)) (fun j => nI (msk (itw n c i) j)) 0 n ?_ ?_ N (by omega) (by omega)
  · intro m
    show L_X4_inTheWayOf_12 N _ s s i (m + 1) _ _ _ = _
    rw [L_X4_inTheWayOf_12_s, hS.1, ile_t (Nat.le_refl _) (by omega)]
  · intro m j _ hj
    have hrj := rk_lt ok hj
    show L_X4_inTheWayOf_12 N _ s s i (m + 1) _ _ _ = L_X4_inTheWayOf_12 N _ s s i m _ _ _
    rw [L_X4_inTheWayOf_12_s, hS.1, ile_f hj (by omega)]
    simp (disch := omega) only [gi, nI_clamp, hS.o ok hj, nI_1 j, sp_rank N s j (hS.2 j hj) (ok.2.1 j hj).1, Option.bind_some, sp_rank N s i (hS.2 i hi) (ok.2.1 i hi).1, sp_shared N s i s j (hS.2 i hi) (hS.2 j hj)]
    cases ho : opn c j with
    | false => rw [show b2n false = 0 from rfl, iz_t rfl, msk_f (by unfold itw; simp [ho])]
    | true =>
      rw [show b2n true = 1 from rfl, iz_f (by decide) (by decide)]
      by_cases hr : rk (c i) < rk (c j)
      · rw [ile_f hr (by omega)]
        have hb := fb_ct_le (fun x => cvr (c i) x && cvr (c j) x) 96
        cases hc : anyb (fun x => cvr (c i) x && cvr (c j) x) 96 with
        | false =>
          have h0 : fb_ct (fun x => cvr (c i) x && cvr (c j) x) 96 = 0 := by
            rcases Nat.eq_zero_or_pos (fb_ct (fun x => cvr (c i) x && cvr (c j) x) 96) with h | h
            · exact h
            · have h2 := ct_any.mp h; rw [hc] at h2; cases h2
          rw [h0, n0, ile_t (Nat.le_refl _) (by decide), msk_f (by unfold itw; rw [hc, Bool.and_false])]
        | true =>
          rw [n0, ile_f (ct_any.mpr hc) (by omega), msk_t (by unfold itw; rw [ho, hc, decide_eq_true hr]; rfl) (by omega)]
      · rw [ile_t (by omega) (by omega), msk_f (by unfold itw; simp [hr])]
theorem sp_shutOnes (hS : isScr σ s n c) (ok : okS n c) (hN : 7 < N) : f_X4_shutOnes N s σ = some (nI (msk (fun j => !opn c j) n), σ) := by
  have hn := ok.1
  unfold f_X4_shutOnes
  refine up_eq (fun m v a => L_X4_shutOnes_4 N (fun v2_1 _ => some (v2_1, σ)) s σ m a v) (fun _ a => some (a, σ)) (fun j => nI (msk (fun j => !opn c j) j)) 0 n ?_ ?_ N (by omega) (by omega)
  · intro m
    show L_X4_shutOnes_4 N _ s σ (m + 1) _ _ = _
    rw [L_X4_shutOnes_4_s, hS.1, ile_t (Nat.le_refl _) (by omega)]
  · intro m j _ hj
    show L_X4_shutOnes_4 N _ s σ (m + 1) _ _ = L_X4_shutOnes_4 N _ s σ m _ _
    rw [L_X4_shutOnes_4_s, hS.1, ile_f hj (by omega)]
    simp (disch := omega) only [gi, nI_clamp, hS.o ok hj, nI_1]
    cases ho : opn c j with
    | false => rw [show b2n false = 0 from rfl, iz_t rfl, msk_t (p := fun j => !opn c j) (by simp [ho]) (by omega)]
    | true => rw [show b2n true = 1 from rfl, iz_f (by decide) (by decide), msk_f (p := fun j => !opn c j) (by simp [ho])]
theorem sp_howManyOpen (hS : isScr σ s n c) (ok : okS n c) (hN : 7 < N) : f_X4_howManyOpen N s σ = some (nI (fb_ct (opn c) n), σ) := by
  have hn := ok.1
  unfold f_X4_howManyOpen
  rw [sp_shutOnes hS ok hN]
  simp only [Option.bind_some]
  rw [bcI_msk N _ hn]
  simp only [Option.bind_some]
  have h := fb_ct_not (opn c) n
  rw [hS.1, pk_sub (by omega), show n - fb_ct (fun j => !opn c j) n = fb_ct (opn c) n by omega]
/-- whether of a pane no cell is seen -/
def bur (n : Nat) (c : Scr) (i : Nat) : Bool := opn c i && !anyb (vis n c i) 96
theorem sp_unseen (hS : isScr σ s n c) (ok : okS n c) (hN : 7 < N) : f_X4_unseenOpenOnes N s σ = some (nI (msk (bur n c) n), σ) := by
  have hn := ok.1
  unfold f_X4_unseenOpenOnes
  refine up_eq (fun m v a => L_X4_unseenOpenOnes_4 N (fun v2_2 _ σ_2 => some (v2_2, σ_2)) s m a v σ) (fun _ a => some (a, σ)) (fun j => nI (msk (bur n c) j)) 0 n ?_ ?_ N (by omega) (by omega)
  · intro m
    show L_X4_unseenOpenOnes_4 N _ s (m + 1) _ _ _ = _
    rw [L_X4_unseenOpenOnes_4_s, hS.1, ile_t (Nat.le_refl _) (by omega)]
  · intro m j _ hj
    show L_X4_unseenOpenOnes_4 N _ s (m + 1) _ _ _ = L_X4_unseenOpenOnes_4 N _ s m _ _ _
    rw [L_X4_unseenOpenOnes_4_s, hS.1, ile_f hj (by omega)]
    simp (disch := omega) only [gi, nI_clamp, hS.o ok hj, nI_1, sp_shownNow hS ok hj hN]
    have hb := fb_ct_le (vis n c j) 96
    cases ho : opn c j with
    | false => rw [show b2n false = 0 from rfl, iz_t rfl, msk_f (by unfold bur; rw [ho]; rfl)]
    | true =>
      rw [show b2n true = 1 from rfl, iz_f (by decide) (by decide)]
      show (if nI (fb_ct (vis n c j) 96) = 0 then _ else _) = _
      cases hc : anyb (vis n c j) 96 with
      | false =>
        have h0 : fb_ct (vis n c j) 96 = 0 := by
          rcases Nat.eq_zero_or_pos (fb_ct (vis n c j) 96) with h | h
          · exact h
          · have h2 := ct_any.mp h; rw [hc] at h2; cases h2
        rw [iz_t h0, msk_t (by unfold bur; rw [ho, hc]; rfl) (by omega)]
      | true =>
        have h0 := ct_any.mpr hc
        rw [iz_f (by omega) (by omega), msk_f (by unfold bur; rw [hc]; simp)]
theorem sp_howManySeen (hS : isScr σ s n c) (ok : okS n c) (hN : 7 < N) : f_X4_howManySeen N s σ = some (nI (fb_ct (fun i => anyb (vis n c i) 96) n), σ) := by
  have hn := ok.1
  unfold f_X4_howManySeen
  rw [sp_howManyOpen hS ok hN]
  simp only [Option.bind_some]
  rw [sp_unseen hS ok hN]
  simp only [Option.bind_some]
  rw [bcI_msk N _ hn]
  simp only [Option.bind_some]
  have h : fb_ct (opn c) n = fb_ct (bur n c) n + fb_ct (fun i => anyb (vis n c i) 96) n := by
    rw [← fb_ct_or]
    · refine fb_ct_cong (fun i hi => ?_)
      unfold bur
      cases ho : opn c i with
      | false =>
        have : anyb (vis n c i) 96 = false := by
          cases ha : anyb (vis n c i) 96 with
          | false => rfl
          | true =>
            obtain ⟨x, _, hx⟩ := anyb_iff.mp ha
            unfold vis at hx
            rw [ho] at hx
            cases hx
        rw [this]; rfl
      | true => cases anyb (vis n c i) 96 <;> rfl
    · intro i hi ⟨h1, h2⟩
      unfold bur at h1
      rw [h2] at h1
      simp at h1
  rw [pk_sub (by omega), show fb_ct (opn c) n - fb_ct (bur n c) n = fb_ct (fun i => anyb (vis n c i) 96) n by omega]
/-- whether one of a kind is of another one, too -/
def iof (k o : Nat) : Bool := decide (k = o) || (decide (o = 0) || ((decide (k = 4) && decide (o = 1)) || (decide (k = 5) && decide (o = 2))))
theorem sp_isOf {k o : Nat} (hk : k < 6) (ho : o < 6) : f_X7_isOf N (nI k) (nI o) σ = some (nI (b2n (iof k o)), σ) := by
  unfold f_X7_isOf iof
  rcases (by omega : k = 0 ∨ k = 1 ∨ k = 2 ∨ k = 3 ∨ k = 4 ∨ k = 5) with rfl | rfl | rfl | rfl | rfl | rfl <;> rcases (by omega : o = 0 ∨ o = 1 ∨ o = 2 ∨ o = 3 ∨ o = 4 ∨ o = 5) with rfl | rfl | rfl | rfl | rfl | rfl <;> rfl
theorem sp_howManyAre {o : Nat} (ho : o < 6) (hS : isScr σ s n c) (ok : okS n c) (hN : 7 < N) : f_X4_howManyAre N s (nI o) σ = some (nI (fb_ct (fun j => iof (c j 0) o) n), σ) := by
  have hn := ok.1
  unfold f_X4_howManyAre
  refine up_eq (fun m v a => L_X4_howManyAre_4 N (fun v2_2 _ σ_2 => some (v2_2, σ_2)) s (nI o) m a v σ) (fun _ a => some (a, σ)) (fun j => nI (fb_ct (fun j => iof (c j 0) o) j)) 0 n ?_ ?_ N (by omega) (by omega)
  · intro m
    show L_X4_howManyAre_4 N _ s (nI o) (m + 1) _ _ _ = _
    rw [L_X4_howManyAre_4_s, hS.1, ile_t (Nat.le_refl _) (by omega)]
  · intro m j _ hj
    show L_X4_howManyAre_4 N _ s (nI o) (m + 1) _ _ _ = L_X4_howManyAre_4 N _ s (nI o) m _ _ _
    rw [L_X4_howManyAre_4_s, hS.1, ile_f hj (by omega)]
    simp (disch := omega) only [gi, nI_clamp, hS.f hj, nI_1 j]
    rw [sp_isOf (ok.2.1 j hj).1.1 ho]
    show (if nI (b2n (iof (c j 0) o)) = 0 then _ else _) = _
    cases hc : iof (c j 0) o with
    | false => rw [show b2n false = 0 from rfl, iz_t rfl, ct_f0 (p := fun j => iof (c j 0) o) hc]
    | true => rw [show b2n true = 1 from rfl, iz_f (by decide) (by decide), ct_t (p := fun j => iof (c j 0) o) hc]
theorem sp_cellsShow (hS : isScr σ s n c) (ok : okS n c) (hN : 7 < N) : f_X4_cellsThatShowOne N s σ = some (nI (fb_ct (fun x => anyb (fun j => opn c j && cvr (c j) x) n) 96), σ) := by
  have hn := ok.1
  unfold f_X4_cellsThatShowOne
  have h := up_eq (fun q v (a : Int64 × Int64) => L_X4_cellsThatShowOne_7 N (fun v1_1 v3_1 _ => (f_J13_bitCount_95d88 N v1_1 σ).bind (fun w2 => (f_J13_bitCount_95d88 N v3_1 w2.2).bind (fun w3 => some (w2.1 + w3.1, w3.2)))) s σ q a.1 a.2 v)
    (fun _ a => (f_J13_bitCount_95d88 N a.1 σ).bind (fun w2 => (f_J13_bitCount_95d88 N a.2 w2.2).bind (fun w3 => some (w2.1 + w3.1, w3.2))))
    (fun j => (lN (msk (fun x => anyb (fun j => opn c j && cvr (c j) x) j) 48), lN (msk (fun x => anyb (fun j => opn c j && cvr (c j) (48 + x)) j) 48))) 0 n ?_ ?_ N (by omega) (by omega)
  · have e0 : ∀ p : Nat → Nat → Bool, msk (fun x => anyb (p x) 0) 48 = 0 := fun p => msk_none 48
    simp only [e0] at h
    refine Eq.trans h ?_
    simp only [bcL_msk, Option.bind_some]
    rw [← ct96]
  · intro q
    show L_X4_cellsThatShowOne_7 N _ s σ (q + 1) _ _ _ = _
    rw [L_X4_cellsThatShowOne_7_s, hS.1, ile_t (Nat.le_refl _) (by omega)]
  · intro q j _ hj
    show L_X4_cellsThatShowOne_7 N _ s σ (q + 1) _ _ _ = L_X4_cellsThatShowOne_7 N _ s σ q _ _ _
    rw [L_X4_cellsThatShowOne_7_s, hS.1, ile_f hj (by omega)]
    simp (disch := omega) only [gi, nI_clamp, hS.o ok hj, nI_1, anyb_s]
    cases ho : opn c j with
    | false =>
      rw [show b2n false = 0 from rfl, iz_t rfl]
      simp only [Bool.false_and, Bool.or_false]
    | true =>
      rw [show b2n true = 1 from rfl, iz_f (by decide) (by decide), (hS.2 j hj).2.1, (hS.2 j hj).2.2, L_or, L_or]
      simp only [Bool.true_and]
end Scr
