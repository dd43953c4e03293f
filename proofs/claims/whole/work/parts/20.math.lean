/-! ===== order of ints, in all its forms, and through longs ===== -/
theorem fa_lt (a b : Int32) : a < b ↔ a.toInt < b.toInt := Int32.lt_iff_toInt_lt
theorem fa_le (a b : Int32) : a ≤ b ↔ a.toInt ≤ b.toInt := Int32.le_iff_toInt_le
theorem fa_eq (a b : Int32) : a = b ↔ a.toInt = b.toInt := Int32.toInt_inj.symm
theorem fa_lt64 (a b : Int64) : a < b ↔ a.toInt < b.toInt := Int64.lt_iff_toInt_lt
theorem fa_le64 (a b : Int64) : a ≤ b ↔ a.toInt ≤ b.toInt := Int64.le_iff_toInt_le
theorem fa_eq64 (a b : Int64) : a = b ↔ a.toInt = b.toInt := Int64.toInt_inj.symm
/-- a comparison of two ints taken as longs -/
theorem fa_wide_lt (a b : Int32) : a.toInt64 < b.toInt64 ↔ a < b := by rw [fa_lt64, fa_lt, Int32.toInt_toInt64, Int32.toInt_toInt64]
theorem fa_wide_le (a b : Int32) : a.toInt64 ≤ b.toInt64 ↔ a ≤ b := by rw [fa_le64, fa_le, Int32.toInt_toInt64, Int32.toInt_toInt64]
theorem fa_wide_eq (a b : Int32) : a.toInt64 = b.toInt64 ↔ a = b := by rw [fa_eq64, fa_eq, Int32.toInt_toInt64, Int32.toInt_toInt64]
/-- one strict comparison gives all the others -/
theorem fa_of_lt {a b : Int32} (h : a < b) : a ≤ b ∧ ¬ b ≤ a ∧ ¬ b < a ∧ a ≠ b ∧ b ≠ a := by
  rw [fa_lt] at h
  refine ⟨?_, ?_, ?_, ?_, ?_⟩
  · rw [fa_le]; omega
  · rw [fa_le]; omega
  · rw [fa_lt]; omega
  · intro e; rw [fa_eq] at e; omega
  · intro e; rw [fa_eq] at e; omega
theorem fa_of_nlt {a b : Int32} (h : ¬ a < b) : b ≤ a := by
  rw [fa_lt] at h
  rw [fa_le]
  omega
theorem fa_of_nle {a b : Int32} (h : ¬ a ≤ b) : b < a := by
  rw [fa_le] at h
  rw [fa_lt]
  omega
theorem fa_le_ne {a b : Int32} (h : a ≤ b) (h2 : a ≠ b) : a < b := by
  rw [fa_le] at h
  rw [fa_lt]
  have h3 : a.toInt ≠ b.toInt := fun e => h2 ((fa_eq a b).mpr e)
  omega
theorem fa_three (a b : Int32) : a < b ∨ a = b ∨ b < a := by
  rw [fa_lt, fa_lt, fa_eq]
  omega
theorem fa_trans {a b c : Int32} (h : a < b) (h2 : b ≤ c) : a < c := by
  rw [fa_lt] at *
  rw [fa_le] at h2
  omega
/-! ===== small literals as numbers ===== -/
theorem fa_lit (n : Nat) : (OfNat.ofNat n : Int32) = nI n := rfl
theorem fa_litL (n : Nat) : (OfNat.ofNat n : Int64) = lN n := rfl
/-! ===== bits of a number: 'or', masks, one bit ===== -/
theorem fa_and (a b : Nat) : nI a &&& nI b = nI (a &&& b) := by
  apply Int32.toBitVec_inj.1
  show BitVec.ofNat 32 a &&& BitVec.ofNat 32 b = BitVec.ofNat 32 (a &&& b)
  apply BitVec.eq_of_getLsbD_eq
  intro i hi
  simp [hi]
theorem fa_or (a b : Nat) : nI a ||| nI b = nI (a ||| b) := by
  apply Int32.toBitVec_inj.1
  show BitVec.ofNat 32 a ||| BitVec.ofNat 32 b = BitVec.ofNat 32 (a ||| b)
  apply BitVec.eq_of_getLsbD_eq
  intro i hi
  simp [hi]
/-- a remainder by a power of two, as a mask -/
theorem fa_mask (n k : Nat) : nI n &&& nI (2 ^ k - 1) = nI (n % 2 ^ k) := by rw [fa_and, Nat.and_two_pow_sub_one_eq_mod]
/-- 'or' of a high part and a low one that don't meet is their sum -/
theorem fa_or_sum {a k : Nat} (b : Nat) (h : a < 2 ^ k) : nI (2 ^ k * b) ||| nI a = nI (2 ^ k * b + a) := by rw [fa_or, Nat.two_pow_add_eq_or_of_lt h]
/-- one bit, by 'and' with a power of two -/
theorem fa_bit {n j : Nat} (hj : j < 31) : nI n &&& nI (2 ^ j) = 0 ↔ n.testBit j = false := by
  have h2 : (2 : Nat) ^ j < 2 ^ 31 := Nat.pow_lt_pow_right (by decide) hj
  have hle : n &&& 2 ^ j ≤ 2 ^ j := Nat.and_le_right
  have e : n &&& 2 ^ j = 0 ↔ n.testBit j = false := by
    constructor
    · intro h
      have h1 : (n &&& 2 ^ j).testBit j = false := by rw [h]; simp
      rw [Nat.testBit_and] at h1
      first | simpa using h1 | simpa [Nat.testBit_two_pow_self] using h1 | simpa [Nat.testBit_two_pow] using h1
    · intro h
      apply Nat.eq_of_testBit_eq
      intro i
      rw [Nat.testBit_and]
      by_cases hi : j = i
      · subst hi; simp [h]
      · first | (simp [Nat.testBit_two_pow, hi]; done) | (simp [Nat.testBit_two_pow_of_ne hi]; done)
  rw [fa_and]
  constructor
  · intro h
    apply e.mp
    rcases Nat.eq_zero_or_pos (n &&& 2 ^ j) with z | z
    · exact z
    · exact absurd h (nI_ne0 z (Nat.lt_of_le_of_lt hle h2))
  · intro h
    rw [e.mpr h]; exact nI_0
/-- a remainder by a power of two of a number that isn't negative, as Java divides -/
theorem fa_rem {a k : Nat} (ha : a < 2 ^ 31) (hk : k < 31) : nI a - nI a / nI (2 ^ k) * nI (2 ^ k) = nI (a % 2 ^ k) := pk_rem ha (Nat.two_pow_pos k) (Nat.pow_lt_pow_right (by decide) hk)
/-! ===== drawers: more things than places ===== -/
theorem fb_holes : ∀ (m n : Nat) (f : Nat → Nat), (∀ i, i < n → f i < m) → (∀ i j, i < j → j < n → f i ≠ f j) → n ≤ m := by
  intro m
  induction m with
  | zero =>
    intro n f h1 _
    rcases Nat.eq_zero_or_pos n with h | h
    · omega
    · exact absurd (h1 0 h) (Nat.not_lt_zero _)
  | succ m ih =>
    intro n f h1 h2
    by_cases hx : ∃ i, i < n ∧ f i = m
    · obtain ⟨a, ha, hfa⟩ := hx
      have hg := ih (n - 1) (fun i => if i < a then f i else f (i + 1)) (by
        intro i hi
        by_cases q : i < a
        · simp only [if_pos q]
          have b1 := h1 i (by omega)
          have b2 := h2 i a q ha
          omega
        · simp only [if_neg q]
          have b1 := h1 (i + 1) (by omega)
          have b2 := h2 a (i + 1) (by omega) (by omega)
          omega) (by
        intro i j hij hj
        by_cases q : i < a
        · by_cases r : j < a
          · simp only [if_pos q, if_pos r]
            exact h2 i j hij (by omega)
          · simp only [if_pos q, if_neg r]
            exact h2 i (j + 1) (by omega) (by omega)
        · have r : ¬ j < a := by omega
          simp only [if_neg q, if_neg r]
          exact h2 (i + 1) (j + 1) (by omega) (by omega))
      omega
    · have hg := ih n f (fun i hi => by
        have b1 := h1 i hi
        have b2 : f i ≠ m := fun e => hx ⟨i, hi, e⟩
        omega) h2
      omega
/-- two of them in one place -/
theorem fb_twice {m n : Nat} {f : Nat → Nat} (h : ∀ i, i < n → f i < m) (hm : m < n) : ∃ i j, i < j ∧ j < n ∧ f i = f j := by
  refine Classical.byContradiction fun hx => ?_
  have := fb_holes m n f h (fun i j hij hj e => hx ⟨i, j, hij, hj, e⟩)
  omega
/-- as many as places, none twice: each place is taken -/
theorem fb_onto {n : Nat} {f : Nat → Nat} (h : ∀ i, i < n → f i < n) (h2 : ∀ i j, i < j → j < n → f i ≠ f j) {y : Nat} (hy : y < n) : ∃ i, i < n ∧ f i = y := by
  refine Classical.byContradiction fun hx => ?_
  have hne : ∀ i, i < n → f i ≠ y := fun i hi e => hx ⟨i, hi, e⟩
  have := fb_holes (n - 1) n (fun i => if f i < y then f i else f i - 1) (by
    intro i hi
    have b1 := h i hi
    have b2 := hne i hi
    by_cases q : f i < y
    · simp only [if_pos q]; omega
    · simp only [if_neg q]; omega) (by
    intro i j hij hj
    have b1 := hne i (by omega)
    have b2 := hne j hj
    have b3 := h2 i j hij hj
    by_cases q : f i < y
    · by_cases r : f j < y
      · simp only [if_pos q, if_pos r]; exact b3
      · simp only [if_pos q, if_neg r]; omega
    · by_cases r : f j < y
      · simp only [if_neg q, if_pos r]; omega
      · simp only [if_neg q, if_neg r]; omega)
  omega
/-! ===== how many places have a property ===== -/
def fb_ct (p : Nat → Bool) : Nat → Nat
  | 0 => 0
  | n + 1 => fb_ct p n + (if p n then 1 else 0)
theorem fb_ct_succ (p : Nat → Bool) (n : Nat) : fb_ct p (n + 1) = fb_ct p n + (if p n then 1 else 0) := rfl
theorem fb_ct_le (p : Nat → Bool) : ∀ n, fb_ct p n ≤ n
  | 0 => Nat.le_refl _
  | n + 1 => by
    have h := fb_ct_le p n
    rw [fb_ct_succ]
    split <;> omega
theorem fb_ct_step (p : Nat → Bool) (m : Nat) : ∀ n, fb_ct p m ≤ fb_ct p (m + n)
  | 0 => Nat.le_refl _
  | n + 1 => by
    have h := fb_ct_step p m n
    show fb_ct p m ≤ fb_ct p (m + n + 1)
    rw [fb_ct_succ]
    omega
theorem fb_ct_mono (p : Nat → Bool) {m n : Nat} (h : m ≤ n) : fb_ct p m ≤ fb_ct p n := by
  have := fb_ct_step p m (n - m)
  rwa [Nat.add_sub_cancel' h] at this
theorem fb_ct_cong {p q : Nat → Bool} : ∀ {n : Nat}, (∀ k, k < n → p k = q k) → fb_ct p n = fb_ct q n
  | 0, _ => rfl
  | n + 1, h => by
    rw [fb_ct_succ, fb_ct_succ, fb_ct_cong (fun k hk => h k (by omega)), h n (by omega)]
/-- one place changed -/
theorem fb_ct_out (p : Nat → Bool) (b : Bool) {i n : Nat} (h : n ≤ i) : fb_ct (fun k => if k = i then b else p k) n = fb_ct p n :=
  fb_ct_cong fun k hk => if_neg (by omega)
theorem fb_ct_upd (p : Nat → Bool) (b : Bool) {i : Nat} : ∀ {n : Nat}, i < n → fb_ct (fun k => if k = i then b else p k) n + (if p i then 1 else 0) = fb_ct p n + (if b then 1 else 0)
  | 0, h => absurd h (Nat.not_lt_zero i)
  | n + 1, h => by
    rw [fb_ct_succ, fb_ct_succ]
    rcases Nat.lt_or_ge i n with q | q
    · have := fb_ct_upd p b q
      have e : (if n = i then b else p n) = p n := if_neg (by omega)
      rw [e]
      omega
    · have e : i = n := by omega
      subst e
      rw [fb_ct_out p b (Nat.le_refl _)]
      simp only [if_true]
      omega
theorem fb_ct_sub {p q : Nat → Bool} : ∀ {n : Nat}, (∀ k, k < n → p k = true → q k = true) → fb_ct p n ≤ fb_ct q n
  | 0, _ => Nat.le_refl _
  | n + 1, h => by
    have h1 := fb_ct_sub (n := n) (p := p) (q := q) (fun k hk => h k (by omega))
    have h2 := h n (by omega)
    rw [fb_ct_succ, fb_ct_succ]
    cases hp : p n <;> cases hq : q n <;> simp_all <;> omega
theorem fb_ct_or {p q : Nat → Bool} : ∀ {n : Nat}, (∀ k, k < n → ¬ (p k = true ∧ q k = true)) → fb_ct (fun k => p k || q k) n = fb_ct p n + fb_ct q n
  | 0, _ => rfl
  | n + 1, h => by
    have h1 := fb_ct_or (n := n) (p := p) (q := q) (fun k hk => h k (by omega))
    have h2 := h n (by omega)
    rw [fb_ct_succ, fb_ct_succ, fb_ct_succ, h1]
    cases hp : p n <;> cases hq : q n <;> simp_all <;> omega
theorem fb_ct_not (p : Nat → Bool) : ∀ n, fb_ct p n + fb_ct (fun k => !p k) n = n
  | 0 => rfl
  | n + 1 => by
    have h := fb_ct_not p n
    rw [fb_ct_succ, fb_ct_succ]
    cases p n <;> simp <;> omega
theorem fb_ct_split (p : Nat → Bool) (m : Nat) : ∀ n, fb_ct p (m + n) = fb_ct p m + fb_ct (fun k => p (m + k)) n
  | 0 => rfl
  | n + 1 => by
    have h := fb_ct_split p m n
    show fb_ct p (m + n + 1) = _
    rw [fb_ct_succ, fb_ct_succ, h, Nat.add_assoc]
theorem fb_ct_zero {p : Nat → Bool} : ∀ {n : Nat}, fb_ct p n = 0 ↔ ∀ k, k < n → p k = false
  | 0 => ⟨fun _ k hk => absurd hk (Nat.not_lt_zero k), fun _ => rfl⟩
  | n + 1 => by
    have h := fb_ct_zero (p := p) (n := n)
    rw [fb_ct_succ]
    constructor
    · intro e k hk
      have e1 : fb_ct p n = 0 := by omega
      rcases Nat.lt_or_ge k n with q | q
      · exact h.mp e1 k q
      · have ek : k = n := by omega
        subst ek
        cases hp : p k
        · rfl
        · simp [hp] at e
    · intro a
      rw [h.mpr (fun k hk => a k (by omega)), a n (by omega)]
      rfl
theorem fb_ct_pos {p : Nat → Bool} {n : Nat} : 0 < fb_ct p n ↔ ∃ k, k < n ∧ p k = true := by
  constructor
  · intro h
    refine Classical.byContradiction fun hx => ?_
    have := fb_ct_zero.mpr (fun k hk => by
      cases hp : p k
      · rfl
      · exact absurd ⟨k, hk, hp⟩ hx : ∀ k, k < n → p k = false)
    omega
  · rintro ⟨k, hk, hp⟩
    rcases Nat.eq_zero_or_pos (fb_ct p n) with e | e
    · have := fb_ct_zero.mp e k hk
      rw [this] at hp
      cases hp
    · exact e
theorem fb_ct_all {p : Nat → Bool} {n : Nat} : fb_ct p n = n ↔ ∀ k, k < n → p k = true := by
  have h := fb_ct_not p n
  constructor
  · intro e k hk
    have z : fb_ct (fun k => !p k) n = 0 := by omega
    have := fb_ct_zero.mp z k hk
    cases hp : p k
    · simp [hp] at this
    · rfl
  · intro a
    have z : fb_ct (fun k => !p k) n = 0 := fb_ct_zero.mpr (fun k hk => by simp [a k hk])
    omega
/-- the k-th place with the property -/
theorem fb_ct_kth {p : Nat → Bool} {k : Nat} : ∀ {n : Nat}, k < fb_ct p n → ∃ i, i < n ∧ p i = true ∧ fb_ct p i = k
  | 0, h => absurd h (Nat.not_lt_zero k)
  | n + 1, h => by
    rcases Nat.lt_or_ge k (fb_ct p n) with q | q
    · obtain ⟨i, h1, h2⟩ := fb_ct_kth q
      exact ⟨i, by omega, h2⟩
    · rw [fb_ct_succ] at h
      cases hp : p n
      · simp [hp] at h; omega
      · simp [hp] at h
        exact ⟨n, by omega, hp, by omega⟩
theorem fb_ct_kth_one {p : Nat → Bool} {i j : Nat} (hi : p i = true) (hj : p j = true) (e : fb_ct p i = fb_ct p j) : i = j := by
  have key : ∀ a b : Nat, a < b → p a = true → fb_ct p a < fb_ct p b := by
    intro a b hab ha
    have h := fb_ct_mono p (show a + 1 ≤ b from hab)
    rw [fb_ct_succ, ha] at h
    simp at h
    omega
  rcases Nat.lt_trichotomy i j with q | q | q
  · have := key i j q hi; omega
  · exact q
  · have := key j i q hj; omega
/-! ===== bits of a long that isn't negative ===== -/
theorem fb_andL (a b : Nat) : lN a &&& lN b = lN (a &&& b) := by
  apply Int64.toBitVec_inj.1
  show BitVec.ofNat 64 a &&& BitVec.ofNat 64 b = BitVec.ofNat 64 (a &&& b)
  apply BitVec.eq_of_getLsbD_eq
  intro i hi
  simp [hi]
theorem fb_orL (a b : Nat) : lN a ||| lN b = lN (a ||| b) := by
  apply Int64.toBitVec_inj.1
  show BitVec.ofNat 64 a ||| BitVec.ofNat 64 b = BitVec.ofNat 64 (a ||| b)
  apply BitVec.eq_of_getLsbD_eq
  intro i hi
  simp [hi]
theorem fb_xorL (a b : Nat) : lN a ^^^ lN b = lN (a ^^^ b) := by
  apply Int64.toBitVec_inj.1
  show BitVec.ofNat 64 a ^^^ BitVec.ofNat 64 b = BitVec.ofNat 64 (a ^^^ b)
  apply BitVec.eq_of_getLsbD_eq
  intro i hi
  simp [hi]
theorem fb_xorI (a b : Nat) : nI a ^^^ nI b = nI (a ^^^ b) := by
  apply Int32.toBitVec_inj.1
  show BitVec.ofNat 32 a ^^^ BitVec.ofNat 32 b = BitVec.ofNat 32 (a ^^^ b)
  apply BitVec.eq_of_getLsbD_eq
  intro i hi
  simp [hi]
theorem fb_maskL (n k : Nat) : lN n &&& lN (2 ^ k - 1) = lN (n % 2 ^ k) := by rw [fb_andL, Nat.and_two_pow_sub_one_eq_mod]
theorem fb_or_sumL {a k : Nat} (b : Nat) (h : a < 2 ^ k) : lN (2 ^ k * b) ||| lN a = lN (2 ^ k * b + a) := by rw [fb_orL, Nat.two_pow_add_eq_or_of_lt h]
theorem fb_lN_inj {a b : Nat} (ha : a < 2 ^ 63) (hb : b < 2 ^ 63) : lN a = lN b ↔ a = b := by
  constructor
  · intro h
    have h1 : (BitVec.ofNat 64 a).toNat = (BitVec.ofNat 64 b).toNat := congrArg (fun x : Int64 => x.toBitVec.toNat) h
    rw [BitVec.toNat_ofNat, BitVec.toNat_ofNat, Nat.mod_eq_of_lt (by omega), Nat.mod_eq_of_lt (by omega)] at h1
    exact h1
  · rintro rfl; rfl
theorem fb_bit_nat (n j : Nat) : n &&& 2 ^ j = 0 ↔ n.testBit j = false := by
  constructor
  · intro h
    have h1 : (n &&& 2 ^ j).testBit j = false := by rw [h]; simp
    rw [Nat.testBit_and] at h1
    simpa using h1
  · intro h
    apply Nat.eq_of_testBit_eq
    intro i
    rw [Nat.testBit_and]
    by_cases hi : j = i
    · subst hi; simp [h]
    · first | (simp [Nat.testBit_two_pow, hi]; done) | (simp [Nat.testBit_two_pow_of_ne hi]; done)
/-- one bit of a long -/
theorem fb_bitL {n j : Nat} (hj : j < 63) : lN n &&& lN (2 ^ j) = 0 ↔ n.testBit j = false := by
  have h2 : (2 : Nat) ^ j < 2 ^ 63 := Nat.pow_lt_pow_right (by decide) hj
  have hle : n &&& 2 ^ j ≤ 2 ^ j := Nat.and_le_right
  rw [fb_andL, ← fb_bit_nat, show (0 : Int64) = lN 0 from rfl]
  exact fb_lN_inj (by omega) (by decide)
/-- a bit set, a bit taken off -/
theorem fb_bit_set (n j i : Nat) : (n ||| 2 ^ j).testBit i = (n.testBit i || decide (i = j)) := by
  rw [Nat.testBit_or]
  by_cases h : j = i
  · subst h; simp
  · have h2 : ¬ i = j := fun e => h e.symm
    first | (simp [Nat.testBit_two_pow, h, h2]; done) | (simp [Nat.testBit_two_pow_of_ne h, h2]; done)
theorem fb_bit_flip (n j i : Nat) : (n ^^^ 2 ^ j).testBit i = (n.testBit i ^^ decide (i = j)) := by
  rw [Nat.testBit_xor]
  by_cases h : j = i
  · subst h; simp
  · have h2 : ¬ i = j := fun e => h e.symm
    first | (simp [Nat.testBit_two_pow, h, h2]; done) | (simp [Nat.testBit_two_pow_of_ne h, h2]; done)
/-! ===== signed ints as whole numbers, within bounds ===== -/
theorem fb_rng (x : Int32) : -2147483648 ≤ x.toInt ∧ x.toInt < 2147483648 := by
  have h1 := Int32.le_toInt x
  have h2 := Int32.toInt_lt x
  omega
theorem fb_bmod {z : Int} (h1 : -2147483648 ≤ z) (h2 : z < 2147483648) : z.bmod (2 ^ 32) = z := by
  rw [Int.bmod_eq_of_le (by omega) (by omega)]
theorem fb_addI {x y : Int32} (h1 : -2147483648 ≤ x.toInt + y.toInt) (h2 : x.toInt + y.toInt < 2147483648) : (x + y).toInt = x.toInt + y.toInt := by
  rw [Int32.toInt_add, fb_bmod h1 h2]
theorem fb_subI {x y : Int32} (h1 : -2147483648 ≤ x.toInt - y.toInt) (h2 : x.toInt - y.toInt < 2147483648) : (x - y).toInt = x.toInt - y.toInt := by
  rw [Int32.toInt_sub, fb_bmod h1 h2]
theorem fb_mulI {x y : Int32} (h1 : -2147483648 ≤ x.toInt * y.toInt) (h2 : x.toInt * y.toInt < 2147483648) : (x * y).toInt = x.toInt * y.toInt := by
  rw [Int32.toInt_mul, fb_bmod h1 h2]
theorem fb_negI {x : Int32} (h : x.toInt ≠ -2147483648) : (-x).toInt = -x.toInt := by
  have := fb_rng x
  rw [Int32.toInt_neg, fb_bmod (by omega) (by omega)]
theorem fb_ofI {z : Int} (h1 : -2147483648 ≤ z) (h2 : z < 2147483648) : (Int32.ofInt z).toInt = z := by
  rw [Int32.toInt_ofInt, fb_bmod h1 h2]
theorem fb_asI (x : Int32) : Int32.ofInt x.toInt = x := Int32.ofInt_toInt x
theorem fb_rngL (x : Int64) : -9223372036854775808 ≤ x.toInt ∧ x.toInt < 9223372036854775808 := by
  have h1 := Int64.le_toInt x
  have h2 := Int64.toInt_lt x
  omega
theorem fb_bmodL {z : Int} (h1 : -9223372036854775808 ≤ z) (h2 : z < 9223372036854775808) : z.bmod (2 ^ 64) = z := by
  rw [Int.bmod_eq_of_le (by omega) (by omega)]
theorem fb_addL {x y : Int64} (h1 : -9223372036854775808 ≤ x.toInt + y.toInt) (h2 : x.toInt + y.toInt < 9223372036854775808) : (x + y).toInt = x.toInt + y.toInt := by
  rw [Int64.toInt_add, fb_bmodL h1 h2]
theorem fb_subL {x y : Int64} (h1 : -9223372036854775808 ≤ x.toInt - y.toInt) (h2 : x.toInt - y.toInt < 9223372036854775808) : (x - y).toInt = x.toInt - y.toInt := by
  rw [Int64.toInt_sub, fb_bmodL h1 h2]
theorem fb_mulL {x y : Int64} (h1 : -9223372036854775808 ≤ x.toInt * y.toInt) (h2 : x.toInt * y.toInt < 9223372036854775808) : (x * y).toInt = x.toInt * y.toInt := by
  rw [Int64.toInt_mul, fb_bmodL h1 h2]
/-! ===== cuts of what is narrow already ===== -/
theorem fb_byte {x : Int32} (h1 : -128 ≤ x.toInt) (h2 : x.toInt < 128) : x.toInt8.toInt32 = x := by
  apply Int32.toInt_inj.1
  rw [Int8.toInt_toInt32, Int32.toInt_toInt8, Int.bmod_eq_of_le (by omega) (by omega)]
theorem fb_short {x : Int32} (h1 : -32768 ≤ x.toInt) (h2 : x.toInt < 32768) : x.toInt16.toInt32 = x := by
  apply Int32.toInt_inj.1
  rw [Int16.toInt_toInt32, Int32.toInt_toInt16, Int.bmod_eq_of_le (by omega) (by omega)]
theorem fb_byte_rng (x : Int32) : -128 ≤ x.toInt8.toInt32.toInt ∧ x.toInt8.toInt32.toInt < 128 := by
  rw [Int8.toInt_toInt32]
  have h1 := Int8.le_toInt x.toInt8
  have h2 := Int8.toInt_lt x.toInt8
  omega
theorem fb_short_rng (x : Int32) : -32768 ≤ x.toInt16.toInt32.toInt ∧ x.toInt16.toInt32.toInt < 32768 := by
  rw [Int16.toInt_toInt32]
  have h1 := Int16.le_toInt x.toInt16
  have h2 := Int16.toInt_lt x.toInt16
  omega
theorem fb_byte_twice (x : Int32) : x.toInt8.toInt32.toInt8.toInt32 = x.toInt8.toInt32 := fb_byte (fb_byte_rng x).1 (fb_byte_rng x).2
theorem fb_short_twice (x : Int32) : x.toInt16.toInt32.toInt16.toInt32 = x.toInt16.toInt32 := fb_short (fb_short_rng x).1 (fb_short_rng x).2
/-! ===== lN n to 2^64: shifts, and, or, masks, one bit ===== -/
theorem wb_tb (n : Nat) : (lN n).toBitVec = BitVec.ofNat 64 n := rfl
theorem wb_inj {a b : Int64} (h : a.toBitVec = b.toBitVec) : a = b := Int64.toBitVec_inj.mp h
theorem wb_tn {n : Nat} (h : n < 2 ^ 64) : (lN n).toBitVec.toNat = n := by rw [wb_tb, BitVec.toNat_ofNat, Nat.mod_eq_of_lt h]
theorem wb_of (x : Int64) : ∃ n, n < 2 ^ 64 ∧ x = lN n := ⟨x.toBitVec.toNat, x.toBitVec.isLt, wb_inj (by rw [wb_tb]; simp)⟩
theorem wb_of32 (x : Int32) : ∃ n, n < 2 ^ 32 ∧ x = nI n := ⟨x.toBitVec.toNat, x.toBitVec.isLt, Int32.toBitVec_inj.mp (by show _ = BitVec.ofNat 32 _; simp)⟩
theorem wb_c : ∀ k, k < 64 → ((nI k).toInt64 &&& 63) = lN k := by decide +kernel
theorem wb_cu : ∀ k, k < 64 → ((nI k).toInt64.toUInt64 &&& Int64.toUInt64 63) = UInt64.ofNat k := by decide +kernel
theorem wb_sm : ∀ k, k < 64 → (BitVec.ofNat 64 k).smod 64 = BitVec.ofNat 64 k := by decide +kernel
theorem wb_pw {a b : Nat} (h : a ≤ b) : 2 ^ b = 2 ^ a * 2 ^ (b - a) := by rw [← Nat.pow_add]; congr 1; omega
theorem wb_lt2 {a b : Nat} (h : a < b) : 2 ^ a < 2 ^ b := Nat.pow_lt_pow_right (by decide) h
theorem wb_mod (n : Nat) : lN n = lN (n % 2 ^ 64) := wb_inj (by rw [wb_tb, wb_tb]; apply BitVec.eq_of_toNat_eq; rw [BitVec.toNat_ofNat, BitVec.toNat_ofNat, Nat.mod_mod])
theorem wb_shr {n k : Nat} (hn : n < 2 ^ 64) (hk : k < 64) : ((lN n).toUInt64 >>> ((nI k).toInt64.toUInt64 &&& Int64.toUInt64 63)).toInt64 = lN (n / 2 ^ k) := by
  rw [wb_cu k hk]
  apply wb_inj
  apply BitVec.eq_of_toNat_eq
  show ((lN n).toUInt64 >>> UInt64.ofNat k).toNat = (BitVec.ofNat 64 _).toNat
  have h1 : (UInt64.ofNat k).toNat = k := by
    show (BitVec.ofNat 64 k).toNat = k
    rw [BitVec.toNat_ofNat, Nat.mod_eq_of_lt (by omega)]
  have h2 : (lN n).toUInt64.toNat = n := wb_tn hn
  rw [UInt64.toNat_shiftRight, h1, h2, Nat.mod_eq_of_lt hk, Nat.shiftRight_eq_div_pow, BitVec.toNat_ofNat, Nat.mod_eq_of_lt (Nat.lt_of_le_of_lt (Nat.div_le_self _ _) hn)]
theorem wb_shl (n : Nat) {k : Nat} (hk : k < 64) : lN n <<< ((nI k).toInt64 &&& 63) = lN (n * 2 ^ k) := by
  rw [wb_c k hk]
  apply wb_inj
  rw [Int64.toBitVec_shiftLeft, wb_tb, wb_tb, wb_tb, wb_sm k hk]
  apply BitVec.eq_of_toNat_eq
  rw [BitVec.shiftLeft_eq', BitVec.toNat_shiftLeft, BitVec.toNat_ofNat, BitVec.toNat_ofNat, BitVec.toNat_ofNat, Nat.mod_eq_of_lt (show k < 2 ^ 64 by omega), Nat.shiftLeft_eq, Nat.mul_mod, Nat.mod_mod, ← Nat.mul_mod]
theorem wb_and {a b : Nat} (ha : a < 2 ^ 64) (hb : b < 2 ^ 64) : lN a &&& lN b = lN (a &&& b) := by
  apply wb_inj
  rw [Int64.toBitVec_and, wb_tb, wb_tb, wb_tb]
  apply BitVec.eq_of_toNat_eq
  rw [BitVec.toNat_and, BitVec.toNat_ofNat, BitVec.toNat_ofNat, BitVec.toNat_ofNat, Nat.mod_eq_of_lt ha, Nat.mod_eq_of_lt hb, Nat.mod_eq_of_lt (Nat.and_lt_two_pow _ hb)]
theorem wb_or {a b : Nat} (ha : a < 2 ^ 64) (hb : b < 2 ^ 64) : lN a ||| lN b = lN (a ||| b) := by
  apply wb_inj
  rw [Int64.toBitVec_or, wb_tb, wb_tb, wb_tb]
  apply BitVec.eq_of_toNat_eq
  rw [BitVec.toNat_or, BitVec.toNat_ofNat, BitVec.toNat_ofNat, BitVec.toNat_ofNat, Nat.mod_eq_of_lt ha, Nat.mod_eq_of_lt hb, Nat.mod_eq_of_lt (Nat.or_lt_two_pow ha hb)]
theorem wb_mask {n k : Nat} (hn : n < 2 ^ 64) (hk : k < 64) : lN n &&& lN (2 ^ k - 1) = lN (n % 2 ^ k) := by
  rw [wb_and hn (by have := wb_lt2 hk; omega), Nat.and_two_pow_sub_one_eq_mod]
theorem wb_a1 {n : Nat} (hn : n < 2 ^ 64) : lN n &&& 1 = lN (n % 2) := wb_mask (k := 1) hn (by decide)
theorem wb_bit {n k : Nat} (hn : n < 2 ^ 64) (hk : k < 64) : ((lN n).toUInt64 >>> ((nI k).toInt64.toUInt64 &&& Int64.toUInt64 63)).toInt64 &&& 1 = lN (n / 2 ^ k % 2) := by
  rw [wb_shr hn hk, wb_a1 (Nat.lt_of_le_of_lt (Nat.div_le_self _ _) hn)]
theorem wb_xor {q k : Nat} (hk : k < 63) (h : 2 ^ k ≤ q) (h2 : q < 2 ^ (k + 1)) : lN q ^^^ lN (2 ^ k) = lN (q - 2 ^ k) := by
  obtain ⟨r, rfl⟩ : ∃ r, q = 2 ^ k + r := ⟨q - 2 ^ k, by omega⟩
  have hr : r < 2 ^ k := by rw [Nat.pow_succ] at h2; omega
  have hx : (2 ^ k + r) ^^^ 2 ^ k = r := by
    apply Nat.eq_of_testBit_eq
    intro i
    rw [Nat.testBit_xor, Nat.testBit_two_pow]
    rcases Nat.lt_trichotomy i k with h | h | h
    · rw [Nat.testBit_two_pow_add_gt h]
      simp [show ¬ k = i by omega]
    · subst h
      rw [Nat.testBit_two_pow_add_eq]
      simp
    · have a1 : 2 ^ (k + 1) ≤ 2 ^ i := Nat.pow_le_pow_right (by decide) h
      rw [Nat.testBit_lt_two_pow (show 2 ^ k + r < 2 ^ i by omega), Nat.testBit_lt_two_pow (show r < 2 ^ i by omega)]
      simp [show ¬ k = i by omega]
  have b1 := wb_lt2 (show k + 1 < 64 by omega)
  have b2 := wb_lt2 (show k < 64 by omega)
  apply wb_inj
  rw [Int64.toBitVec_xor, wb_tb, wb_tb, wb_tb]
  apply BitVec.eq_of_toNat_eq
  rw [BitVec.toNat_xor, BitVec.toNat_ofNat, BitVec.toNat_ofNat, BitVec.toNat_ofNat, Nat.mod_eq_of_lt (by omega : 2 ^ k + r < 2 ^ 64), Nat.mod_eq_of_lt b2, hx, Nat.add_sub_cancel_left, Nat.mod_eq_of_lt (by omega)]
/-! ===== lN to 2^62 under >> and >>> ===== -/
theorem pf_lI {a : Nat} (h : a < 2 ^ 63) : (lN a).toInt = (a : Int) := lg_ofNat_toInt h
theorem pf_shr {a d : Nat} {D : Int64} (hD : (D.toBitVec.smod 64).toNat = d) (h : a < 2 ^ 62) : lN a >>> D = lN (a / 2 ^ d) := by
  have hd : a / 2 ^ d ≤ a := Nat.div_le_self _ _
  apply Int64.toInt_inj.mp
  have e : (lN a >>> D).toInt = (lN a).toInt >>> d := by
    rw [← hD]
    exact BitVec.toInt_sshiftRight ..
  rw [e, Int.shiftRight_eq_div_pow, pf_lI (by omega), pf_lI (by omega)]
  rfl
theorem pf_ushr {a d : Nat} {D : UInt64} (hD : D.toNat % 64 = d) (h : a < 2 ^ 62) : ((lN a).toUInt64 >>> D).toInt64 = lN (a / 2 ^ d) := by
  have hd : a / 2 ^ d ≤ a := Nat.div_le_self _ _
  have e : (lN a).toUInt64 >>> D = UInt64.ofNat (a / 2 ^ d) := UInt64.toNat_inj.mp (by
    rw [UInt64.toNat_shiftRight, hD, Nat.shiftRight_eq_div_pow, UInt64.toNat_ofNat']
    show (UInt64.ofNat a).toNat / 2 ^ d = _
    rw [UInt64.toNat_ofNat', Nat.mod_eq_of_lt (by omega), Nat.mod_eq_of_lt (by omega)])
  rw [e]
  rfl
/-! reads behind writes -/
theorem rI_uI (σ : Sg) (t i j k : Nat) (v : Int32) (a b c d : Nat) : rI (uI σ t i j k v) a b c d = if a = t ∧ b = i ∧ c = j ∧ d = k then v else rI σ a b c d := rfl
theorem rL_uI (σ : Sg) (t i j k : Nat) (v : Int32) (a b c d : Nat) : rL (uI σ t i j k v) a b c d = rL σ a b c d := rfl
theorem rI_uL (σ : Sg) (t i j k : Nat) (v : Int64) (a b c d : Nat) : rI (uL σ t i j k v) a b c d = rI σ a b c d := rfl
theorem rL_uL (σ : Sg) (t i j k : Nat) (v : Int64) (a b c d : Nat) : rL (uL σ t i j k v) a b c d = if a = t ∧ b = i ∧ c = j ∧ d = k then v else rL σ a b c d := rfl
theorem rI_uA (σ : Sg) (t i j : Nat) (f : Nat → Int32) (a b c d : Nat) : rI (uA σ t i j f) a b c d = if a = t ∧ b = i ∧ c = j then f d else rI σ a b c d := by
  show (if a = t ∧ b = i ∧ c = j then f else σ.1 a b c) d = _
  split <;> rfl
theorem rL_uA (σ : Sg) (t i j : Nat) (f : Nat → Int32) (a b c d : Nat) : rL (uA σ t i j f) a b c d = rL σ a b c d := rfl
theorem rI_ap (σ : Sg) (a b c d : Nat) : σ.1 a b c d = rI σ a b c d := rfl
theorem rL_ap (σ : Sg) (a b c d : Nat) : σ.2 a b c d = rL σ a b c d := rfl
/-! guards, small numbers -/
theorem gi {α : Type} {a n : Nat} (h : a < n) (hn : n < 2147483648) (o : Option α) : gd (ib (nI a) n) o = o := by
  apply gd_t
  unfold ib
  rw [Bool.and_eq_true, decide_eq_true_eq, decide_eq_true_eq, nI_clamp (by omega)]
  exact ⟨nI_pos (by omega), h⟩
theorem ct {α : Type} {c : Prop} [Decidable c] (h : c) (x y : α) : (if c then x else y) = x := if_pos h
theorem cf {α : Type} {c : Prop} [Decidable c] (h : ¬ c) (x y : α) : (if c then x else y) = y := if_neg h
theorem ile_t {α : Type} {a b : Nat} (h : a ≤ b) (hb : b < 2147483648) (x y : α) : (if nI a ≤ nI b then x else y) = x := if_pos (nI_le h hb)
theorem ile_f {α : Type} {a b : Nat} (h : b < a) (ha : a < 2147483648) (x y : α) : (if nI a ≤ nI b then x else y) = y := if_neg (nI_ge h ha)
theorem ilt_t {α : Type} {a b : Nat} (h : a < b) (hb : b < 2147483648) (x y : α) : (if nI a < nI b then x else y) = x := if_pos (nI_lt h hb)
theorem ilt_f {α : Type} {a b : Nat} (h : b ≤ a) (ha : a < 2147483648) (x y : α) : (if nI a < nI b then x else y) = y := if_neg (nI_nlt h ha)
theorem ieq_t {α : Type} {a b : Nat} (h : a = b) (x y : α) : (if nI a = nI b then x else y) = x := if_pos (by rw [h])
theorem ieq_f {α : Type} {a b : Nat} (h : a ≠ b) (ha : a < 2147483648) (hb : b < 2147483648) (x y : α) : (if nI a = nI b then x else y) = y := if_neg (fun e => h ((nI_eq ha hb).mp e))
theorem iz_t {α : Type} {a : Nat} (h : a = 0) (x y : α) : (if nI a = 0 then x else y) = x := if_pos (by rw [h]; rfl)
theorem iz_f {α : Type} {a : Nat} (h : a ≠ 0) (ha : a < 2147483648) (x y : α) : (if nI a = 0 then x else y) = y := if_neg (nI_ne0 (by omega) ha)
theorem n0 : (0 : Int32) = nI 0 := rfl
theorem n1 : (1 : Int32) = nI 1 := rfl
theorem n2 : (2 : Int32) = nI 2 := rfl
theorem n3 : (3 : Int32) = nI 3 := rfl
theorem n4 : (4 : Int32) = nI 4 := rfl
theorem n5 : (5 : Int32) = nI 5 := rfl
theorem n6 : (6 : Int32) = nI 6 := rfl
theorem n7 : (7 : Int32) = nI 7 := rfl
theorem n8 : (8 : Int32) = nI 8 := rfl
theorem n9 : (9 : Int32) = nI 9 := rfl
theorem n10 : (10 : Int32) = nI 10 := rfl
theorem n12 : (12 : Int32) = nI 12 := rfl
theorem n14 : (14 : Int32) = nI 14 := rfl
theorem n20 : (20 : Int32) = nI 20 := rfl
theorem n21 : (21 : Int32) = nI 21 := rfl
theorem n22 : (22 : Int32) = nI 22 := rfl
theorem n28 : (28 : Int32) = nI 28 := rfl
theorem n40 : (40 : Int32) = nI 40 := rfl
theorem n47 : (47 : Int32) = nI 47 := rfl
theorem n48 : (48 : Int32) = nI 48 := rfl
theorem n60 : (60 : Int32) = nI 60 := rfl
theorem n95 : (95 : Int32) = nI 95 := rfl
theorem n96 : (96 : Int32) = nI 96 := rfl
theorem n880 : (880 : Int32) = nI 880 := rfl
/-! loops that count up -/
theorem up_rel {S R : Type} (F : Nat → Int32 → S → Option R) (K : Int32 → S → Option R) (I : Nat → S → Prop) (b : Nat)
    (he : ∀ n s, I b s → F (n + 1) (nI b) s = K (nI b) s)
    (hs : ∀ n j s, j < b → I j s → ∃ s', F (n + 1) (nI j) s = F n (nI (j + 1)) s' ∧ I (j + 1) s') :
    ∀ m j s n, j + m = b → I j s → m < n → ∃ s', F n (nI j) s = K (nI b) s' ∧ I b s' := by
  intro m
  induction m with
  | zero =>
    intro j s n hj hI hn
    obtain ⟨n, rfl⟩ : ∃ q, n = q + 1 := ⟨n - 1, by omega⟩
    have e : j = b := by omega
    subst e
    exact ⟨s, he n s hI, hI⟩
  | succ m ih =>
    intro j s n hj hI hn
    obtain ⟨n, rfl⟩ : ∃ q, n = q + 1 := ⟨n - 1, by omega⟩
    obtain ⟨s', e, hI'⟩ := hs n j s (by omega) hI
    obtain ⟨s2, e2, hI2⟩ := ih (j + 1) s' n (by omega) hI' (by omega)
    exact ⟨s2, by rw [e, e2], hI2⟩
/-- a loop whose variables are a function of the counter -/
theorem up_eq {S R : Type} (F : Nat → Int32 → S → Option R) (K : Int32 → S → Option R) (v : Nat → S) (a b : Nat)
    (he : ∀ n, F (n + 1) (nI b) (v b) = K (nI b) (v b))
    (hs : ∀ n j, a ≤ j → j < b → F (n + 1) (nI j) (v j) = F n (nI (j + 1)) (v (j + 1))) (n : Nat) (hj : a ≤ b) (hn : b - a < n) : F n (nI a) (v a) = K (nI b) (v b) := by
  obtain ⟨s', e, -, h⟩ := up_rel F K (fun j s => a ≤ j ∧ s = v j) b (fun n s h => by rw [h.2]; exact he n) (fun n j s hj h => ⟨v (j + 1), by rw [h.2]; exact hs n j h.1 hj, by omega, rfl⟩) (b - a) a (v a) n (by omega) ⟨Nat.le_refl _, rfl⟩ hn
  rw [e, h]
/-- a loop that may end early -/
theorem up_gen {S R : Type} (F : Nat → Int32 → S → Option R) (K : Int32 → S → Option R) (I : Nat → S → Prop) (Q : Option R → Prop) (b : Nat)
    (he : ∀ n s, I b s → F (n + 1) (nI b) s = K (nI b) s)
    (hs : ∀ n j s, j < b → I j s → (∃ s', F (n + 1) (nI j) s = F n (nI (j + 1)) s' ∧ I (j + 1) s') ∨ Q (F (n + 1) (nI j) s)) :
    ∀ m j s n, j + m = b → I j s → m < n → (∃ s', F n (nI j) s = K (nI b) s' ∧ I b s') ∨ Q (F n (nI j) s) := by
  intro m
  induction m with
  | zero =>
    intro j s n hj hI hn
    obtain ⟨n, rfl⟩ : ∃ q, n = q + 1 := ⟨n - 1, by omega⟩
    have e : j = b := by omega
    subst e
    exact Or.inl ⟨s, he n s hI, hI⟩
  | succ m ih =>
    intro j s n hj hI hn
    obtain ⟨n, rfl⟩ : ∃ q, n = q + 1 := ⟨n - 1, by omega⟩
    rcases hs n j s (by omega) hI with ⟨s', e, hI'⟩ | hQ
    · rcases ih (j + 1) s' n (by omega) hI' (by omega) with ⟨s2, e2, hI2⟩ | hQ
      · exact Or.inl ⟨s2, by rw [e, e2], hI2⟩
      · exact Or.inr (by rw [e]; exact hQ)
    · exact Or.inr hQ
/-! sets as numbers -/
def msk (p : Nat → Bool) : Nat → Nat
  | 0 => 0
  | n + 1 => msk p n + (if p n then 2 ^ n else 0)
theorem msk_succ (p : Nat → Bool) (n : Nat) : msk p (n + 1) = msk p n + (if p n then 2 ^ n else 0) := rfl
theorem msk_lt (p : Nat → Bool) (n : Nat) : msk p n < 2 ^ n := by
  induction n with
  | zero => exact Nat.one_pos
  | succ n ih =>
    rw [msk_succ, Nat.pow_succ]
    split <;> omega
theorem msk_bit (p : Nat → Bool) (n : Nat) : ∀ i, (msk p n).testBit i = (decide (i < n) && p i) := by
  induction n with
  | zero => intro i; rw [show msk p 0 = 0 from rfl, Nat.zero_testBit]; simp
  | succ n ih =>
    intro i
    rw [msk_succ]
    cases hp : p n with
    | false =>
      rw [if_neg (by decide), Nat.add_zero, ih]
      by_cases h : i = n
      · subst h; simp [hp]
      · have e : decide (i < n) = decide (i < n + 1) := by rw [decide_eq_decide]; omega
        rw [e]
    | true =>
      rw [if_pos rfl, Nat.add_comm]
      rcases Nat.lt_trichotomy i n with h | h | h
      · rw [Nat.testBit_two_pow_add_gt h, ih]
        have e : decide (i < n) = decide (i < n + 1) := by rw [decide_eq_decide]; omega
        rw [e]
      · subst h
        rw [Nat.testBit_two_pow_add_eq, ih]
        simp [hp]
      · have hl := msk_lt p n
        have h2 : 2 ^ n + msk p n < 2 ^ i := by
          have h3 : 2 ^ (n + 1) ≤ 2 ^ i := Nat.pow_le_pow_right (by decide) h
          rw [Nat.pow_succ] at h3
          omega
        rw [Nat.testBit_lt_two_pow h2]
        have e : decide (i < n + 1) = false := by rw [decide_eq_false_iff_not]; omega
        rw [e]
        rfl
theorem msk_ext {a n : Nat} {p : Nat → Bool} (ha : a < 2 ^ n) (h : ∀ i, i < n → a.testBit i = p i) : a = msk p n := by
  apply Nat.eq_of_testBit_eq
  intro i
  rw [msk_bit]
  by_cases hi : i < n
  · rw [h i hi]
    simp [hi]
  · rw [Nat.testBit_lt_two_pow (Nat.lt_of_lt_of_le ha (Nat.pow_le_pow_right (by decide) (by omega)))]
    simp [hi]
theorem msk_cong {p q : Nat → Bool} {n : Nat} (h : ∀ i, i < n → p i = q i) : msk p n = msk q n :=
  msk_ext (msk_lt p n) (fun i hi => by rw [msk_bit, h i hi]; simp [hi])
theorem msk_inj {p q : Nat → Bool} {n : Nat} (h : msk p n = msk q n) : ∀ i, i < n → p i = q i := by
  intro i hi
  have h1 := msk_bit p n i
  rw [h, msk_bit] at h1
  simpa [hi] using h1.symm
theorem msk_and (p q : Nat → Bool) (n : Nat) : msk p n &&& msk q n = msk (fun i => p i && q i) n :=
  msk_ext (Nat.and_lt_two_pow _ (msk_lt q n)) (fun i hi => by rw [Nat.testBit_and, msk_bit, msk_bit]; simp [hi])
theorem msk_or (p q : Nat → Bool) (n : Nat) : msk p n ||| msk q n = msk (fun i => p i || q i) n :=
  msk_ext (Nat.or_lt_two_pow (msk_lt p n) (msk_lt q n)) (fun i hi => by rw [Nat.testBit_or, msk_bit, msk_bit]; simp [hi])
theorem msk_add {p : Nat → Bool} {n j : Nat} (hj : j < n) : msk p n ||| 2 ^ j = msk (fun i => p i || decide (i = j)) n :=
  msk_ext (Nat.or_lt_two_pow (msk_lt p n) (Nat.pow_lt_pow_right (by decide) hj)) (fun i hi => by
    rw [Nat.testBit_or, msk_bit, Nat.testBit_two_pow]
    have e : decide (j = i) = decide (i = j) := by rw [decide_eq_decide]; exact eq_comm
    simp [hi, e])
theorem msk_not (p q : Nat → Bool) {n k : Nat} (hk : n ≤ k) : msk p n &&& (msk q n ^^^ (2 ^ k - 1)) = msk (fun i => p i && !q i) n :=
  msk_ext (Nat.lt_of_le_of_lt Nat.and_le_left (msk_lt p n)) (fun i hi => by
    rw [Nat.testBit_and, Nat.testBit_xor, msk_bit, msk_bit, Nat.testBit_two_pow_sub_one]
    have e : decide (i < k) = true := by rw [decide_eq_true_eq]; omega
    simp [hi, e])
theorem msk_zero {p : Nat → Bool} {n : Nat} : msk p n = 0 ↔ ∀ i, i < n → p i = false := by
  constructor
  · intro h i hi
    have h1 := msk_bit p n i
    rw [h, Nat.zero_testBit] at h1
    simpa [hi] using h1.symm
  · intro h
    rw [msk_cong (q := fun _ => false) h]
    exact (msk_ext (Nat.two_pow_pos n) (fun i _ => Nat.zero_testBit i)).symm
theorem msk_none (n : Nat) : msk (fun _ => false) n = 0 := msk_zero.mpr (fun _ _ => rfl)
/-! the two halves of a row of cells as longs -/
theorem m48 (p : Nat → Bool) : msk p 48 < 281474976710656 := msk_lt p 48
theorem lN_m1 : (-1 : Int64) = lN 18446744073709551615 := rfl
theorem L_and (p q : Nat → Bool) : lN (msk p 48) &&& lN (msk q 48) = lN (msk (fun i => p i && q i) 48) := by rw [fb_andL, msk_and]
theorem L_or (p q : Nat → Bool) : lN (msk p 48) ||| lN (msk q 48) = lN (msk (fun i => p i || q i) 48) := by rw [fb_orL, msk_or]
theorem L_not (p q : Nat → Bool) : lN (msk p 48) &&& (lN (msk q 48) ^^^ (-1)) = lN (msk (fun i => p i && !q i) 48) := by
  rw [lN_m1, fb_xorL, fb_andL, show (18446744073709551615 : Nat) = 2 ^ 64 - 1 from rfl, msk_not p q (by decide)]
theorem L_1 : ∀ j, j < 63 → (1 : Int64) <<< ((nI j).toInt64 &&& 63) = lN (2 ^ j) := by decide +kernel
theorem L_add {p : Nat → Bool} {j : Nat} (hj : j < 48) : lN (msk p 48) ||| ((1 : Int64) <<< ((nI j).toInt64 &&& 63)) = lN (msk (fun i => p i || decide (i = j)) 48) := by
  rw [L_1 j (by omega), fb_orL, msk_add hj]
theorem L_zero (p : Nat → Bool) : lN (msk p 48) = 0 ↔ ∀ i, i < 48 → p i = false := by
  have h := m48 p
  rw [show (0 : Int64) = lN 0 from rfl, fb_lN_inj (by omega) (by decide), msk_zero]
theorem L_cong {p q : Nat → Bool} (h : ∀ i, i < 48 → p i = q i) : lN (msk p 48) = lN (msk q 48) := by rw [msk_cong h]
/-- a bit, by a shift without sign -/
theorem L_bitU (p : Nat → Bool) {j : Nat} (hj : j < 48) : ((lN (msk p 48)).toUInt64 >>> ((nI j).toInt64.toUInt64 &&& Int64.toUInt64 63)).toInt64 &&& 1 = lN (if p j then 1 else 0) := by
  have h := m48 p
  rw [wb_bit (by omega) (by omega)]
  have e := msk_bit p 48 j
  rw [Nat.testBit_eq_decide_div_mod_eq] at e
  cases hp : p j with
  | true =>
    rw [hp] at e
    have e2 : msk p 48 / 2 ^ j % 2 = 1 := by simpa [hj] using e
    rw [e2]; rfl
  | false =>
    rw [hp] at e
    have e2 : ¬ msk p 48 / 2 ^ j % 2 = 1 := by simpa [hj] using e
    have e3 : msk p 48 / 2 ^ j % 2 = 0 := by omega
    rw [e3]; rfl
theorem L_smod : ∀ j, j < 48 → ((((nI j).toInt64 &&& 63)).toBitVec.smod 64).toNat = j := by decide +kernel
/-- .. with sign -/
theorem L_bitS (p : Nat → Bool) {j : Nat} (hj : j < 48) : (lN (msk p 48) >>> ((nI j).toInt64 &&& 63)) &&& 1 = lN (if p j then 1 else 0) := by
  have h := m48 p
  rw [pf_shr (L_smod j hj) (by omega), ← L_bitU p hj, wb_shr (by omega) (by omega)]
/-! sets of panes, kinds as ints -/
theorem I_1 : ∀ j, j < 31 → (1 : Int32) <<< (nI j &&& 31) = nI (2 ^ j) := by decide +kernel
theorem I_add {p : Nat → Bool} {n j : Nat} (hj : j < n) (hn : n ≤ 31) : nI (msk p n) ||| ((1 : Int32) <<< (nI j &&& 31)) = nI (msk (fun i => p i || decide (i = j)) n) := by
  rw [I_1 j (by omega), fa_or, msk_add hj]
theorem I_smod : ∀ j, j < 31 → ((nI j &&& 31).toBitVec.smod 32).toNat = j := by decide +kernel
theorem I_bit (m : Nat) {j : Nat} (hm : m < 2147483648) (hj : j < 31) : (nI m >>> (nI j &&& 31)) &&& 1 = nI (if m.testBit j then 1 else 0) := by
  rw [pk_shrN hm _ j (I_smod j hj), show (1 : Int32) = nI (2 ^ 1 - 1) from rfl, fa_mask, Nat.testBit_eq_decide_div_mod_eq]
  by_cases e : m / 2 ^ j % 2 = 1
  · simp [e]
  · have e2 : m / 2 ^ j % 2 = 0 := by omega
    simp [e2]
theorem I_bitM (p : Nat → Bool) {n j : Nat} (hn : n ≤ 31) (hj : j < n) : (nI (msk p n) >>> (nI j &&& 31)) &&& 1 = nI (if p j then 1 else 0) := by
  have h := msk_lt p n
  have h2 : 2 ^ n ≤ 2 ^ 31 := Nat.pow_le_pow_right (by decide) hn
  rw [I_bit _ (by omega) (by omega), msk_bit]
  simp [hj]
/-! how many -/
def pcn : Nat → Nat → Nat
  | 0, _ => 0
  | n + 1, m => m % 2 + pcn n (m / 2)
theorem pcn_s (n m : Nat) : pcn (n + 1) m = m % 2 + pcn n (m / 2) := rfl
theorem pcn_ct (n : Nat) : ∀ m, pcn n m = fb_ct (fun i => m.testBit i) n := by
  induction n with
  | zero => intro m; rfl
  | succ n ih =>
    intro m
    rw [pcn_s, ih, Nat.add_comm n 1, fb_ct_split]
    have e1 : fb_ct (fun i => m.testBit i) 1 = m % 2 := by
      show 0 + (if m.testBit 0 = true then 1 else 0) = m % 2
      rw [Nat.testBit_zero]
      by_cases h : m % 2 = 1
      · simp [h]
      · simp [h]; omega
    rw [e1]
    congr 1
    exact fb_ct_cong (fun k _ => by show (m / 2).testBit k = m.testBit (1 + k); rw [Nat.add_comm 1 k]; exact (Nat.testBit_succ m k).symm)
theorem pcn_msk (p : Nat → Bool) (n : Nat) : pcn n (msk p n) = fb_ct p n := by
  rw [pcn_ct]
  exact fb_ct_cong (fun k hk => by rw [msk_bit]; simp [hk])
theorem pcn_0 (n : Nat) : pcn n 0 = 0 := by
  induction n with
  | zero => rfl
  | succ n ih => rw [pcn_s]; show 0 % 2 + pcn n 0 = 0; rw [ih]
theorem pcn_add (a b : Nat) : ∀ m, pcn (a + b) m = pcn a (m % 2 ^ a) + pcn b (m / 2 ^ a) := by
  induction a with
  | zero => intro m; rw [Nat.zero_add, Nat.pow_zero, Nat.div_one]; show _ = 0 + _; omega
  | succ a ih =>
    intro m
    rw [Nat.add_right_comm, pcn_s, pcn_s, ih]
    have e1 : m % 2 ^ (a + 1) % 2 = m % 2 := Nat.mod_mod_of_dvd m (by rw [Nat.pow_succ]; exact Nat.dvd_mul_left 2 (2 ^ a))
    have e2 : m % 2 ^ (a + 1) / 2 = m / 2 % 2 ^ a := by rw [Nat.pow_succ, Nat.mul_comm, Nat.mod_mul_right_div_self]
    have e3 : m / 2 ^ (a + 1) = m / 2 / 2 ^ a := by rw [Nat.div_div_eq_div_mul, Nat.pow_succ, Nat.mul_comm]
    rw [e1, e2, e3, Nat.add_assoc]
theorem pcn_big {n : Nat} : ∀ {k m : Nat}, m < 2 ^ n → n ≤ k → pcn k m = pcn n m := by
  intro k m hm hk
  obtain ⟨d, rfl⟩ : ∃ d, k = n + d := ⟨k - n, by omega⟩
  rw [pcn_add, Nat.mod_eq_of_lt hm, Nat.div_eq_of_lt hm, pcn_0, Nat.add_zero]
theorem and_even (a b r s : Nat) (hr : r < 2) (hs : s < 2) : (2 * a + r) &&& (2 * b + s) = 2 * (a &&& b) + (r &&& s) := by
  apply Nat.eq_of_testBit_eq
  intro i
  have h3 : r &&& s < 2 ^ 1 := Nat.and_lt_two_pow r (by omega)
  rw [Nat.testBit_and, show 2 * a + r = 2 ^ 1 * a + r from rfl, show 2 * b + s = 2 ^ 1 * b + s from rfl, show 2 * (a &&& b) + (r &&& s) = 2 ^ 1 * (a &&& b) + (r &&& s) from rfl,
    Nat.testBit_two_pow_mul_add a (by omega), Nat.testBit_two_pow_mul_add b (by omega), Nat.testBit_two_pow_mul_add _ h3]
  split
  · rw [Nat.testBit_and]
  · rw [Nat.testBit_and]
/-- the lowest bit taken off -/
theorem pcn_low (n : Nat) : ∀ m, 0 < m → m < 2 ^ n → pcn n m = pcn n (m &&& (m - 1)) + 1 := by
  induction n with
  | zero => intro m h0 h; rw [Nat.pow_zero] at h; omega
  | succ n ih =>
    intro m h0 h
    rw [Nat.pow_succ] at h
    rcases Nat.mod_two_eq_zero_or_one m with h2 | h2
    · have ea : m = 2 * (m / 2) + 0 := by omega
      have eb : m - 1 = 2 * (m / 2 - 1) + 1 := by omega
      have e : m &&& (m - 1) = 2 * (m / 2 &&& (m / 2 - 1)) := by
        rw [eb]
        conv => lhs; arg 1; rw [ea]
        rw [and_even _ _ _ _ (by decide) (by decide)]
        rfl
      have i1 := ih (m / 2) (by omega) (by omega)
      rw [e, pcn_s, pcn_s, Nat.mul_div_cancel_left _ (by decide), i1]
      omega
    · have ea : m = 2 * (m / 2) + 1 := by omega
      have eb : m - 1 = 2 * (m / 2) + 0 := by omega
      have e : m &&& (m - 1) = 2 * (m / 2) := by
        rw [eb]
        conv => lhs; arg 1; rw [ea]
        rw [and_even _ _ _ _ (by decide) (by decide), Nat.and_self]
        rfl
      rw [e, pcn_s, pcn_s, Nat.mul_div_cancel_left _ (by decide)]
      omega
