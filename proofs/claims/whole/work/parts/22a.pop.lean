/-! Long.bitCount -/
theorem and_256 (a b r s : Nat) (hr : r < 256) (hs : s < 256) : (256 * a + r) &&& (256 * b + s) = 256 * (a &&& b) + (r &&& s) := by
  apply Nat.eq_of_testBit_eq
  intro i
  have h3 : r &&& s < 2 ^ 8 := Nat.and_lt_two_pow r (by omega)
  rw [Nat.testBit_and, show 256 * a + r = 2 ^ 8 * a + r from rfl, show 256 * b + s = 2 ^ 8 * b + s from rfl, show 256 * (a &&& b) + (r &&& s) = 2 ^ 8 * (a &&& b) + (r &&& s) from rfl,
    Nat.testBit_two_pow_mul_add a (by omega), Nat.testBit_two_pow_mul_add b (by omega), Nat.testBit_two_pow_mul_add _ h3]
  split
  · rw [Nat.testBit_and]
  · rw [Nat.testBit_and]
/-- a mask of n equal bytes -/
def bm (c : Nat) : Nat → Nat
  | 0 => 0
  | n + 1 => 256 * bm c n + c
theorem bm_s (c n : Nat) : bm c (n + 1) = 256 * bm c n + c := rfl
def b1 (b : Nat) : Nat := b - (b / 2 &&& 85)
def b2 (b : Nat) : Nat := (b &&& 51) + (b / 4 &&& 51)
def b3 (b : Nat) : Nat := (b + b / 16) % 16
def s1 (n m : Nat) : Nat := m - (m / 2 &&& bm 85 n)
def s2 (n m : Nat) : Nat := (m &&& bm 51 n) + (m / 4 &&& bm 51 n)
def s3 (n m : Nat) : Nat := (m + m / 16) &&& bm 15 n
theorem q1 : ∀ x, x < 128 → ∀ e, e < 2 → (128 * e + x) &&& 85 = x &&& 85 := by decide +kernel
theorem q2 : ∀ x, x < 64 → ∀ e, e < 4 → (64 * e + x) &&& 51 = x &&& 51 := by decide +kernel
theorem q3 : ∀ b, b < 69 → ∀ e, e < 5 → (b + 16 * e + b / 16) &&& 15 = b3 b := by decide +kernel
theorem q4 : ∀ b, b < 256 → b1 b ≤ b ∧ b2 (b1 b) < 69 ∧ b2 (b1 b) % 16 ≤ 4 ∧ b3 (b2 (b1 b)) = pcn 8 b := by decide +kernel
theorem s1_s (n q b : Nat) (hb : b < 256) : s1 (n + 1) (256 * q + b) = 256 * s1 n q + b1 b := by
  have hq : 256 * q + b = 256 * q + b := rfl
  have e : (256 * q + b) / 2 = 256 * (q / 2) + (128 * (q % 2) + b / 2) := by omega
  have h1 : q / 2 &&& bm 85 n ≤ q / 2 := Nat.and_le_left
  have h2 : b / 2 &&& 85 ≤ b / 2 := Nat.and_le_left
  unfold s1 b1
  rw [e, bm_s, and_256 _ _ _ _ (by omega) (by decide), q1 _ (by omega) _ (by omega)]
  omega
theorem s2_s (n q b : Nat) (hb : b < 256) : s2 (n + 1) (256 * q + b) = 256 * s2 n q + b2 b := by
  have e : (256 * q + b) / 4 = 256 * (q / 4) + (64 * (q % 4) + b / 4) := by omega
  unfold s2 b2
  rw [e, bm_s, and_256 _ _ _ _ hb (by decide), and_256 _ _ _ _ (by omega) (by decide), q2 _ (by omega) _ (by omega)]
  omega
theorem s3_s (n q b : Nat) (hb : b < 69) (hq : q % 16 ≤ 4) : s3 (n + 1) (256 * q + b) = 256 * s3 n q + b3 b := by
  have e : 256 * q + b + (256 * q + b) / 16 = 256 * (q + q / 16) + (b + 16 * (q % 16) + b / 16) := by omega
  unfold s3
  rw [e, bm_s, and_256 _ _ _ _ (by omega) (by decide), q3 _ hb _ (by omega)]
theorem bm_0 (c x : Nat) : x &&& bm c 0 = 0 := Nat.and_zero x
theorem low4 (n m : Nat) (hm : m < 256 ^ n) : s2 n (s1 n m) % 16 ≤ 4 := by
  cases n with
  | zero =>
    unfold s2
    rw [bm_0, bm_0]
    decide
  | succ n =>
    have e : m = 256 * (m / 256) + m % 256 := by omega
    have hb : m % 256 < 256 := Nat.mod_lt _ (by decide)
    have h4 := q4 _ hb
    rw [e, s1_s _ _ _ hb, s2_s _ _ _ (by omega)]
    omega
def tt (n m : Nat) : Nat := s3 n (s2 n (s1 n m))
theorem tt_s (n m : Nat) (hm : m < 256 ^ (n + 1)) : tt (n + 1) m = 256 * tt n (m / 256) + pcn 8 (m % 256) := by
  have e : m = 256 * (m / 256) + m % 256 := by omega
  have hb : m % 256 < 256 := Nat.mod_lt _ (by decide)
  have h4 := q4 _ hb
  have hq : m / 256 < 256 ^ n := by rw [Nat.pow_succ] at hm; omega
  have hl := low4 n (m / 256) hq
  unfold tt
  conv => lhs; rw [e]
  rw [s1_s _ _ _ hb, s2_s _ _ _ (by omega), s3_s _ _ _ h4.2.1 hl, h4.2.2.2]
