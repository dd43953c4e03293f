/-! Long.bitCount -/
theorem and_256 (a b r s : Nat) (hr : r < 256) (hs : s < 256) : (256 * a + r) &&& (256 * b + s) = 256 * (a &&& b) + (r &&& s) := by
  apply Nat.eq_of_testBit_eq
  intro i
  have h3 : r &&& s < 2 ^ 8 := Nat.and_lt_two_pow r (by omega)
  rw [Nat.testBit_and, show 256 * a + r = 2 ^ 8 * a + r from rfl, show 256 * b + s = 2 ^ 8 * b + s from rfl, show 256 * (a &&& b) + (r &&& s) = 2 ^ 8 * (a &&& b) + (r &&& s) from rfl,
    Nat.testBit_two_pow_mul_add a (by omega), Nat.testBit_two_pow_mul_add b (by omega), Nat.testBit_two_pow_mul_add _ h3]
  split
  · rw [Nat.testBit_and]
  · rw [Nat.testBit_and]
/-- a mask of n equal bytes -/
def bm (c : Nat) : Nat → Nat
  | 0 => 0
  | n + 1 => 256 * bm c n + c
theorem bm_s (c n : Nat) : bm c (n + 1) = 256 * bm c n + c := rfl
def b1 (b : Nat) : Nat := b - (b / 2 &&& 85)
def b2 (b : Nat) : Nat := (b &&& 51) + (b / 4 &&& 51)
def b3 (b : Nat) : Nat := (b + b / 16) % 16
def s1 (n m : Nat) : Nat := m - (m / 2 &&& bm 85 n)
def s2 (n m : Nat) : Nat := (m &&& bm 51 n) + (m / 4 &&& bm 51 n)
def s3 (n m : Nat) : Nat := (m + m / 16) &&& bm 15 n
theorem q1 : ∀ x, x < 128 → ∀ e, e < 2 → (128 * e + x) &&& 85 = x &&& 85 := by decide +kernel
theorem q2 : ∀ x, x < 64 → ∀ e, e < 4 → (64 * e + x) &&& 51 = x &&& 51 := by decide +kernel
theorem q3 : ∀ b, b < 69 → ∀ e, e < 5 → (b + 16 * e + b / 16) &&& 15 = b3 b := by decide +kernel
theorem q4 : ∀ b, b < 256 → b1 b ≤ b ∧ b2 (b1 b) < 69 ∧ b2 (b1 b) % 16 ≤ 4 ∧ b3 (b2 (b1 b)) = pcn 8 b := by decide +kernel
theorem s1_s (n q b : Nat) (hb : b < 256) : s1 (n + 1) (256 * q + b) = 256 * s1 n q + b1 b := by
  have hq : 256 * q + b = 256 * q + b := rfl
  have e : (256 * q + b) / 2 = 256 * (q / 2) + (128 * (q % 2) + b / 2) := by omega
  have h1 : q / 2 &&& bm 85 n ≤ q / 2 := Nat.and_le_left
  have h2 : b / 2 &&& 85 ≤ b / 2 := Nat.and_le_left
  unfold s1 b1
  rw [e, bm_s, and_256 _ _ _ _ (by omega) (by decide), q1 _ (by omega) _ (by omega)]
  omega
theorem s2_s (n q b : Nat) (hb : b < 256) : s2 (n + 1) (256 * q + b) = 256 * s2 n q + b2 b := by
  have e : (256 * q + b) / 4 = 256 * (q / 4) + (64 * (q % 4) + b / 4) := by omega
  unfold s2 b2
  rw [e, bm_s, and_256 _ _ _ _ hb (by decide), and_256 _ _ _ _ (by omega) (by decide), q2 _ (by omega) _ (by omega)]
  omega
theorem s3_s (n q b : Nat) (hb : b < 69) (hq : q % 16 ≤ 4) : s3 (n + 1) (256 * q + b) = 256 * s3 n q + b3 b := by
  have e : 256 * q + b + (256 * q + b) / 16 = 256 * (q + q / 16) + (b + 16 * (q % 16) + b / 16) := by omega
  unfold s3
  rw [e, bm_s, and_256 _ _ _ _ (by omega) (by decide), q3 _ hb _ (by omega)]
theorem bm_0 (c x : Nat) : x &&& bm c 0 = 0 := Nat.and_zero x
theorem low4 (n m : Nat) (hm : m < 256 ^ n) : s2 n (s1 n m) % 16 ≤ 4 := by
  cases n with
  | zero =>
    unfold s2
    rw [bm_0, bm_0]
    decide
  | succ n =>
    have e : m = 256 * (m / 256) + m % 256 := by omega
    have hb : m % 256 < 256 := Nat.mod_lt _ (by decide)
    have h4 := q4 _ hb
    rw [e, s1_s _ _ _ hb, s2_s _ _ _ (by omega)]
    omega
def tt (n m : Nat) : Nat := s3 n (s2 n (s1 n m))
theorem tt_s (n m : Nat) (hm : m < 256 ^ (n + 1)) : tt (n + 1) m = 256 * tt n (m / 256) + pcn 8 (m % 256) := by
  have e : m = 256 * (m / 256) + m % 256 := by omega
  have hb : m % 256 < 256 := Nat.mod_lt _ (by decide)
  have h4 := q4 _ hb
  have hq : m / 256 < 256 ^ n := by rw [Nat.pow_succ] at hm; omega
  have hl := low4 n (m / 256) hq
  unfold tt
  conv => lhs; rw [e]
  rw [s1_s _ _ _ hb, s2_s _ _ _ (by omega), s3_s _ _ _ h4.2.1 hl, h4.2.2.2]
theorem tt_0 (m : Nat) : tt 0 m = 0 := by unfold tt s3; rw [bm_0]
theorem pcn8 : ∀ b, b < 256 → pcn 8 b ≤ 8 := by decide +kernel
theorem pcn_8s (n m : Nat) : pcn (8 + n) m = pcn 8 (m % 256) + pcn n (m / 256) := pcn_add 8 n m
/-- what is left of eight sums of a byte each -/
theorem tt_sum (d0 d1 d2 d3 d4 d5 d6 d7 h : Nat) (l0 : d0 ≤ 8) (l1 : d1 ≤ 8) (l2 : d2 ≤ 8) (l3 : d3 ≤ 8) (l4 : d4 ≤ 8) (l5 : d5 ≤ 8) (l6 : d6 ≤ 8) (l7 : d7 ≤ 8)
    (hh : h = d0 + 256 * (d1 + 256 * (d2 + 256 * (d3 + 256 * (d4 + 256 * (d5 + 256 * (d6 + 256 * d7))))))) :
    ∃ h1 h2 : Nat, h + h / 256 = h1 ∧ h1 + h1 / 65536 = h2 ∧ (h2 + h2 / 4294967296) % 128 = d0 + d1 + d2 + d3 + d4 + d5 + d6 + d7 ∧ h < 1000000000000000000 ∧ h1 < 2000000000000000000 ∧ h2 < 3000000000000000000 := by
  refine ⟨_, _, rfl, rfl, ?_⟩
  have e1 : h / 256 = d1 + 256 * (d2 + 256 * (d3 + 256 * (d4 + 256 * (d5 + 256 * (d6 + 256 * d7))))) := by omega
  rw [e1]
  have e2 : (h + (d1 + 256 * (d2 + 256 * (d3 + 256 * (d4 + 256 * (d5 + 256 * (d6 + 256 * d7))))))) / 65536 = (d2 + d3) + 256 * ((d3 + d4) + 256 * ((d4 + d5) + 256 * ((d5 + d6) + 256 * ((d6 + d7) + 256 * d7)))) := by omega
  rw [e2]
  generalize hg : h + (d1 + 256 * (d2 + 256 * (d3 + 256 * (d4 + 256 * (d5 + 256 * (d6 + 256 * d7)))))) + ((d2 + d3) + 256 * ((d3 + d4) + 256 * ((d4 + d5) + 256 * ((d5 + d6) + 256 * ((d6 + d7) + 256 * d7))))) = g
  have e3 : g / 4294967296 = (d4 + d5 + d6 + d7) + 256 * ((d5 + d6 + d6 + d7 - d6) + 256 * ((d6 + d7) + 256 * d7)) ∨ True := Or.inr trivial
  have e4 : g % 256 = d0 + d1 + d2 + d3 := by omega
  have e5 : g / 4294967296 % 256 = d4 + d5 + d6 + d7 := by omega
  omega
theorem bcL_e (m : Nat) (hm : m < 18446744073709551616) : ∃ h1 h2 : Nat, tt 8 m + tt 8 m / 256 = h1 ∧ h1 + h1 / 65536 = h2 ∧ (h2 + h2 / 4294967296) % 128 = pcn 64 m ∧ tt 8 m < 1000000000000000000 ∧ h1 < 2000000000000000000 ∧ h2 < 3000000000000000000 := by
  have k0 := tt_s 7 m (by omega)
  have k1 := tt_s 6 (m / 256) (by omega)
  have k2 := tt_s 5 (m / 256 / 256) (by omega)
  have k3 := tt_s 4 (m / 256 / 256 / 256) (by omega)
  have k4 := tt_s 3 (m / 256 / 256 / 256 / 256) (by omega)
  have k5 := tt_s 2 (m / 256 / 256 / 256 / 256 / 256) (by omega)
  have k6 := tt_s 1 (m / 256 / 256 / 256 / 256 / 256 / 256) (by omega)
  have k7 := tt_s 0 (m / 256 / 256 / 256 / 256 / 256 / 256 / 256) (by omega)
  rw [tt_0] at k7
  have hp : pcn 64 m = pcn 8 (m % 256) + pcn 8 (m / 256 % 256) + pcn 8 (m / 256 / 256 % 256) + pcn 8 (m / 256 / 256 / 256 % 256) + pcn 8 (m / 256 / 256 / 256 / 256 % 256) + pcn 8 (m / 256 / 256 / 256 / 256 / 256 % 256) + pcn 8 (m / 256 / 256 / 256 / 256 / 256 / 256 % 256) + pcn 8 (m / 256 / 256 / 256 / 256 / 256 / 256 / 256 % 256) := by
    rw [pcn_8s 56, pcn_8s 48, pcn_8s 40, pcn_8s 32, pcn_8s 24, pcn_8s 16, pcn_8s 8, Nat.mod_eq_of_lt (a := m / 256 / 256 / 256 / 256 / 256 / 256 / 256) (by omega)]
    omega
  rw [hp]
  refine tt_sum _ _ _ _ _ _ _ _ _ (pcn8 _ (Nat.mod_lt _ (by decide))) (pcn8 _ (Nat.mod_lt _ (by decide))) (pcn8 _ (Nat.mod_lt _ (by decide))) (pcn8 _ (Nat.mod_lt _ (by decide))) (pcn8 _ (Nat.mod_lt _ (by decide))) (pcn8 _ (Nat.mod_lt _ (by decide))) (pcn8 _ (Nat.mod_lt _ (by decide))) (pcn8 _ (Nat.mod_lt _ (by decide))) ?_
  rw [k0, k1, k2, k3, k4, k5, k6, k7]
  omega
theorem shL (k : Nat) (m : Nat) (hm : m < 18446744073709551616) (hk : k < 64) : ((lN m).toUInt64 >>> ((nI k).toInt64.toUInt64 &&& Int64.toUInt64 63)).toInt64 = lN (m / 2 ^ k) := wb_shr (by omega) hk
theorem bcL (N : Nat) (m : Nat) (hm : m < 18446744073709551616) (σ : Sg) : f_J13_bitCount_95d88 N (lN m) σ = some (nI (pcn 64 m), σ) := by
  have c1 : (6148914691236517205 : Int64) = lN (bm 85 8) := rfl
  have c2 : (3689348814741910323 : Int64) = lN (bm 51 8) := rfl
  have c3 : (1085102592571150095 : Int64) = lN (bm 15 8) := rfl
  obtain ⟨h1, h2, e1, e2, e3, l0, l1, l2⟩ := bcL_e m hm
  have a1 : lN m - (((lN m).toUInt64 >>> ((1 : Int32).toInt64.toUInt64 &&& Int64.toUInt64 63)).toInt64 &&& (6148914691236517205 : Int64)) = lN (s1 8 m) := by
    rw [n1, shL 1 m hm (by decide), c1, fb_andL, lN_sub (Nat.le_trans Nat.and_le_left (by omega))]
    rfl
  have b1' : s1 8 m < 18446744073709551616 := Nat.lt_of_le_of_lt (Nat.sub_le _ _) hm
  have a2 : (lN (s1 8 m) &&& (3689348814741910323 : Int64)) + (((lN (s1 8 m)).toUInt64 >>> ((2 : Int32).toInt64.toUInt64 &&& Int64.toUInt64 63)).toInt64 &&& (3689348814741910323 : Int64)) = lN (s2 8 (s1 8 m)) := by
    rw [n2, shL 2 _ b1' (by decide), c2, fb_andL, fb_andL, lN_add]
    rfl
  have b2' : s2 8 (s1 8 m) < 18446744073709551616 := by
    have x1 : s1 8 m &&& bm 51 8 ≤ bm 51 8 := Nat.and_le_right
    have x2 : s1 8 m / 4 &&& bm 51 8 ≤ bm 51 8 := Nat.and_le_right
    have x3 : bm 51 8 = 3689348814741910323 := rfl
    unfold s2
    omega
  have a3 : (lN (s2 8 (s1 8 m)) + ((lN (s2 8 (s1 8 m))).toUInt64 >>> ((4 : Int32).toInt64.toUInt64 &&& Int64.toUInt64 63)).toInt64) &&& (1085102592571150095 : Int64) = lN (tt 8 m) := by
    rw [n4, shL 4 _ b2' (by decide), c3, lN_add, fb_andL]
    rfl
  have a4 : lN (tt 8 m) + ((lN (tt 8 m)).toUInt64 >>> ((8 : Int32).toInt64.toUInt64 &&& Int64.toUInt64 63)).toInt64 = lN h1 := by
    rw [n8, shL 8 _ (by omega) (by decide), lN_add, show tt 8 m / 2 ^ 8 = tt 8 m / 256 from rfl, e1]
  have a5 : lN h1 + ((lN h1).toUInt64 >>> ((16 : Int32).toInt64.toUInt64 &&& Int64.toUInt64 63)).toInt64 = lN h2 := by
    rw [show (16 : Int32) = nI 16 from rfl, shL 16 _ (by omega) (by decide), lN_add, show h1 / 2 ^ 16 = h1 / 65536 from rfl, e2]
  have a6 : (lN h2 + ((lN h2).toUInt64 >>> ((32 : Int32).toInt64.toUInt64 &&& Int64.toUInt64 63)).toInt64).toInt32 &&& (127 : Int32) = nI (pcn 64 m) := by
    rw [show (32 : Int32) = nI 32 from rfl, shL 32 _ (by omega) (by decide), lN_add, show h2 / 2 ^ 32 = h2 / 4294967296 from rfl, lN_i, show (127 : Int32) = nI (2 ^ 7 - 1) from rfl, fa_mask, show (2 : Nat) ^ 7 = 128 from rfl, e3]
  unfold f_J13_bitCount_95d88
  rw [a1, a2, a3, a4, a5, a6]
theorem bcL_msk (N : Nat) (p : Nat → Bool) (σ : Sg) : f_J13_bitCount_95d88 N (lN (msk p 48)) σ = some (nI (fb_ct p 48), σ) := by
  have h := m48 p
  rw [bcL N _ (by omega), pcn_big (msk_lt p 48) (by decide), pcn_msk]
def bcIv (x : Int32) : Int32 := ((f_J6_bitCount_0f7a4 0 x (fun _ _ _ _ => 0, fun _ _ _ _ => 0)).map (fun w => w.1)).getD 0
theorem bcI_v : ∀ m, m < 128 → bcIv (nI m) = nI (pcn 7 m) := by decide +kernel
theorem bcI (N m : Nat) (hm : m < 128) (σ : Sg) : f_J6_bitCount_0f7a4 N (nI m) σ = some (nI (pcn 7 m), σ) := by
  rw [← bcI_v m hm]
  rfl
theorem bcI_msk (N : Nat) (p : Nat → Bool) {n : Nat} (hn : n ≤ 7) (σ : Sg) : f_J6_bitCount_0f7a4 N (nI (msk p n)) σ = some (nI (fb_ct p n), σ) := by
  have h := msk_lt p n
  have h2 : 2 ^ n ≤ 2 ^ 7 := Nat.pow_le_pow_right (by decide) hn
  rw [bcI N _ (by omega), pcn_big h hn, pcn_msk]
