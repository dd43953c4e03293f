theorem shL (k : Nat) (m : Nat) (hm : m < 18446744073709551616) (hk : k < 64) : ((lN m).toUInt64 >>> ((nI k).toInt64.toUInt64 &&& Int64.toUInt64 63)).toInt64 = lN (m / 2 ^ k) := wb_shr (by omega) hk
theorem bm85 : bm 85 8 = 6148914691236517205 := by decide +kernel
theorem bm51 : bm 51 8 = 3689348814741910323 := by decide +kernel
theorem bm15 : bm 15 8 = 1085102592571150095 := by decide +kernel
theorem bcL (N : Nat) (m : Nat) (hm : m < 18446744073709551616) (σ : Sg) : f_J13_bitCount_95d88 N (lN m) σ = some (nI (pcn 64 m), σ) := by
  have c1 : (6148914691236517205 : Int64) = lN (bm 85 8) := by rw [bm85]; rfl
  have c2 : (3689348814741910323 : Int64) = lN (bm 51 8) := by rw [bm51]; rfl
  have c3 : (1085102592571150095 : Int64) = lN (bm 15 8) := by rw [bm15]; rfl
  obtain ⟨h1, h2, e1, e2, e3, l0, l1, l2⟩ := bcL_e m hm
  have a1 : lN m - (((lN m).toUInt64 >>> ((1 : Int32).toInt64.toUInt64 &&& Int64.toUInt64 63)).toInt64 &&& (6148914691236517205 : Int64)) = lN (s1 8 m) := by
    rw [n1, shL 1 m hm (by decide), c1, fb_andL, lN_sub (Nat.le_trans Nat.and_le_left (by omega))]
    rfl
  have b1' : s1 8 m < 18446744073709551616 := Nat.lt_of_le_of_lt (Nat.sub_le _ _) hm
  have a2 : (lN (s1 8 m) &&& (3689348814741910323 : Int64)) + (((lN (s1 8 m)).toUInt64 >>> ((2 : Int32).toInt64.toUInt64 &&& Int64.toUInt64 63)).toInt64 &&& (3689348814741910323 : Int64)) = lN (s2 8 (s1 8 m)) := by
    rw [n2, shL 2 _ b1' (by decide), c2, fb_andL, fb_andL, lN_add]
    rfl
  have b2' : s2 8 (s1 8 m) < 18446744073709551616 := by
    have x1 : s1 8 m &&& bm 51 8 ≤ bm 51 8 := Nat.and_le_right
    have x2 : s1 8 m / 4 &&& bm 51 8 ≤ bm 51 8 := Nat.and_le_right
    have x3 := bm51
    unfold s2
    omega
  have a3 : (lN (s2 8 (s1 8 m)) + ((lN (s2 8 (s1 8 m))).toUInt64 >>> ((4 : Int32).toInt64.toUInt64 &&& Int64.toUInt64 63)).toInt64) &&& (1085102592571150095 : Int64) = lN (tt 8 m) := by
    rw [n4, shL 4 _ b2' (by decide), c3, lN_add, fb_andL]
    rfl
  have a4 : lN (tt 8 m) + ((lN (tt 8 m)).toUInt64 >>> ((8 : Int32).toInt64.toUInt64 &&& Int64.toUInt64 63)).toInt64 = lN h1 := by
    rw [n8, shL 8 _ (by omega) (by decide), lN_add, show tt 8 m / 2 ^ 8 = tt 8 m / 256 from rfl, e1]
  have a5 : lN h1 + ((lN h1).toUInt64 >>> ((16 : Int32).toInt64.toUInt64 &&& Int64.toUInt64 63)).toInt64 = lN h2 := by
    rw [show (16 : Int32) = nI 16 from rfl, shL 16 _ (by omega) (by decide), lN_add, show h1 / 2 ^ 16 = h1 / 65536 from rfl, e2]
  have a6 : (lN h2 + ((lN h2).toUInt64 >>> ((32 : Int32).toInt64.toUInt64 &&& Int64.toUInt64 63)).toInt64).toInt32 &&& (127 : Int32) = nI (pcn 64 m) := by
    rw [show (32 : Int32) = nI 32 from rfl, shL 32 _ (by omega) (by decide), lN_add, show h2 / 2 ^ 32 = h2 / 4294967296 from rfl, lN_i, show (127 : Int32) = nI (2 ^ 7 - 1) from rfl, fa_mask, show (2 : Nat) ^ 7 = 128 from rfl, e3]
  unfold f_J13_bitCount_95d88
  rw [a1, a2, a3, a4, a5, a6]
