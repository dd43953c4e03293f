theorem bcL_e (m : Nat) (hm : m < 18446744073709551616) : ∃ h1 h2 : Nat, tt 8 m + tt 8 m / 256 = h1 ∧ h1 + h1 / 65536 = h2 ∧ (h2 + h2 / 4294967296) % 128 = pcn 64 m ∧ tt 8 m < 1000000000000000000 ∧ h1 < 2000000000000000000 ∧ h2 < 4000000000000000000 := by
  have k0 := tt_s 7 m (by omega)
  have k1 := tt_s 6 (m / 256) (by omega)
  have k2 := tt_s 5 (m / 256 / 256) (by omega)
  have k3 := tt_s 4 (m / 256 / 256 / 256) (by omega)
  have k4 := tt_s 3 (m / 256 / 256 / 256 / 256) (by omega)
  have k5 := tt_s 2 (m / 256 / 256 / 256 / 256 / 256) (by omega)
  have k6 := tt_s 1 (m / 256 / 256 / 256 / 256 / 256 / 256) (by omega)
  have k7 := tt_s 0 (m / 256 / 256 / 256 / 256 / 256 / 256 / 256) (by omega)
  rw [tt_0] at k7
  have hp : pcn 64 m = pcn 8 (m % 256) + pcn 8 (m / 256 % 256) + pcn 8 (m / 256 / 256 % 256) + pcn 8 (m / 256 / 256 / 256 % 256) + pcn 8 (m / 256 / 256 / 256 / 256 % 256) + pcn 8 (m / 256 / 256 / 256 / 256 / 256 % 256) + pcn 8 (m / 256 / 256 / 256 / 256 / 256 / 256 % 256) + pcn 8 (m / 256 / 256 / 256 / 256 / 256 / 256 / 256 % 256) := by
    rw [pcn_8s 56, pcn_8s 48, pcn_8s 40, pcn_8s 32, pcn_8s 24, pcn_8s 16, pcn_8s 8, Nat.mod_eq_of_lt (a := m / 256 / 256 / 256 / 256 / 256 / 256 / 256) (by omega)]
    omega
  rw [hp]
  refine tt_sum _ _ _ _ _ _ _ _ _ (pcn8 _ (Nat.mod_lt _ (by decide))) (pcn8 _ (Nat.mod_lt _ (by decide))) (pcn8 _ (Nat.mod_lt _ (by decide))) (pcn8 _ (Nat.mod_lt _ (by decide))) (pcn8 _ (Nat.mod_lt _ (by decide))) (pcn8 _ (Nat.mod_lt _ (by decide))) (pcn8 _ (Nat.mod_lt _ (by decide))) (pcn8 _ (Nat.mod_lt _ (by decide))) ?_
  rw [k0, k1, k2, k3, k4, k5, k6, k7]
  omega
