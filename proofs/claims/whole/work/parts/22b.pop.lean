theorem tt_0 (m : Nat) : tt 0 m = 0 := by unfold tt s3; rw [bm_0]
theorem pcn8 : ∀ b, b < 256 → pcn 8 b ≤ 8 := by decide +kernel
theorem pcn_8s (n m : Nat) : pcn (8 + n) m = pcn 8 (m % 256) + pcn n (m / 256) := pcn_add 8 n m
