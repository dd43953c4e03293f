theorem bcL_msk (N : Nat) (p : Nat → Bool) (σ : Sg) : f_J13_bitCount_95d88 N (lN (msk p 48)) σ = some (nI (fb_ct p 48), σ) := by
  have h := m48 p
  rw [bcL N _ (by omega), pcn_big (msk_lt p 48) (by decide), pcn_msk]
