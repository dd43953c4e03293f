def bcIv (x : Int32) : Int32 := ((f_J6_bitCount_0f7a4 0 x (fun _ _ _ _ => 0, fun _ _ _ _ => 0)).map (fun w => w.1)).getD 0
theorem bcI_v : ∀ m, m < 128 → bcIv (nI m) = nI (pcn 7 m) := by decide +kernel
theorem bcI (N m : Nat) (hm : m < 128) (σ : Sg) : f_J6_bitCount_0f7a4 N (nI m) σ = some (nI (pcn 7 m), σ) := by
  rw [← bcI_v m hm]
  rfl
theorem bcI_msk (N : Nat) (p : Nat → Bool) {n : Nat} (hn : n ≤ 7) (σ : Sg) : f_J6_bitCount_0f7a4 N (nI (msk p n)) σ = some (nI (fb_ct p n), σ) := by
  have h := msk_lt p n
  have h2 : 2 ^ n ≤ 2 ^ 7 := Nat.pow_le_pow_right (by decide) hn
  rw [bcI N _ (by omega), pcn_big h hn, pcn_msk]
