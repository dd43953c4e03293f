theorem div_lo {a b q : Nat} (h : a < b) : (a + b * q) / b = q := by rw [Nat.add_mul_div_left _ _ (by omega), Nat.div_eq_of_lt h, Nat.zero_add]
theorem id1 (d0 d1 d2 d3 d4 d5 d6 d7 : Nat) : d0 + 256 * (d1 + 256 * (d2 + 256 * (d3 + 256 * (d4 + 256 * (d5 + 256 * (d6 + 256 * d7)))))) + (d1 + 256 * (d2 + 256 * (d3 + 256 * (d4 + 256 * (d5 + 256 * (d6 + 256 * d7)))))) = (d0 + d1 + 256 * (d1 + d2)) + 65536 * ((d2 + d3) + 256 * (d3 + d4) + 65536 * ((d4 + d5) + 256 * (d5 + d6) + 65536 * ((d6 + d7) + 256 * d7))) := by omega
theorem id2 (d0 d1 d2 d3 d4 d5 d6 d7 : Nat) : (d0 + d1 + 256 * (d1 + d2)) + 65536 * ((d2 + d3) + 256 * (d3 + d4) + 65536 * ((d4 + d5) + 256 * (d5 + d6) + 65536 * ((d6 + d7) + 256 * d7))) + ((d2 + d3) + 256 * (d3 + d4) + 65536 * ((d4 + d5) + 256 * (d5 + d6) + 65536 * ((d6 + d7) + 256 * d7))) = ((d0 + d1 + d2 + d3) + 256 * (d1 + d2 + d3 + d4 + 256 * (d2 + d3 + d4 + d5 + 256 * (d3 + d4 + d5 + d6)))) + 4294967296 * ((d4 + d5 + d6 + d7) + 256 * ((d5 + d6 + d7) + 256 * ((d6 + d7) + 256 * d7))) := by omega
theorem id3 (a b c d e f : Nat) : (a + 256 * b) + 4294967296 * (c + 256 * d) + (c + 256 * d) = (a + c) + 128 * (2 * b + 33554432 * (c + 256 * d) + 2 * d) := by omega
theorem bd1 (d0 d1 d2 d3 d4 d5 d6 d7 : Nat) (l0 : d0 ≤ 8) (l1 : d1 ≤ 8) (l2 : d2 ≤ 8) (l3 : d3 ≤ 8) (l4 : d4 ≤ 8) (l5 : d5 ≤ 8) (l6 : d6 ≤ 8) (l7 : d7 ≤ 8) : d0 + 256 * (d1 + 256 * (d2 + 256 * (d3 + 256 * (d4 + 256 * (d5 + 256 * (d6 + 256 * d7)))))) < 1000000000000000000 := by omega
theorem dhalf {a b : Nat} {B : Nat} (h : a < B) : a + a / b < 2 * B := by
  have := Nat.div_le_self a b
  omega
/-- what is left of eight sums of a byte each -/
theorem tt_sum (d0 d1 d2 d3 d4 d5 d6 d7 h : Nat) (l0 : d0 ≤ 8) (l1 : d1 ≤ 8) (l2 : d2 ≤ 8) (l3 : d3 ≤ 8) (l4 : d4 ≤ 8) (l5 : d5 ≤ 8) (l6 : d6 ≤ 8) (l7 : d7 ≤ 8)
    (hh : h = d0 + 256 * (d1 + 256 * (d2 + 256 * (d3 + 256 * (d4 + 256 * (d5 + 256 * (d6 + 256 * d7))))))) :
    ∃ h1 h2 : Nat, h + h / 256 = h1 ∧ h1 + h1 / 65536 = h2 ∧ (h2 + h2 / 4294967296) % 128 = d0 + d1 + d2 + d3 + d4 + d5 + d6 + d7 ∧ h < 1000000000000000000 ∧ h1 < 2000000000000000000 ∧ h2 < 4000000000000000000 := by
  have b0 := bd1 d0 d1 d2 d3 d4 d5 d6 d7 l0 l1 l2 l3 l4 l5 l6 l7
  rw [← hh] at b0
  have b1' := dhalf (b := 256) b0
  have b2' := dhalf (b := 65536) b1'
  refine ⟨_, _, rfl, rfl, ?_, b0, b1', b2'⟩
  clear b0 b1' b2'
  subst hh
  rw [div_lo (a := d0) (by omega), id1, div_lo (a := d0 + d1 + 256 * (d1 + d2)) (by omega), id2, div_lo (a := (d0 + d1 + d2 + d3) + 256 * (d1 + d2 + d3 + d4 + 256 * (d2 + d3 + d4 + d5 + 256 * (d3 + d4 + d5 + d6)))) (by omega), id3 _ _ _ _ 0 0, Nat.add_mul_mod_self_left, Nat.mod_eq_of_lt (by omega)]
  omega
