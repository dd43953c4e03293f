def adF (h7 : Nat) (a1 : Nat) (a2 : Nat) (q3 : Nat) (u3 : Nat → Nat) (q4 : Nat) (u4 : Nat → Nat) (a5 : Nat) (a6 : Nat) (q7 : Nat) (u7 : Nat → Nat) (q8 : Nat) (u8 : Nat → Nat) (q9 : Nat) (u9 : Nat) (a10 : Nat) (a11 : Nat) (q12 : Nat) (u12 : Nat) (q13 : Nat) (u13 : Nat) (q14 : Nat) (u14 : Nat) (q15 : Nat) (u15 : Nat) (q16 : Nat) (u16 : Nat) (q17 : Nat) (u17 : Nat) (q18 : Nat) (u18 : Nat) (q19 : Nat) (u19 : Nat) (q20 : Nat) (u20 : Nat) (q21 : Nat) (u21 : Nat) (q22 : Nat) (u22 : Nat → Nat) (q23 : Nat) (u23 : Nat → Nat) (q24 : Nat) (u24 : Nat → Nat) (q25 : Nat) (u25 : Nat → Nat) (q26 : Nat) (u26 : Nat → Nat) (q27 : Nat) (u27 : Nat → Nat) (h8 : Nat) (b1 : Nat) (b2 : Nat) (b3 : Nat) (b4 : Nat) (b5 : Nat) (b6 : Nat) (b7 : Nat) (b8 : Nat) (b9 : Nat) (b10 : Nat) (b11 : Nat) (b12 : Nat) (b13 : Nat) (b14 : Nat) (b15 : Nat) (b16 : Nat) (b17 : Nat) (b18 : Nat) (b19 : Nat) (b20 : Nat) (b21 : Nat) (b22 : Nat) (t i j : Nat) : Nat := match t with
  | 0 => h7
  | 1 => a1
  | 2 => pick [q12, q13, q14, q15, q16, q17] i
  | 3 => pick [u12, u13, u14, u15, u16, u17] i
  | 4 => a2
  | 5 => pick [q18, q19, q20, q21] i
  | 6 => pick [u18, u19, u20, u21] i
  | 7 => pick [q3, q7, q22, q24, q26] i
  | 8 => (match i with | 0 => u3 0 | 1 => u7 0 | 2 => u22 0 | 3 => u24 0 | _ => u26 0)
  | 9 => (match i with | 0 => u3 (j + 1) | 1 => u7 (j + 1) | 2 => u22 (j + 1) | 3 => u24 (j + 1) | _ => u26 (j + 1))
  | 10 => pick [q4, q23, q25, q27] i
  | 11 => (match i with | 0 => u4 j | 1 => u23 j | 2 => u25 j | _ => u27 j)
  | 12 => a5
  | 13 => a6
  | 14 => q8
  | 15 => u8 i
  | 16 => q9
  | 17 => u9
  | 18 => a10
  | 19 => a10 + 1 + i
  | 20 => a11
  | 21 => h8
  | 22 => (match i with | 5 => b1 | 6 => b2 | 7 => b3 | 8 => b4 | 9 => b5 | 11 => b6 | 12 => b7 | 13 => b8 | 14 => b9 | 15 => b10 | 17 => b11 | 18 => b12 | 19 => b13 | 20 => b14 | 21 => b15 | 26 => b20 | 31 => b21 | _ => b22)
  | _ => (match i with | 22 => b16 | 23 => b17 | 24 => b18 | _ => b19)
/-- the store that the constructors leave -/
def s0I (t i _ k : Nat) : Int32 := match t with
  | 2 => -1
  | 5 => -1
  | 9 => (match k with | 3 => 1 | 4 => 1 | 6 => 1 | _ => 0)
  | 10 => (match i with | 0 => 0 | _ => -1)
  | 22 => (match i with | 7 => -1 | 9 => -1 | 19 => -1 | _ => 0)
  | _ => 0
def s0L (t _ _ k : Nat) : Int64 := match t with
  | 0 => (match k with | 14 => 1 | _ => 0)
  | 21 => (match k with | 3 => 1 | _ => 0)
  | _ => 0
def σ0 : Sg := (s0I, s0L)
def whr : List Nat := [0, 1, 43, 45, 47, 49, 51, 53, 44, 46, 48, 50, 52, 54, 2, 55, 57, 59, 61, 56, 58, 60, 62, 3, 19, 63, 77, 91, 4, 20, 64, 78, 92, 5, 6, 7, 8, 9, 10, 11, 21, 22, 23, 24, 25, 26, 27, 65, 66, 67, 68, 69, 70, 71, 79, 80, 81, 82, 83, 84, 85, 93, 94, 95, 96, 97, 98, 99, 12, 72, 86, 100, 13, 14, 15, 16, 73, 74, 75, 76, 87, 88, 89, 90, 101, 102, 103, 104, 17, 18, 28, 29, 30, 31, 32, 33, 34, 35, 36, 37, 38, 39, 40, 41, 42, 105, 106, 107, 108, 109, 110, 111, 112, 113, 114, 115, 116, 117, 118, 119, 120, 125, 126, 127, 121, 122, 123, 124]
theorem whr_nd : va_nd whr = true := by decide +kernel
set_option maxRecDepth 100000 in
set_option maxHeartbeats 8000000 in
theorem world_eq (l : Launch) (D : va_G) (cyf : Nat → ClassId) (lt : Nat) (h7 : Nat) (a1 : Nat) (a2 : Nat) (q3 : Nat) (u3 : Nat → Nat) (q4 : Nat) (u4 : Nat → Nat) (a5 : Nat) (a6 : Nat) (q7 : Nat) (u7 : Nat → Nat) (q8 : Nat) (u8 : Nat → Nat) (q9 : Nat) (u9 : Nat) (a10 : Nat) (a11 : Nat) (q12 : Nat) (u12 : Nat) (q13 : Nat) (u13 : Nat) (q14 : Nat) (u14 : Nat) (q15 : Nat) (u15 : Nat) (q16 : Nat) (u16 : Nat) (q17 : Nat) (u17 : Nat) (q18 : Nat) (u18 : Nat) (q19 : Nat) (u19 : Nat) (q20 : Nat) (u20 : Nat) (q21 : Nat) (u21 : Nat) (q22 : Nat) (u22 : Nat → Nat) (q23 : Nat) (u23 : Nat → Nat) (q24 : Nat) (u24 : Nat → Nat) (q25 : Nat) (u25 : Nat → Nat) (q26 : Nat) (u26 : Nat → Nat) (q27 : Nat) (u27 : Nat → Nat) (h8 : Nat) (b1 : Nat) (b2 : Nat) (b3 : Nat) (b4 : Nat) (b5 : Nat) (b6 : Nat) (b7 : Nat) (b8 : Nat) (b9 : Nat) (b10 : Nat) (b11 : Nat) (b12 : Nat) (b13 : Nat) (b14 : Nat) (b15 : Nat) (b16 : Nat) (b17 : Nat) (b18 : Nat) (b19 : Nat) (b20 : Nat) (b21 : Nat) (b22 : Nat) : whr.map (fun i => (ordL cyf h7 a1 a2 q3 u3 q4 u4 a5 a6 q7 u7 q8 u8 q9 u9 a10 a11 q12 u12 q13 u13 q14 u14 q15 u15 q16 u16 q17 u17 q18 u18 q19 u19 q20 u20 q21 u21 q22 u22 q23 u23 q24 u24 q25 u25 q26 u26 q27 u27 ++ modL cyf h8 b1 b2 b3 b4 b5 b6 b7 b8 b9 b10 b11 b12 b13 b14 b15 b16 b17 b18 b19 b20 b21 b22)[i]?) = (world (l, D, cyf, adF h7 a1 a2 q3 u3 q4 u4 a5 a6 q7 u7 q8 u8 q9 u9 a10 a11 q12 u12 q13 u13 q14 u14 q15 u15 q16 u16 q17 u17 q18 u18 q19 u19 q20 u20 q21 u21 q22 u22 q23 u23 q24 u24 q25 u25 q26 u26 q27 u27 h8 b1 b2 b3 b4 b5 b6 b7 b8 b9 b10 b11 b12 b13 b14 b15 b16 b17 b18 b19 b20 b21 b22, lt) σ0).map some := by
  rfl
theorem Inv_0 : Inv σ0 := by
  refine ⟨fun r hr => Or.inl ⟨rfl, rfl⟩, fun t ht => Or.inl ⟨rfl, rfl⟩, rfl, ⟨rfl, rfl, rfl⟩, ⟨rfl, fun f hf => ?_⟩, 0, 0, fun _ _ _ => 0, Or.inl rfl, ⟨by decide, fun d hd => ⟨⟨by decide, fun i hi => by omega, fun i j hi => by omega⟩, fun i hi => by omega⟩⟩, ⟨⟨rfl, fun i hi => by omega⟩, rfl, fun d hd => by omega⟩, ⟨⟨fun i hi => by omega, rfl⟩, rfl, fun d hd => by omega⟩, ⟨rfl, fun i hi => by omega⟩, fun k hk => Or.inl ⟨rfl, rfl⟩⟩
  rfl
