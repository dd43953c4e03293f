/-! the orders, each once, one after another -/
def lxP : Nat → List Nat → List (List Nat)
  | 0, _ => [[]]
  | m + 1, l => l.flatMap (fun v => (lxP m (l.erase v)).map (fun r => v :: r))
def pvt (p : Nat → Nat) : Nat → Nat
  | 0 => 0
  | k + 1 => if p k ≤ p (k + 1) then k + 1 else pvt p k
def fnd (p : Nat → Nat) (v : Nat) : Nat → Nat
  | 0 => 0
  | k + 1 => if p v ≤ p k then k else fnd p v k
def swp (p : Nat → Nat) (a b : Nat) : Nat → Nat := fun k => if k = b then p a else if k = a then p b else p k
def rvs : Nat → (Nat → Nat) → Nat → Nat → Nat → Nat
  | 0, p, _, _ => p
  | q + 1, p, a, b => if b ≤ a then p else rvs q (swp p a b) (a + 1) (b - 1)
def nxt (n : Nat) (p : Nat → Nat) : Nat → Nat := rvs n (swp p (pvt p (n - 1) - 1) (fnd p (pvt p (n - 1) - 1) n)) (pvt p (n - 1)) (n - 1)
abbrev gtl (l : List Nat) : Nat → Nat := fun k => l.getD k 0
def eql : List Nat → List Nat → Bool
  | [], [] => true
  | a :: x, b :: y => Nat.beq a b && eql x y
  | _, _ => false
def chk (n : Nat) : List Nat → List (List Nat) → Bool
  | a, [] => Nat.beq (pvt (gtl a) (n - 1)) 0
  | a, b :: r => !(Nat.beq (pvt (gtl a) (n - 1)) 0) && (eql ((List.range n).map (nxt n (gtl a))) b && chk n b r)
def chk0 (n : Nat) : List (List Nat) → Bool
  | [] => false
  | a :: r => eql a (List.range n) && chk n a r
theorem chk_2 : chk0 2 (lxP 2 (List.range 2)) = true := by decide +kernel
theorem chk_3 : chk0 3 (lxP 3 (List.range 3)) = true := by decide +kernel
theorem chk_4 : chk0 4 (lxP 4 (List.range 4)) = true := by decide +kernel
theorem chk_5 : chk0 5 (lxP 5 (List.range 5)) = true := by decide +kernel
theorem chk_6 : chk0 6 (lxP 6 (List.range 6)) = true := by decide +kernel
theorem chk_7 : chk0 7 (lxP 7 (List.range 7)) = true := by decide +kernel
