section Best
variable {n : Nat} {c : Scr}
/-- of two, the first that is not less -/
def cmb : Option (Nat × List Nat) → Option (Nat × List Nat) → Option (Nat × List Nat)
  | none, x => x
  | some t, none => some t
  | some t, some u => if u.1 ≤ t.1 then some t else some u
theorem cmb_n (s : Option (Nat × List Nat)) : cmb s none = s := by cases s <;> rfl
theorem cmb_as (a b d : Option (Nat × List Nat)) : cmb (cmb a b) d = cmb a (cmb b d) := by
  cases a with
  | none => rfl
  | some a =>
    cases b with
    | none => rfl
    | some b =>
      cases d with
      | none => rw [cmb_n, cmb_n]
      | some d =>
        show cmb (if b.1 ≤ a.1 then some a else some b) (some d) = cmb (some a) (if d.1 ≤ b.1 then some b else some d)
        by_cases h1 : b.1 ≤ a.1
        · rw [if_pos h1]
          by_cases h2 : d.1 ≤ b.1
          · rw [if_pos h2]
            show (if d.1 ≤ a.1 then some a else some d) = (if b.1 ≤ a.1 then some a else some b)
            rw [if_pos h1, if_pos (by omega)]
          · rw [if_neg h2]
        · rw [if_neg h1]
          by_cases h2 : d.1 ≤ b.1
          · rw [if_pos h2]
            show (if d.1 ≤ b.1 then some b else some d) = (if b.1 ≤ a.1 then some a else some b)
            rw [if_pos h2, if_neg h1]
          · rw [if_neg h2]
            show (if d.1 ≤ b.1 then some b else some d) = (if d.1 ≤ a.1 then some a else some d)
            rw [if_neg h2, if_neg (by omega)]
/-- the first of the best -/
def fst1 (f : List Nat → Nat) : List (List Nat) → Option (Nat × List Nat)
  | [] => none
  | a :: r => cmb (some (f a, a)) (fst1 f r)
theorem fst1_app (f : List Nat → Nat) : ∀ (x y : List (List Nat)), fst1 f (x ++ y) = cmb (fst1 f x) (fst1 f y)
  | [], y => rfl
  | a :: x, y => by
    show cmb (some (f a, a)) (fst1 f (x ++ y)) = cmb (cmb (some (f a, a)) (fst1 f x)) (fst1 f y)
    rw [fst1_app f x y, cmb_as]
def sft (v k : Nat) : Option (Nat × List Nat) → Option (Nat × List Nat)
  | none => none
  | some t => some (t.1 + k, v :: t.2)
theorem sft_cmb (v k : Nat) (a b : Option (Nat × List Nat)) : sft v k (cmb a b) = cmb (sft v k a) (sft v k b) := by
  cases a with
  | none => rfl
  | some a =>
    cases b with
    | none => rfl
    | some b =>
      show sft v k (if b.1 ≤ a.1 then some a else some b) = if b.1 + k ≤ a.1 + k then some (a.1 + k, v :: a.2) else some (b.1 + k, v :: b.2)
      by_cases h : b.1 ≤ a.1
      · rw [if_pos h, if_pos (by omega)]; rfl
      · rw [if_neg h, if_neg (by omega)]; rfl
theorem fst1_map {f g : List Nat → Nat} {v k : Nat} : ∀ {x : List (List Nat)}, (∀ r, r ∈ x → f (v :: r) = g r + k) → fst1 f (x.map (fun r => v :: r)) = sft v k (fst1 g x)
  | [], _ => rfl
  | a :: x, h => by
    show cmb (some (f (v :: a), v :: a)) (fst1 f (x.map (fun r => v :: r))) = sft v k (cmb (some (g a, a)) (fst1 g x))
    rw [sft_cmb, fst1_map (fun r hr => h r (List.mem_cons_of_mem _ hr)), h a List.mem_cons_self]
    rfl
/-- whether a pane is seen with a list of them over it -/
def sm (n : Nat) (r : List Nat) : Nat := msk (fun j => decide (j ∈ r)) n
def sn (n : Nat) (c : Scr) (v S : Nat) : Nat := b2n (decide (0 < g0 n c v S))
def pvl (n : Nat) (c : Scr) : List Nat → Nat
  | [] => 0
  | v :: r => pvl n c r + sn n c v (sm n r)
theorem sm_perm {x y : List Nat} (h : x.Perm y) : sm n x = sm n y := msk_cong (fun j _ => by
  by_cases e : j ∈ x
  · rw [decide_eq_true e, decide_eq_true (h.mem_iff.mp e)]
  · rw [decide_eq_false e, decide_eq_false (fun z => e (h.mem_iff.mpr z))])
theorem lxP_perm : ∀ (m : Nat) (l : List Nat), l.length = m → ∀ r, r ∈ lxP m l → r.Perm l
  | 0, l, hl, r, hr => by
    have : l = [] := List.length_eq_zero_iff.mp hl
    subst this
    have : r = [] := by simpa [lxP] using hr
    rw [this]
  | m + 1, l, hl, r, hr => by
    obtain ⟨v, hv, hr⟩ := List.mem_flatMap.mp hr
    obtain ⟨r', hr', rfl⟩ := List.mem_map.mp hr
    have hle : (l.erase v).length = m := by rw [List.length_erase_of_mem hv, hl]; rfl
    exact ((lxP_perm m (l.erase v) hle r' hr').cons v).trans (List.perm_cons_erase hv).symm
/-- the best, by the lowest of them first -/
def bsf (n : Nat) (c : Scr) (B : List Nat → Option (Nat × List Nat)) (l : List Nat) : List Nat → Option (Nat × List Nat)
  | [] => none
  | v :: w => cmb (sft v (sn n c v (sm n (l.erase v))) (B (l.erase v))) (bsf n c B l w)
def bs (n : Nat) (c : Scr) : Nat → List Nat → Option (Nat × List Nat)
  | 0, _ => some (0, [])
  | m + 1, l => bsf n c (bs n c m) l l
theorem bs_is : ∀ (m : Nat) (l : List Nat), l.length = m → bs n c m l = fst1 (pvl n c) (lxP m l)
  | 0, l, _ => rfl
  | m + 1, l, hl => by
    have key : ∀ w : List Nat, (∀ v, v ∈ w → v ∈ l) → bsf n c (bs n c m) l w = fst1 (pvl n c) (w.flatMap (fun v => (lxP m (l.erase v)).map (fun r => v :: r))) := by
      intro w
      induction w with
      | nil => intro _; rfl
      | cons v w ih =>
        intro h
        have hv := h v List.mem_cons_self
        have hle : (l.erase v).length = m := by rw [List.length_erase_of_mem hv, hl]; rfl
        rw [List.flatMap_cons, fst1_app, ← ih (fun x hx => h x (List.mem_cons_of_mem _ hx)), fst1_map (g := pvl n c) (k := sn n c v (sm n (l.erase v))) (fun r hr => by
          show pvl n c r + sn n c v (sm n r) = _
          rw [sm_perm (lxP_perm m _ hle r hr)]), ← bs_is m _ hle]
        rfl
    exact key l (fun _ h => h)
theorem bsf_app (B : List Nat → Option (Nat × List Nat)) (l : List Nat) : ∀ (x y : List Nat), bsf n c B l (x ++ y) = cmb (bsf n c B l x) (bsf n c B l y)
  | [], y => rfl
  | v :: x, y => by
    show cmb _ (bsf n c B l (x ++ y)) = cmb (cmb _ (bsf n c B l x)) (bsf n c B l y)
    rw [bsf_app B l x y, cmb_as]
/-- the best begins with one of them, and goes on with the best of the rest -/
theorem bsf_in {B : List Nat → Option (Nat × List Nat)} {l : List Nat} : ∀ {w : List Nat} {t : Nat × List Nat}, bsf n c B l w = some t → ∃ v u, v ∈ w ∧ B (l.erase v) = some u ∧ t = (u.1 + sn n c v (sm n (l.erase v)), v :: u.2)
  | [], t, h => by cases h
  | v :: w, t, h => by
    have h' : cmb (sft v (sn n c v (sm n (l.erase v))) (B (l.erase v))) (bsf n c B l w) = some t := h
    cases hb : B (l.erase v) with
    | none =>
      rw [hb] at h'
      obtain ⟨x, u, h1, h2, h3⟩ := bsf_in (w := w) (t := t) h'
      exact ⟨x, u, List.mem_cons_of_mem _ h1, h2, h3⟩
    | some u =>
      rw [hb] at h'
      cases hw : bsf n c B l w with
      | none =>
        rw [hw] at h'
        exact ⟨v, u, List.mem_cons_self, hb, (Option.some.inj h').symm⟩
      | some y =>
        rw [hw] at h'
        have h2 : (if y.1 ≤ u.1 + sn n c v (sm n (l.erase v)) then some (u.1 + sn n c v (sm n (l.erase v)), v :: u.2) else some y) = some t := h'
        by_cases e : y.1 ≤ u.1 + sn n c v (sm n (l.erase v))
        · rw [if_pos e] at h2
          exact ⟨v, u, List.mem_cons_self, hb, (Option.some.inj h2).symm⟩
        · rw [if_neg e] at h2
          obtain ⟨x, u', h1, h4, h3⟩ := bsf_in (w := w) (t := y) hw
          exact ⟨x, u', List.mem_cons_of_mem _ h1, h4, (Option.some.inj h2).symm.trans h3⟩
theorem bs_some : ∀ (m : Nat) (l : List Nat), l.length = m → ∃ t, bs n c m l = some t ∧ t.2.Perm l ∧ t.1 ≤ m
  | 0, l, hl => ⟨(0, []), rfl, by rw [List.length_eq_zero_iff.mp hl], Nat.le_refl _⟩
  | m + 1, l, hl => by
    have hne : ∀ w : List Nat, w ≠ [] → (∀ v, v ∈ w → v ∈ l) → ∃ t, bsf n c (bs n c m) l w = some t := by
      intro w hw hin
      cases w with
      | nil => exact absurd rfl hw
      | cons v w =>
        have hle : (l.erase v).length = m := by rw [List.length_erase_of_mem (hin v List.mem_cons_self), hl]; rfl
        obtain ⟨t, h1, -⟩ := bs_some m (l.erase v) hle
        show ∃ t, cmb (sft v _ (bs n c m (l.erase v))) (bsf n c (bs n c m) l w) = some t
        rw [h1]
        cases bsf n c (bs n c m) l w with
        | none => exact ⟨_, rfl⟩
        | some y =>
          show ∃ t', (if y.1 ≤ _ then some _ else some y) = some t'
          split
          · exact ⟨_, rfl⟩
          · exact ⟨_, rfl⟩
    obtain ⟨t, ht⟩ := hne l (fun z => by rw [z] at hl; cases hl) (fun _ h => h)
    obtain ⟨v, u, h1, h2, h3⟩ := bsf_in ht
    have hle : (l.erase v).length = m := by rw [List.length_erase_of_mem h1, hl]; rfl
    obtain ⟨u', k1, k2, k3⟩ := bs_some m (l.erase v) hle
    rw [h2] at k1
    cases k1
    refine ⟨t, ht, ?_, ?_⟩
    · rw [h3]; exact (k2.cons v).trans (List.perm_cons_erase h1).symm
    · rw [h3]
      show u.1 + sn n c v _ ≤ m + 1
      have : sn n c v (sm n (l.erase v)) ≤ 1 := by unfold sn b2n; split <;> omega
      omega
end Best
