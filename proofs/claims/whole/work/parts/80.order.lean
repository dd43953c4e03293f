section Order
variable {N n nd : Nat} {σ : Sg} {D : Nat → Scr} {c : Scr}
/-- the places by an order -/
def cpl (c : Scr) (l : List Nat) : Scr := fun j f => if f = 5 then l.idxOf j else c j f
theorem cpl_5 (c : Scr) (l : List Nat) (j : Nat) : cpl c l j 5 = l.idxOf j := rfl
theorem cpl_s (c : Scr) (l : List Nat) : sp5 (cpl c l) c := fun j f h => if_neg h
theorem pm_in {l : List Nat} (h : l.Perm (List.range n)) {j : Nat} : j ∈ l ↔ j < n := by rw [h.mem_iff, List.mem_range]
theorem pm_len {l : List Nat} (h : l.Perm (List.range n)) : l.length = n := by rw [h.length_eq, List.length_range]
theorem pm_at {l : List Nat} (h : l.Perm (List.range n)) {j : Nat} (hj : j < n) : l.idxOf j < n ∧ gtl l (l.idxOf j) = j := by
  have hm : j ∈ l := (pm_in h).mpr hj
  have hlt := List.idxOf_lt_length_of_mem hm
  refine ⟨by rw [pm_len h] at hlt; exact hlt, ?_⟩
  show l.getD _ 0 = j
  rw [List.getD_eq_getElem?_getD, List.getElem?_eq_getElem hlt, List.getElem_idxOf]
  rfl
theorem pm_lt {l : List Nat} (h : l.Perm (List.range n)) {k : Nat} (hk : k < n) : gtl l k < n := by
  have hlt : k < l.length := by rw [pm_len h]; exact hk
  show l.getD k 0 < n
  rw [List.getD_eq_getElem?_getD, List.getElem?_eq_getElem hlt]
  exact (pm_in h).mp (List.getElem_mem hlt)
theorem cpl_ok {l : List Nat} (h : l.Perm (List.range n)) (ok : okS n c) : okS n (cpl c l) := by
  refine ⟨ok.1, fun i hi => ⟨?_, (pm_at h hi).1, ?_⟩, fun i j hi hj e => ?_⟩
  · obtain ⟨o0, o1, o2, o3, o4⟩ := (ok.2.1 i hi).1
    exact ⟨o0, o1, o2, o3, o4⟩
  · exact (ok.2.1 i hi).2.2
  · rw [cpl_5, cpl_5] at e
    rw [← (pm_at h hi).2, e, (pm_at h hj).2]
def vlo (n : Nat) (c : Scr) (l : List Nat) : Nat := fb_ct (fun i => anyb (vis n (cpl c l) i) 96) n
/-- a sum over a list -/
def lsm (f : Nat → Nat) : List Nat → Nat
  | [] => 0
  | v :: r => lsm f r + f v
theorem lsm_perm {f : Nat → Nat} {x y : List Nat} (h : x.Perm y) : lsm f x = lsm f y := by
  induction h with
  | nil => rfl
  | cons a _ ih => show _ + _ = _ + _; rw [ih]
  | swap a b l => show _ + _ + _ = _ + _ + _; omega
  | trans _ _ h1 h2 => rw [h1, h2]
theorem lsm_app {f : Nat → Nat} : ∀ x y : List Nat, lsm f (x ++ y) = lsm f x + lsm f y
  | [], y => by show _ = 0 + _; rw [Nat.zero_add]; rfl
  | a :: x, y => by
    show lsm f (x ++ y) + f a = lsm f x + f a + lsm f y
    rw [lsm_app x y]; omega
theorem lsm_range (P : Nat → Bool) : ∀ n, lsm (fun i => b2n (P i)) (List.range n) = fb_ct P n
  | 0 => rfl
  | n + 1 => by
    rw [List.range_succ, lsm_app, lsm_range P n, fb_ct_succ]
    show _ + (0 + b2n (P n)) = _
    unfold b2n; omega
theorem aft_cpl {pre r : List Nat} {v : Nat} (h : (pre ++ v :: r).Perm (List.range n)) : aft n (cpl c (pre ++ v :: r)) v = sm n r := by
  have nd : (pre ++ v :: r).Nodup := h.nodup_iff.mpr List.nodup_range
  obtain ⟨nd1, nd2, nd3⟩ := List.nodup_append.mp nd
  obtain ⟨nd4, nd5⟩ := List.nodup_cons.mp nd2
  have hv : v ∉ pre := fun z => nd3 v z v List.mem_cons_self rfl
  have iv : (pre ++ v :: r).idxOf v = pre.length := by
    rw [List.idxOf_append, if_neg hv, List.idxOf_cons_self, Nat.zero_add]
  refine msk_cong (fun j hj => ?_)
  rw [cpl_5, cpl_5, iv]
  have hm : j ∈ pre ++ v :: r := (pm_in h).mpr hj
  rw [List.idxOf_append]
  by_cases h1 : j ∈ pre
  · rw [if_pos h1]
    have h2 := List.idxOf_lt_length_of_mem h1
    have h3 : j ∉ r := fun z => nd3 j h1 j (List.mem_cons_of_mem _ z) rfl
    rw [decide_eq_false h3]
    exact decide_eq_false (by omega)
  · rw [if_neg h1]
    by_cases h2 : j = v
    · subst h2
      rw [List.idxOf_cons_self, decide_eq_false nd4]
      exact decide_eq_false (by omega)
    · have h3 : j ∈ r := by
        rcases List.mem_append.mp hm with z | z
        · exact absurd z h1
        · rcases List.mem_cons.mp z with z | z
          · exact absurd z h2
          · exact z
      rw [decide_eq_true h3, List.idxOf_cons, show (v == j) = false from beq_false_of_ne (fun z => h2 z.symm)]
      exact decide_eq_true (show pre.length < (r.idxOf j + 1) + pre.length by omega)
theorem vlo_pvl {l : List Nat} (h : l.Perm (List.range n)) (ok : okS n c) : vlo n c l = pvl n c l := by
  have key : ∀ r pre : List Nat, pre ++ r = l → lsm (fun i => b2n (anyb (vis n (cpl c l) i) 96)) r = pvl n c r := by
    intro r
    induction r with
    | nil => intro _ _; rfl
    | cons v r ih =>
      intro pre e
      have ih' := ih (pre ++ [v]) (by rw [List.append_assoc]; exact e)
      show lsm _ r + b2n (anyb (vis n (cpl c l) v) 96) = pvl n c r + sn n c v (sm n r)
      have hv : v < n := (pm_in h).mp (by rw [← e]; exact List.mem_append_right _ List.mem_cons_self)
      have e1 : aft n (cpl c l) v = sm n r := by
        rw [← e]; exact aft_cpl (by rw [e]; exact h)
      have e2 := leaf (cpl_ok h ok) (cpl_s c l) hv
      rw [e1] at e2
      rw [ih']
      unfold sn
      rw [← e2]
      cases hb : anyb (vis n (cpl c l) v) 96 with
      | true => rw [decide_eq_true (ct_any.mpr hb)]
      | false => rw [decide_eq_false (fun z => by rw [ct_any.mp z] at hb; cases hb)]
  unfold vlo
  rw [← lsm_range, ← lsm_perm h]
  exact key l [] rfl
theorem fst1_cong {f g : List Nat → Nat} : ∀ {x : List (List Nat)}, (∀ a, a ∈ x → f a = g a) → fst1 f x = fst1 g x
  | [], _ => rfl
  | a :: x, h => by
    show cmb (some (f a, a)) (fst1 f x) = cmb (some (g a, a)) (fst1 g x)
    rw [h a List.mem_cons_self, fst1_cong (fun b hb => h b (List.mem_cons_of_mem _ hb))]
theorem eql_eq : ∀ {x y : List Nat}, eql x y = true → x = y
  | [], [], _ => rfl
  | a :: x, b :: y, h => by
    have h' : (Nat.beq a b && eql x y) = true := h
    rw [Bool.and_eq_true] at h'
    rw [Nat.eq_of_beq_eq_true h'.1, eql_eq h'.2]
  | [], _ :: _, h => by cases h
  | _ :: _, [], h => by cases h
theorem mW_arr {c' : Scr} {l : List Nat} (hW : mW σ n c') (s : sp5 c' c) (h : l.Perm (List.range n)) (ha : arr σ n (gtl l)) : mW σ n (cpl c l) := by
  refine ⟨hW.1, fun i hi => ?_, fun i hi => ?_, ?_⟩
  · obtain ⟨a, b, d⟩ := hW.2.1 i hi
    rw [s i 0 (by decide)] at a
    rw [s i 3 (by decide)] at b
    rw [s i 4 (by decide)] at d
    exact ⟨a, b, d⟩
  · obtain ⟨a, b, -⟩ := hW.2.2.1 i hi
    obtain ⟨p1, p2⟩ := pm_at h hi
    dsimp only at a b
    rw [s i 1 (by decide)] at a
    rw [s i 2 (by decide)] at b
    refine ⟨a, b, ?_⟩
    dsimp only
    rw [cpl_5, (ha.2 _ p1).2, p2]
  · have := hW.2.2.2
    dsimp only at this
    rw [msk_cong (fun j _ => s.op j)] at this
    have e : msk (opn (cpl c l)) n = msk (opn c) n := msk_cong (fun j _ => (cpl_s c l).op j)
    rw [e]; exact this
end Order
