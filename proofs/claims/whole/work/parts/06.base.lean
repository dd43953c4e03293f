/-! the abstract store: ints and longs by (tag, i, j, place); objects are named by (tag, i, j), their addresses by ad -/
abbrev Sg : Type := (Nat → Nat → Nat → Nat → Int32) × (Nat → Nat → Nat → Nat → Int64)
abbrev En : Type := Launch × va_G × (Nat → ClassId) × (Nat → Nat → Nat → Nat) × Nat
abbrev enL (en : En) : Launch := en.1
abbrev enD (en : En) : va_G := en.2.1
abbrev cy (en : En) (k : Nat) : ClassId := en.2.2.1 k
abbrev ad (en : En) (t i j : Nat) : Nat := en.2.2.2.1 t i j
abbrev ltA (en : En) : Nat := en.2.2.2.2
def rI (σ : Sg) (t i j k : Nat) : Int32 := σ.1 t i j k
def rL (σ : Sg) (t i j k : Nat) : Int64 := σ.2 t i j k
def uI (σ : Sg) (t i j k : Nat) (v : Int32) : Sg := (fun a b c d => if a = t ∧ b = i ∧ c = j ∧ d = k then v else σ.1 a b c d, σ.2)
def uL (σ : Sg) (t i j k : Nat) (v : Int64) : Sg := (σ.1, fun a b c d => if a = t ∧ b = i ∧ c = j ∧ d = k then v else σ.2 a b c d)
/-- a run of places at once (System.arraycopy) -/
def uA (σ : Sg) (t i j : Nat) (f : Nat → Int32) : Sg := (fun a b c => if a = t ∧ b = i ∧ c = j then f else σ.1 a b c, σ.2)
def nb (x : Int32) : Int32 := x &&& 1
def mref (n : Nat) (f : Nat → Nat) : vp_A := (n, .inr (.inr (.inr (.inr (fun k => some (f k))))))
def mlen (i : Nat) : Nat := match i with
  | 5 => 6
  | 6 => 240
  | 7 => 6
  | 8 => 240
  | 9 => 4
  | 11 => 7
  | 12 => 7
  | 13 => 7
  | 14 => 22
  | 15 => 880
  | 17 => 66
  | 18 => 2640
  | 19 => 3
  | 20 => 7
  | 21 => 22
  | 26 => 2401
  | 31 => 35
  | 32 => 576
  | _ => 0
def cellF (en : En) (t i j : Nat) (f : Nat → Int32) (g : Nat → Int64) : va_E := match t with
  | 0 => .inr (7, [.ref (ad en 1 0 0), .ref (ad en 4 0 0), .ref (ad en 7 0 0), .ref (ad en 10 0 0), .ref (ad en 12 0 0), .ref (ad en 13 0 0), .ref (ad en 7 1 0), .ref (ad en 14 0 0), .ref (ad en 16 0 0), .ref (ad en 18 0 0), .ref (ad en 20 0 0), .int (f 11), .int (f 12), .long (g 13), .long (g 14)])
  | 1 => .inl (cy en 3, mref 6 (fun k => ad en 2 k 0))
  | 2 => .inr (3, [.ref (ad en 3 i 0), .int (f 1)])
  | 3 => .inl (cy en 0, 40, .inl f)
  | 4 => .inl (cy en 4, mref 4 (fun k => ad en 5 k 0))
  | 5 => .inr (5, [.ref (ad en 6 i 0), .int (f 1)])
  | 6 => .inl (cy en 1, 60, .inl f)
  | 7 => .inr (4, [.ref (ad en 8 i 0), .int (f 1)])
  | 8 => .inl (cy en 7, mref 7 (fun k => ad en 9 i k))
  | 9 => .inr (2, [.int (f 0), .int (f 1), .int (f 2), .int (f 3), .int (f 4), .int (f 5), .int (nb (f 6)), .long (g 7), .long (g 8)])
  | 10 => .inr (1, [.ref (ad en 11 i 0), .ref (ad en 11 i 1), .ref (ad en 11 i 2), .ref (ad en 11 i 3), .int (f 4)])
  | 11 => .inl (cy en 0, 40, .inl f)
  | 12 => .inl (cy en 5, mref 3 (fun k => ad en 7 (k + 2) 0))
  | 13 => .inl (cy en 6, mref 3 (fun k => ad en 10 (k + 1) 0))
  | 14 => .inr (0, [.ref (ad en 15 0 0), .ref (ad en 15 1 0)])
  | 15 => .inl (cy en 0, 128, .inl f)
  | 16 => .inr (6, [.ref (ad en 17 0 0)])
  | 17 => .inl (cy en 0, 128, .inl f)
  | 18 => .inl (cy en 8, mref 8 (fun k => ad en 19 k 0))
  | 19 => .inl (cy en 0, 96, .inl f)
  | 20 => .inl (cy en 0, 6, .inl f)
  | 21 => .inr (8, [.int (f 0), .int (f 1), .long (g 2), .long (g 3), .int (f 4), .ref (ad en 22 5 0), .ref (ad en 22 6 0), .ref (ad en 22 7 0), .ref (ad en 22 8 0), .ref (ad en 22 9 0), .int (f 10), .ref (ad en 22 11 0), .ref (ad en 22 12 0), .ref (ad en 22 13 0), .ref (ad en 22 14 0), .ref (ad en 22 15 0), .int (f 16), .ref (ad en 22 17 0), .ref (ad en 22 18 0), .ref (ad en 22 19 0), .ref (ad en 22 20 0), .ref (ad en 22 21 0), .ref (ad en 23 22 0), .ref (ad en 23 23 0), .ref (ad en 23 24 0), .ref (ad en 23 25 0), .ref (ad en 22 26 0), .int (f 27), .int (f 28), .int (f 29), .int (f 30), .ref (ad en 22 31 0), .ref (ad en 22 32 0)])
  | 22 => .inl (cy en 0, mlen i, .inl f)
  | _ => .inl (cy en 2, 7, .inr (.inl g))
/-- every object and array that there is, once made -/
def obs : List (Nat × Nat × Nat) := [(0, 0, 0), (1, 0, 0), (2, 0, 0), (2, 1, 0), (2, 2, 0), (2, 3, 0), (2, 4, 0), (2, 5, 0), (3, 0, 0), (3, 1, 0), (3, 2, 0), (3, 3, 0), (3, 4, 0), (3, 5, 0), (4, 0, 0), (5, 0, 0), (5, 1, 0), (5, 2, 0), (5, 3, 0), (6, 0, 0), (6, 1, 0), (6, 2, 0), (6, 3, 0), (7, 0, 0), (7, 1, 0), (7, 2, 0), (7, 3, 0), (7, 4, 0), (8, 0, 0), (8, 1, 0), (8, 2, 0), (8, 3, 0), (8, 4, 0), (9, 0, 0), (9, 0, 1), (9, 0, 2), (9, 0, 3), (9, 0, 4), (9, 0, 5), (9, 0, 6), (9, 1, 0), (9, 1, 1), (9, 1, 2), (9, 1, 3), (9, 1, 4), (9, 1, 5), (9, 1, 6), (9, 2, 0), (9, 2, 1), (9, 2, 2), (9, 2, 3), (9, 2, 4), (9, 2, 5), (9, 2, 6), (9, 3, 0), (9, 3, 1), (9, 3, 2), (9, 3, 3), (9, 3, 4), (9, 3, 5), (9, 3, 6), (9, 4, 0), (9, 4, 1), (9, 4, 2), (9, 4, 3), (9, 4, 4), (9, 4, 5), (9, 4, 6), (10, 0, 0), (10, 1, 0), (10, 2, 0), (10, 3, 0), (11, 0, 0), (11, 0, 1), (11, 0, 2), (11, 0, 3), (11, 1, 0), (11, 1, 1), (11, 1, 2), (11, 1, 3), (11, 2, 0), (11, 2, 1), (11, 2, 2), (11, 2, 3), (11, 3, 0), (11, 3, 1), (11, 3, 2), (11, 3, 3), (12, 0, 0), (13, 0, 0), (14, 0, 0), (15, 0, 0), (15, 1, 0), (16, 0, 0), (17, 0, 0), (18, 0, 0), (19, 0, 0), (19, 1, 0), (19, 2, 0), (19, 3, 0), (19, 4, 0), (19, 5, 0), (19, 6, 0), (19, 7, 0), (20, 0, 0), (21, 0, 0), (22, 5, 0), (22, 6, 0), (22, 7, 0), (22, 8, 0), (22, 9, 0), (22, 11, 0), (22, 12, 0), (22, 13, 0), (22, 14, 0), (22, 15, 0), (22, 17, 0), (22, 18, 0), (22, 19, 0), (22, 20, 0), (22, 21, 0), (22, 26, 0), (22, 31, 0), (22, 32, 0), (23, 22, 0), (23, 23, 0), (23, 24, 0), (23, 25, 0)]
/-- the words of the tables that a call keeps -/
def lwG : List Cond := lw_tbl.filter goodWord
theorem in_lwG {w : Cond} (h : w ∈ lw_tbl) (hg : goodWord w = true) : w ∈ lwG := List.mem_filter.mpr ⟨h, hg⟩
theorem obs_nd : obs.Nodup := by decide +kernel
def world (en : En) (σ : Sg) : va_W := obs.map (fun o => (ad en o.1 o.2.1 o.2.2, cellF en o.1 o.2.1 o.2.2 (σ.1 o.1 o.2.1 o.2.2) (σ.2 o.1 o.2.1 o.2.2)))
theorem wd_at {en : En} {t i j : Nat} (h : (t, i, j) ∈ obs) : ∃ q : Nat, obs[q]? = some (t, i, j) ∧ ∀ σ : Sg, (world en σ)[q]? = some (ad en t i j, cellF en t i j (σ.1 t i j) (σ.2 t i j)) := by
  obtain ⟨q, hq⟩ := List.getElem?_of_mem h
  exact ⟨q, hq, fun σ => by unfold world; rw [List.getElem?_map, hq]; rfl⟩
theorem wd_set {en : En} {t i j q : Nat} (hq : obs[q]? = some (t, i, j)) {σ σ' : Sg} {e : va_E} (he : e = cellF en t i j (σ'.1 t i j) (σ'.2 t i j)) (h : ∀ a b c, ¬ (a = t ∧ b = i ∧ c = j) → σ'.1 a b c = σ.1 a b c ∧ σ'.2 a b c = σ.2 a b c) : (world en σ).set q (ad en t i j, e) = world en σ' := by
  subst he
  have hlt : q < obs.length := (List.getElem?_eq_some_iff.mp hq).1
  apply List.ext_getElem?
  intro n
  by_cases hn : n = q
  · subst hn
    rw [List.getElem?_set_self (by unfold world; rw [List.length_map]; exact hlt)]
    unfold world
    rw [List.getElem?_map, hq]
    rfl
  · rw [List.getElem?_set_ne (fun h9 => hn h9.symm)]
    unfold world
    rw [List.getElem?_map, List.getElem?_map]
    cases ho : obs[n]? with
    | none => rfl
    | some o =>
      have hne : ¬ (o.1 = t ∧ o.2.1 = i ∧ o.2.2 = j) := by
        intro ⟨h1, h2, h3⟩
        have hlt2 : n < obs.length := (List.getElem?_eq_some_iff.mp ho).1
        apply hn
        apply (List.getElem?_inj hlt2 obs_nd).mp
        rw [ho, hq, ← h1, ← h2, ← h3]
      obtain ⟨e1, e2⟩ := h o.1 o.2.1 o.2.2 hne
      simp only [Option.map_some, e1, e2]
theorem uI_off {σ : Sg} {t i j k : Nat} {v : Int32} : ∀ a b c, ¬ (a = t ∧ b = i ∧ c = j) → (uI σ t i j k v).1 a b c = σ.1 a b c ∧ (uI σ t i j k v).2 a b c = σ.2 a b c := by
  intro a b c h
  refine ⟨funext fun d => ?_, rfl⟩
  show (if a = t ∧ b = i ∧ c = j ∧ d = k then v else σ.1 a b c d) = σ.1 a b c d
  rw [if_neg (fun h9 => h ⟨h9.1, h9.2.1, h9.2.2.1⟩)]
theorem uL_off {σ : Sg} {t i j k : Nat} {v : Int64} : ∀ a b c, ¬ (a = t ∧ b = i ∧ c = j) → (uL σ t i j k v).1 a b c = σ.1 a b c ∧ (uL σ t i j k v).2 a b c = σ.2 a b c := by
  intro a b c h
  refine ⟨rfl, funext fun d => ?_⟩
  show (if a = t ∧ b = i ∧ c = j ∧ d = k then v else σ.2 a b c d) = σ.2 a b c d
  rw [if_neg (fun h9 => h ⟨h9.1, h9.2.1, h9.2.2.1⟩)]
theorem uA_off {σ : Sg} {t i j : Nat} {f : Nat → Int32} : ∀ a b c, ¬ (a = t ∧ b = i ∧ c = j) → (uA σ t i j f).1 a b c = σ.1 a b c ∧ (uA σ t i j f).2 a b c = σ.2 a b c := by
  intro a b c h
  refine ⟨?_, rfl⟩
  show (if a = t ∧ b = i ∧ c = j then f else σ.1 a b c) = σ.1 a b c
  rw [if_neg h]
theorem uI_on (σ : Sg) (t i j k : Nat) (v : Int32) : (uI σ t i j k v).1 t i j = fun d => if d = k then v else σ.1 t i j d := by
  funext d
  show (if t = t ∧ i = i ∧ j = j ∧ d = k then v else σ.1 t i j d) = _
  by_cases h : d = k
  · rw [if_pos h, if_pos ⟨rfl, rfl, rfl, h⟩]
  · rw [if_neg h, if_neg (fun h9 => h h9.2.2.2)]
theorem uL_on (σ : Sg) (t i j k : Nat) (v : Int64) : (uL σ t i j k v).2 t i j = fun d => if d = k then v else σ.2 t i j d := by
  funext d
  show (if t = t ∧ i = i ∧ j = j ∧ d = k then v else σ.2 t i j d) = _
  by_cases h : d = k
  · rw [if_pos h, if_pos ⟨rfl, rfl, rfl, h⟩]
  · rw [if_neg h, if_neg (fun h9 => h h9.2.2.2)]
theorem uA_on (σ : Sg) (t i j : Nat) (f : Nat → Int32) : (uA σ t i j f).1 t i j = f := by
  show (if t = t ∧ i = i ∧ j = j then f else σ.1 t i j) = f
  rw [if_pos ⟨rfl, rfl, rfl⟩]
/-! the judgement -/
abbrev tysE (en : En) : List (ClassId × FieldType) := [(cy en 0, .int), (cy en 1, .byte), (cy en 2, .long), (cy en 3, .object "PaneOrder$Row"), (cy en 4, .object "PaneOrder$Text"), (cy en 5, .object "PaneOrder$Screen"), (cy en 6, .object "PaneOrder$Deeds"), (cy en 7, .object "PaneOrder$Pane"), (cy en 8, .array .int)]
/-- the letters of the kinds, by number -/
def lettersI : Nat → Int32 := fun k => match k with
  | 0 => 112
  | 1 => 102
  | 2 => 103
  | 3 => 116
  | 4 => 104
  | _ => 109
def lettersF : Nat → Value := fun k => .int (lettersI k)
def nestIsOf : Cond := .methodLinkNest RX4 91 yX7_isOf RX7
def nestLetters : Cond := .fieldLinkNest RX5 72 RX7 "LETTERS" "[I" RX7
def ExL (en : En) (A : Nat → Prop) (s : State) : Prop := va_Z RX7 "LETTERS" "[I" (.ref (ltA en)) A s s.heap ∧ va_T .int (ltA en) 6 lettersF A s s.heap ∧ va_Nw nestIsOf s ∧ va_Nw nestLetters s
/-- a method: its class, code, locals, answer, depth -/
abbrev Mi : Type := String × ByteArray × Nat × Option FieldType × Nat
def Cx (en : En) (Ex : (Nat → Prop) → State → Prop) (mi : Mi) (p : Program) (Rm : Room) (s : State) (m : MethodId) (args : Array Value) (meth : Method) (c : Code) (A : Nat → Prop) (cells slots : Nat) : Prop :=
  p.tables.exec = Jvm.exec ∧ c.code = mi.2.1 ∧ meth.sig.returnType = mi.2.2.2.1 ∧ c.maxLocals = mi.2.2.1 ∧ s.vm.findClass mi.1 = some m.cls ∧ (∀ w ∈ lwG, w.before args s = true) ∧ (mi.2.2.2.2 ≤ Rm.frames ∧ 36 * mi.2.2.2.2 ≤ Rm.locals ∧ cells ≤ Rm.cells ∧ slots ≤ Rm.slots) ∧ (Ex A s ∧ ExL en A s) ∧ va_K (enD en) vwCl (tysE en) s ∧ (∀ q, s.heap.size ≤ q → A q) ∧ meth.locks = false
def Wd (en : En) (σ : Sg) (A : Nat → Prop) (s : State) (H : Heap) (locs : List Loc) : Prop := va_P (enD en) vwCl (world en σ) H ∧ va_D A (world en σ) ∧ va_S A s.heap H locs
def retOk (mi : Mi) (pc : Nat) (v : Option Value) : Prop :=
  (mi.2.2.2.1 = some .int ∧ ∃ x, v = some (.int x) ∧ decode mi.2.1 pc = .ok (.ireturn, 1)) ∨ (mi.2.2.2.1 = some .boolean ∧ ∃ x, v = some (.int x) ∧ narrow .boolean (.int x) = .int x ∧ decode mi.2.1 pc = .ok (.ireturn, 1)) ∨ (mi.2.2.2.1 = some .long ∧ ∃ x, v = some (.long x) ∧ decode mi.2.1 pc = .ok (.lreturn, 1)) ∨ (mi.2.2.2.1 = none ∧ v = none ∧ decode mi.2.1 pc = .ok (.return_, 1))
/-- from pc with these locals, this stack, this store the method comes to its end with the outcome o, if o is one -/
def RR (en : En) (Ex : (Nat → Prop) → State → Prop) (mi : Mi) {α : Type} (ev : α → Option Value × Sg) (pc : Nat) (lv : List (Nat × Value)) (st : List Value) (σ : Sg) (o : Option α) : Prop :=
  ∀ u, o = some u → ∀ (p : Program) (e : Env) (Rm : Room) (s : State) (m : MethodId) (args : Array Value) (below : List Frame) (meth : Method) (c : Code) (A : Nat → Prop) (cells slots : Nat) (Q : State → Prop), Cx en Ex mi p Rm s m args meth c A cells slots → ∀ (H : Heap) (locs : List Loc) (ls : Array Slot), Wd en σ A s H locs → lv_has ls mi.2.2.1 lv →
    (∀ (H' : Heap) (locs' : List Loc) (pc' : Nat) (ls' : Array Slot), Wd en (ev u).2 A s H' locs' → retOk mi pc' (ev u).1 → W p (enL en) e Rm s m args below meth c H' locs' cells slots Q (F0 m pc' ls' (ev u).1.toList)) →
    W p (enL en) e Rm s m args below meth c H locs cells slots Q (F0 m pc ls st)
abbrev evI : Int32 × Sg → Option Value × Sg := fun q => (some (.int q.1), q.2)
abbrev evL : Int64 × Sg → Option Value × Sg := fun q => (some (.long q.1), q.2)
abbrev evV : Sg → Option Value × Sg := fun q => (none, q)
/-- a guard -/
def gd {α : Type} (b : Bool) (o : Option α) : Option α := if b then o else none
theorem gd_t {α : Type} {b : Bool} {o : Option α} (h : b = true) : gd b o = o := by subst h; rfl
theorem gd_some {α : Type} {b : Bool} {o : Option α} {u : α} (h : gd b o = some u) : b = true ∧ o = some u := by
  cases b with
  | true => exact ⟨rfl, h⟩
  | false => cases h
def ib (i : Int32) (n : Nat) : Bool := decide (¬ i < 0) && decide (i.toNatClampNeg < n)
theorem ib_in {i : Int32} {n : Nat} (h : ib i n = true) : vp_in i n := by
  unfold ib at h
  rw [Bool.and_eq_true, decide_eq_true_eq, decide_eq_true_eq] at h
  intro h9
  rcases h9 with h9 | h9
  · exact h.1 h9
  · omega
theorem ib_lt {i : Int32} {n : Nat} (h : ib i n = true) : i.toNatClampNeg < n := by
  unfold ib at h
  rw [Bool.and_eq_true, decide_eq_true_eq, decide_eq_true_eq] at h
  exact h.2
section Rows
variable {en : En} {Ex : (Nat → Prop) → State → Prop} {mi : Mi} {α : Type} {ev : α → Option Value × Sg} {pc : Nat} {lv : List (Nat × Value)} {rest : List Value} {σ : Sg} {o o1 o2 : Option α}
theorem r_iconst {n : Int} {v : Int32} (hd : decode mi.2.1 pc = .ok (.iconst n, 1)) (hv : Int32.ofInt n = v) (h : RR en Ex mi ev (pc + 1) lv (.int v :: rest) σ o) : RR en Ex mi ev pc lv rest σ o :=
  fun u hu p e Rm s m args below meth c A cells slots Q C H locs ls hW hl kr => lv_iconst C.1 C.2.1 hd hv (h u hu p e Rm s m args below meth c A cells slots Q C H locs ls hW hl kr)
theorem r_bipush {n : Int} {v : Int32} (hd : decode mi.2.1 pc = .ok (.bipush n, 2)) (hv : (Int8.ofInt n).toInt32 = v) (h : RR en Ex mi ev (pc + 2) lv (.int v :: rest) σ o) : RR en Ex mi ev pc lv rest σ o :=
  fun u hu p e Rm s m args below meth c A cells slots Q C H locs ls hW hl kr => lv_bipush C.1 C.2.1 hd hv (h u hu p e Rm s m args below meth c A cells slots Q C H locs ls hW hl kr)
theorem r_sipush {n : Int} {v : Int32} (hd : decode mi.2.1 pc = .ok (.sipush n, 3)) (hv : (Int16.ofInt n).toInt32 = v) (h : RR en Ex mi ev (pc + 3) lv (.int v :: rest) σ o) : RR en Ex mi ev pc lv rest σ o :=
  fun u hu p e Rm s m args below meth c A cells slots Q C H locs ls hW hl kr => lv_sipush C.1 C.2.1 hd hv (h u hu p e Rm s m args below meth c A cells slots Q C H locs ls hW hl kr)
theorem r_lconst {n : Fin 2} {v : Int64} (hd : decode mi.2.1 pc = .ok (.lconst n, 1)) (hv : Int64.ofNat (n : Nat) = v) (h : RR en Ex mi ev (pc + 1) lv (.long v :: rest) σ o) : RR en Ex mi ev pc lv rest σ o :=
  fun u hu p e Rm s m args below meth c A cells slots Q C H locs ls hW hl kr => lv_lconst C.1 C.2.1 hd hv (h u hu p e Rm s m args below meth c A cells slots Q C H locs ls hW hl kr)
theorem r_ldc2 {index : Nat} {v : Int64} (hw : Jvm.Cond.constantLong mi.1 index v ∈ lwG) (hd : decode mi.2.1 pc = .ok (.ldc2_w index, 3)) (h : RR en Ex mi ev (pc + 3) lv (.long v :: rest) σ o) : RR en Ex mi ev pc lv rest σ o :=
  fun u hu p e Rm s m args below meth c A cells slots Q C H locs ls hW hl kr => lv_ldc2 C.1 C.2.1 C.2.2.2.2.1 (C.2.2.2.2.2.1 _ hw) hd (h u hu p e Rm s m args below meth c A cells slots Q C H locs ls hW hl kr)
theorem r_ldcw {index : Nat} {v : Int32} (hw : Jvm.Cond.constant mi.1 index v ∈ lwG) (hd : decode mi.2.1 pc = .ok (.ldc_w index, 3)) (h : RR en Ex mi ev (pc + 3) lv (.int v :: rest) σ o) : RR en Ex mi ev pc lv rest σ o :=
  fun u hu p e Rm s m args below meth c A cells slots Q C H locs ls hW hl kr => lv_ldcw C.1 C.2.1 C.2.2.2.2.1 (C.2.2.2.2.2.1 _ hw) hd (h u hu p e Rm s m args below meth c A cells slots Q C H locs ls hW hl kr)
theorem r_iload_n (q : Nat) {k : Fin 4} {i : Nat} {x : Int32} (hd : decode mi.2.1 pc = .ok (.iload_n k, 1)) (hi : (k : Nat) = i) (hq : lv[q]? = some (i, .int x)) (h : RR en Ex mi ev (pc + 1) lv (.int x :: rest) σ o) : RR en Ex mi ev pc lv rest σ o :=
  fun u hu p e Rm s m args below meth c A cells slots Q C H locs ls hW hl kr => lv_iload_n C.1 C.2.1 hd hi (lv_at hl q hq) (h u hu p e Rm s m args below meth c A cells slots Q C H locs ls hW hl kr)
theorem r_iload (q : Nat) {i : Nat} {x : Int32} (hd : decode mi.2.1 pc = .ok (.iload i, 2)) (hq : lv[q]? = some (i, .int x)) (h : RR en Ex mi ev (pc + 2) lv (.int x :: rest) σ o) : RR en Ex mi ev pc lv rest σ o :=
  fun u hu p e Rm s m args below meth c A cells slots Q C H locs ls hW hl kr => lv_iload C.1 C.2.1 hd (lv_at hl q hq) (h u hu p e Rm s m args below meth c A cells slots Q C H locs ls hW hl kr)
theorem r_lload_n (q : Nat) {k : Fin 4} {i : Nat} {x : Int64} (hd : decode mi.2.1 pc = .ok (.lload_n k, 1)) (hi : (k : Nat) = i) (hq : lv[q]? = some (i, .long x)) (h : RR en Ex mi ev (pc + 1) lv (.long x :: rest) σ o) : RR en Ex mi ev pc lv rest σ o :=
  fun u hu p e Rm s m args below meth c A cells slots Q C H locs ls hW hl kr => lv_lload_n C.1 C.2.1 hd hi (lv_at hl q hq) (h u hu p e Rm s m args below meth c A cells slots Q C H locs ls hW hl kr)
theorem r_lload (q : Nat) {i : Nat} {x : Int64} (hd : decode mi.2.1 pc = .ok (.lload i, 2)) (hq : lv[q]? = some (i, .long x)) (h : RR en Ex mi ev (pc + 2) lv (.long x :: rest) σ o) : RR en Ex mi ev pc lv rest σ o :=
  fun u hu p e Rm s m args below meth c A cells slots Q C H locs ls hW hl kr => lv_lload C.1 C.2.1 hd (lv_at hl q hq) (h u hu p e Rm s m args below meth c A cells slots Q C H locs ls hW hl kr)
theorem r_aload_n (q : Nat) {k : Fin 4} {i : Nat} {x : Nat} (hd : decode mi.2.1 pc = .ok (.aload_n k, 1)) (hi : (k : Nat) = i) (hq : lv[q]? = some (i, .ref x)) (h : RR en Ex mi ev (pc + 1) lv (.ref x :: rest) σ o) : RR en Ex mi ev pc lv rest σ o :=
  fun u hu p e Rm s m args below meth c A cells slots Q C H locs ls hW hl kr => lv_aload_n C.1 C.2.1 hd hi (lv_at hl q hq) (h u hu p e Rm s m args below meth c A cells slots Q C H locs ls hW hl kr)
theorem r_aload (q : Nat) {i : Nat} {x : Nat} (hd : decode mi.2.1 pc = .ok (.aload i, 2)) (hq : lv[q]? = some (i, .ref x)) (h : RR en Ex mi ev (pc + 2) lv (.ref x :: rest) σ o) : RR en Ex mi ev pc lv rest σ o :=
  fun u hu p e Rm s m args below meth c A cells slots Q C H locs ls hW hl kr => lv_aload C.1 C.2.1 hd (lv_at hl q hq) (h u hu p e Rm s m args below meth c A cells slots Q C H locs ls hW hl kr)
theorem r_istore_n {k : Fin 4} {i : Nat} {x : Int32} (lv' : List (Nat × Value)) (hd : decode mi.2.1 pc = .ok (.istore_n k, 1)) (hi : (k : Nat) = i) (hn : i < mi.2.2.1) (hl' : (i, Value.int x) :: lv.filter (fun q => !(q.1 == i) && !(q.1 + 1 == i && q.2.category == 2)) = lv') (h : RR en Ex mi ev (pc + 1) lv' rest σ o) : RR en Ex mi ev pc lv (.int x :: rest) σ o :=
  fun u hu p e Rm s m args below meth c A cells slots Q C H locs ls hW hl kr => lv_istore_n C.1 C.2.1 hd hi hl hn hl' (fun ls' hl2 => h u hu p e Rm s m args below meth c A cells slots Q C H locs ls' hW hl2 kr)
theorem r_istore {i : Nat} {x : Int32} (lv' : List (Nat × Value)) (hd : decode mi.2.1 pc = .ok (.istore i, 2)) (hn : i < mi.2.2.1) (hl' : (i, Value.int x) :: lv.filter (fun q => !(q.1 == i) && !(q.1 + 1 == i && q.2.category == 2)) = lv') (h : RR en Ex mi ev (pc + 2) lv' rest σ o) : RR en Ex mi ev pc lv (.int x :: rest) σ o :=
  fun u hu p e Rm s m args below meth c A cells slots Q C H locs ls hW hl kr => lv_istore C.1 C.2.1 hd hl hn hl' (fun ls' hl2 => h u hu p e Rm s m args below meth c A cells slots Q C H locs ls' hW hl2 kr)
theorem r_astore_n {k : Fin 4} {i : Nat} {x : Nat} (lv' : List (Nat × Value)) (hd : decode mi.2.1 pc = .ok (.astore_n k, 1)) (hi : (k : Nat) = i) (hn : i < mi.2.2.1) (hl' : (i, Value.ref x) :: lv.filter (fun q => !(q.1 == i) && !(q.1 + 1 == i && q.2.category == 2)) = lv') (h : RR en Ex mi ev (pc + 1) lv' rest σ o) : RR en Ex mi ev pc lv (.ref x :: rest) σ o :=
  fun u hu p e Rm s m args below meth c A cells slots Q C H locs ls hW hl kr => lv_astore_n C.1 C.2.1 hd hi hl hn hl' (fun ls' hl2 => h u hu p e Rm s m args below meth c A cells slots Q C H locs ls' hW hl2 kr)
theorem r_astore {i : Nat} {x : Nat} (lv' : List (Nat × Value)) (hd : decode mi.2.1 pc = .ok (.astore i, 2)) (hn : i < mi.2.2.1) (hl' : (i, Value.ref x) :: lv.filter (fun q => !(q.1 == i) && !(q.1 + 1 == i && q.2.category == 2)) = lv') (h : RR en Ex mi ev (pc + 2) lv' rest σ o) : RR en Ex mi ev pc lv (.ref x :: rest) σ o :=
  fun u hu p e Rm s m args below meth c A cells slots Q C H locs ls hW hl kr => lv_astore C.1 C.2.1 hd hl hn hl' (fun ls' hl2 => h u hu p e Rm s m args below meth c A cells slots Q C H locs ls' hW hl2 kr)
theorem r_lstore_n {k : Fin 4} {i : Nat} {x : Int64} (lv' : List (Nat × Value)) (hd : decode mi.2.1 pc = .ok (.lstore_n k, 1)) (hi : (k : Nat) = i) (hn : i + 1 < mi.2.2.1) (hl' : (i, Value.long x) :: lv.filter (fun q => !(q.1 == i) && (!(q.1 == i + 1) && !(q.1 + 1 == i && q.2.category == 2))) = lv') (h : RR en Ex mi ev (pc + 1) lv' rest σ o) : RR en Ex mi ev pc lv (.long x :: rest) σ o :=
  fun u hu p e Rm s m args below meth c A cells slots Q C H locs ls hW hl kr => lv_lstore_n C.1 C.2.1 hd hi hl hn hl' (fun ls' hl2 => h u hu p e Rm s m args below meth c A cells slots Q C H locs ls' hW hl2 kr)
theorem r_lstore {i : Nat} {x : Int64} (lv' : List (Nat × Value)) (hd : decode mi.2.1 pc = .ok (.lstore i, 2)) (hn : i + 1 < mi.2.2.1) (hl' : (i, Value.long x) :: lv.filter (fun q => !(q.1 == i) && (!(q.1 == i + 1) && !(q.1 + 1 == i && q.2.category == 2))) = lv') (h : RR en Ex mi ev (pc + 2) lv' rest σ o) : RR en Ex mi ev pc lv (.long x :: rest) σ o :=
  fun u hu p e Rm s m args below meth c A cells slots Q C H locs ls hW hl kr => lv_lstore C.1 C.2.1 hd hl hn hl' (fun ls' hl2 => h u hu p e Rm s m args below meth c A cells slots Q C H locs ls' hW hl2 kr)
theorem r_iinc (q : Nat) {i : Nat} {n : Int} {x v : Int32} (lv' : List (Nat × Value)) (hd : decode mi.2.1 pc = .ok (.iinc i n, 3)) (hq : lv[q]? = some (i, .int x)) (hv : x + Int32.ofInt n = v) (hn : i < mi.2.2.1) (hl' : (i, Value.int v) :: lv.filter (fun q => !(q.1 == i) && !(q.1 + 1 == i && q.2.category == 2)) = lv') (h : RR en Ex mi ev (pc + 3) lv' rest σ o) : RR en Ex mi ev pc lv rest σ o :=
  fun u hu p e Rm s m args below meth c A cells slots Q C H locs ls hW hl kr => lv_iinc C.1 C.2.1 hd hl hq hv hn hl' (fun ls' hl2 => h u hu p e Rm s m args below meth c A cells slots Q C H locs ls' hW hl2 kr)
theorem r_iadd {x y : Int32} (hd : decode mi.2.1 pc = .ok (.iadd, 1)) (h : RR en Ex mi ev (pc + 1) lv (.int (x + y) :: rest) σ o) : RR en Ex mi ev pc lv (.int y :: .int x :: rest) σ o :=
  fun u hu p e Rm s m args below meth c A cells slots Q C H locs ls hW hl kr => lv_iadd C.1 C.2.1 hd (h u hu p e Rm s m args below meth c A cells slots Q C H locs ls hW hl kr)
theorem r_isub {x y : Int32} (hd : decode mi.2.1 pc = .ok (.isub, 1)) (h : RR en Ex mi ev (pc + 1) lv (.int (x - y) :: rest) σ o) : RR en Ex mi ev pc lv (.int y :: .int x :: rest) σ o :=
  fun u hu p e Rm s m args below meth c A cells slots Q C H locs ls hW hl kr => lv_isub C.1 C.2.1 hd (h u hu p e Rm s m args below meth c A cells slots Q C H locs ls hW hl kr)
theorem r_imul {x y : Int32} (hd : decode mi.2.1 pc = .ok (.imul, 1)) (h : RR en Ex mi ev (pc + 1) lv (.int (x * y) :: rest) σ o) : RR en Ex mi ev pc lv (.int y :: .int x :: rest) σ o :=
  fun u hu p e Rm s m args below meth c A cells slots Q C H locs ls hW hl kr => lv_imul C.1 C.2.1 hd (h u hu p e Rm s m args below meth c A cells slots Q C H locs ls hW hl kr)
theorem r_iand {x y : Int32} (hd : decode mi.2.1 pc = .ok (.iand, 1)) (h : RR en Ex mi ev (pc + 1) lv (.int (x &&& y) :: rest) σ o) : RR en Ex mi ev pc lv (.int y :: .int x :: rest) σ o :=
  fun u hu p e Rm s m args below meth c A cells slots Q C H locs ls hW hl kr => lv_iand C.1 C.2.1 hd (h u hu p e Rm s m args below meth c A cells slots Q C H locs ls hW hl kr)
theorem r_ior {x y : Int32} (hd : decode mi.2.1 pc = .ok (.ior, 1)) (h : RR en Ex mi ev (pc + 1) lv (.int (x ||| y) :: rest) σ o) : RR en Ex mi ev pc lv (.int y :: .int x :: rest) σ o :=
  fun u hu p e Rm s m args below meth c A cells slots Q C H locs ls hW hl kr => lv_ior C.1 C.2.1 hd (h u hu p e Rm s m args below meth c A cells slots Q C H locs ls hW hl kr)
theorem r_ixor {x y : Int32} (hd : decode mi.2.1 pc = .ok (.ixor, 1)) (h : RR en Ex mi ev (pc + 1) lv (.int (x ^^^ y) :: rest) σ o) : RR en Ex mi ev pc lv (.int y :: .int x :: rest) σ o :=
  fun u hu p e Rm s m args below meth c A cells slots Q C H locs ls hW hl kr => lv_ixor C.1 C.2.1 hd (h u hu p e Rm s m args below meth c A cells slots Q C H locs ls hW hl kr)
theorem r_ishl {x y : Int32} (hd : decode mi.2.1 pc = .ok (.ishl, 1)) (h : RR en Ex mi ev (pc + 1) lv (.int (x <<< (y &&& 31)) :: rest) σ o) : RR en Ex mi ev pc lv (.int y :: .int x :: rest) σ o :=
  fun u hu p e Rm s m args below meth c A cells slots Q C H locs ls hW hl kr => lv_ishl C.1 C.2.1 hd (h u hu p e Rm s m args below meth c A cells slots Q C H locs ls hW hl kr)
theorem r_ishr {x y : Int32} (hd : decode mi.2.1 pc = .ok (.ishr, 1)) (h : RR en Ex mi ev (pc + 1) lv (.int (x >>> (y &&& 31)) :: rest) σ o) : RR en Ex mi ev pc lv (.int y :: .int x :: rest) σ o :=
  fun u hu p e Rm s m args below meth c A cells slots Q C H locs ls hW hl kr => lv_ishr C.1 C.2.1 hd (h u hu p e Rm s m args below meth c A cells slots Q C H locs ls hW hl kr)
theorem r_iushr {x y : Int32} (hd : decode mi.2.1 pc = .ok (.iushr, 1)) (h : RR en Ex mi ev (pc + 1) lv (.int ((x.toUInt32 >>> (y.toUInt32 &&& Int32.toUInt32 31)).toInt32) :: rest) σ o) : RR en Ex mi ev pc lv (.int y :: .int x :: rest) σ o :=
  fun u hu p e Rm s m args below meth c A cells slots Q C H locs ls hW hl kr => lv_iushr C.1 C.2.1 hd rfl (h u hu p e Rm s m args below meth c A cells slots Q C H locs ls hW hl kr)
theorem r_idiv {x y : Int32} (hd : decode mi.2.1 pc = .ok (.idiv, 1)) (hne : ¬ y = 0) (h : RR en Ex mi ev (pc + 1) lv (.int (x / y) :: rest) σ o) : RR en Ex mi ev pc lv (.int y :: .int x :: rest) σ o :=
  fun u hu p e Rm s m args below meth c A cells slots Q C H locs ls hW hl kr => lv_idiv C.1 C.2.1 hd hne (h u hu p e Rm s m args below meth c A cells slots Q C H locs ls hW hl kr)
theorem r_irem {x y : Int32} (hd : decode mi.2.1 pc = .ok (.irem, 1)) (hne : ¬ y = 0) (h : RR en Ex mi ev (pc + 1) lv (.int (x - x / y * y) :: rest) σ o) : RR en Ex mi ev pc lv (.int y :: .int x :: rest) σ o :=
  fun u hu p e Rm s m args below meth c A cells slots Q C H locs ls hW hl kr => lv_irem C.1 C.2.1 hd hne (h u hu p e Rm s m args below meth c A cells slots Q C H locs ls hW hl kr)
theorem r_ladd {x y : Int64} (hd : decode mi.2.1 pc = .ok (.ladd, 1)) (h : RR en Ex mi ev (pc + 1) lv (.long (x + y) :: rest) σ o) : RR en Ex mi ev pc lv (.long y :: .long x :: rest) σ o :=
  fun u hu p e Rm s m args below meth c A cells slots Q C H locs ls hW hl kr => lv_ladd C.1 C.2.1 hd (h u hu p e Rm s m args below meth c A cells slots Q C H locs ls hW hl kr)
theorem r_lsub {x y : Int64} (hd : decode mi.2.1 pc = .ok (.lsub, 1)) (h : RR en Ex mi ev (pc + 1) lv (.long (x - y) :: rest) σ o) : RR en Ex mi ev pc lv (.long y :: .long x :: rest) σ o :=
  fun u hu p e Rm s m args below meth c A cells slots Q C H locs ls hW hl kr => lv_lsub C.1 C.2.1 hd (h u hu p e Rm s m args below meth c A cells slots Q C H locs ls hW hl kr)
theorem r_lmul {x y : Int64} (hd : decode mi.2.1 pc = .ok (.lmul, 1)) (h : RR en Ex mi ev (pc + 1) lv (.long (x * y) :: rest) σ o) : RR en Ex mi ev pc lv (.long y :: .long x :: rest) σ o :=
  fun u hu p e Rm s m args below meth c A cells slots Q C H locs ls hW hl kr => lv_lmul C.1 C.2.1 hd (h u hu p e Rm s m args below meth c A cells slots Q C H locs ls hW hl kr)
theorem r_land {x y : Int64} (hd : decode mi.2.1 pc = .ok (.land, 1)) (h : RR en Ex mi ev (pc + 1) lv (.long (x &&& y) :: rest) σ o) : RR en Ex mi ev pc lv (.long y :: .long x :: rest) σ o :=
  fun u hu p e Rm s m args below meth c A cells slots Q C H locs ls hW hl kr => lv_land C.1 C.2.1 hd (h u hu p e Rm s m args below meth c A cells slots Q C H locs ls hW hl kr)
theorem r_lor {x y : Int64} (hd : decode mi.2.1 pc = .ok (.lor, 1)) (h : RR en Ex mi ev (pc + 1) lv (.long (x ||| y) :: rest) σ o) : RR en Ex mi ev pc lv (.long y :: .long x :: rest) σ o :=
  fun u hu p e Rm s m args below meth c A cells slots Q C H locs ls hW hl kr => lv_lor C.1 C.2.1 hd (h u hu p e Rm s m args below meth c A cells slots Q C H locs ls hW hl kr)
theorem r_lxor {x y : Int64} (hd : decode mi.2.1 pc = .ok (.lxor, 1)) (h : RR en Ex mi ev (pc + 1) lv (.long (x ^^^ y) :: rest) σ o) : RR en Ex mi ev pc lv (.long y :: .long x :: rest) σ o :=
  fun u hu p e Rm s m args below meth c A cells slots Q C H locs ls hW hl kr => lv_lxor C.1 C.2.1 hd (h u hu p e Rm s m args below meth c A cells slots Q C H locs ls hW hl kr)
theorem r_ldiv {x y : Int64} (hd : decode mi.2.1 pc = .ok (.ldiv, 1)) (hne : ¬ y = 0) (h : RR en Ex mi ev (pc + 1) lv (.long (x / y) :: rest) σ o) : RR en Ex mi ev pc lv (.long y :: .long x :: rest) σ o :=
  fun u hu p e Rm s m args below meth c A cells slots Q C H locs ls hW hl kr => lv_ldiv C.1 C.2.1 hd hne (h u hu p e Rm s m args below meth c A cells slots Q C H locs ls hW hl kr)
theorem r_lrem {x y : Int64} (hd : decode mi.2.1 pc = .ok (.lrem, 1)) (hne : ¬ y = 0) (h : RR en Ex mi ev (pc + 1) lv (.long (x - x / y * y) :: rest) σ o) : RR en Ex mi ev pc lv (.long y :: .long x :: rest) σ o :=
  fun u hu p e Rm s m args below meth c A cells slots Q C H locs ls hW hl kr => lv_lrem C.1 C.2.1 hd hne (h u hu p e Rm s m args below meth c A cells slots Q C H locs ls hW hl kr)
theorem r_lshl {x : Int64} {y : Int32} (hd : decode mi.2.1 pc = .ok (.lshl, 1)) (h : RR en Ex mi ev (pc + 1) lv (.long (x <<< (y.toInt64 &&& 63)) :: rest) σ o) : RR en Ex mi ev pc lv (.int y :: .long x :: rest) σ o :=
  fun u hu p e Rm s m args below meth c A cells slots Q C H locs ls hW hl kr => lv_lshl C.1 C.2.1 hd rfl (h u hu p e Rm s m args below meth c A cells slots Q C H locs ls hW hl kr)
theorem r_lshr {x : Int64} {y : Int32} (hd : decode mi.2.1 pc = .ok (.lshr, 1)) (h : RR en Ex mi ev (pc + 1) lv (.long (x >>> (y.toInt64 &&& 63)) :: rest) σ o) : RR en Ex mi ev pc lv (.int y :: .long x :: rest) σ o :=
  fun u hu p e Rm s m args below meth c A cells slots Q C H locs ls hW hl kr => lv_lshr C.1 C.2.1 hd rfl (h u hu p e Rm s m args below meth c A cells slots Q C H locs ls hW hl kr)
theorem r_lushr {x : Int64} {y : Int32} (hd : decode mi.2.1 pc = .ok (.lushr, 1)) (h : RR en Ex mi ev (pc + 1) lv (.long ((x.toUInt64 >>> (y.toInt64.toUInt64 &&& Int64.toUInt64 63)).toInt64) :: rest) σ o) : RR en Ex mi ev pc lv (.int y :: .long x :: rest) σ o :=
  fun u hu p e Rm s m args below meth c A cells slots Q C H locs ls hW hl kr => lv_lushr C.1 C.2.1 hd rfl (h u hu p e Rm s m args below meth c A cells slots Q C H locs ls hW hl kr)
theorem r_i2l {x : Int32} (hd : decode mi.2.1 pc = .ok (.i2l, 1)) (h : RR en Ex mi ev (pc + 1) lv (.long x.toInt64 :: rest) σ o) : RR en Ex mi ev pc lv (.int x :: rest) σ o :=
  fun u hu p e Rm s m args below meth c A cells slots Q C H locs ls hW hl kr => lv_i2l C.1 C.2.1 hd rfl (h u hu p e Rm s m args below meth c A cells slots Q C H locs ls hW hl kr)
theorem r_l2i {x : Int64} (hd : decode mi.2.1 pc = .ok (.l2i, 1)) (h : RR en Ex mi ev (pc + 1) lv (.int x.toInt32 :: rest) σ o) : RR en Ex mi ev pc lv (.long x :: rest) σ o :=
  fun u hu p e Rm s m args below meth c A cells slots Q C H locs ls hW hl kr => lv_l2i C.1 C.2.1 hd rfl (h u hu p e Rm s m args below meth c A cells slots Q C H locs ls hW hl kr)
theorem r_i2b {x : Int32} (hd : decode mi.2.1 pc = .ok (.i2b, 1)) (h : RR en Ex mi ev (pc + 1) lv (.int x.toInt8.toInt32 :: rest) σ o) : RR en Ex mi ev pc lv (.int x :: rest) σ o :=
  fun u hu p e Rm s m args below meth c A cells slots Q C H locs ls hW hl kr => lv_i2b C.1 C.2.1 hd rfl (h u hu p e Rm s m args below meth c A cells slots Q C H locs ls hW hl kr)
theorem r_lcmp {x y : Int64} (hd : decode mi.2.1 pc = .ok (.lcmp, 1)) (h : RR en Ex mi ev (pc + 1) lv (.int (lg_cmp x y) :: rest) σ o) : RR en Ex mi ev pc lv (.long y :: .long x :: rest) σ o :=
  fun u hu p e Rm s m args below meth c A cells slots Q C H locs ls hW hl kr => W.lcmp C.1 C.2.1 hd (h u hu p e Rm s m args below meth c A cells slots Q C H locs ls hW hl kr)
theorem r_dup {v : Value} (hd : decode mi.2.1 pc = .ok (.dup, 1)) (hv : v.category = 1) (h : RR en Ex mi ev (pc + 1) lv (v :: v :: rest) σ o) : RR en Ex mi ev pc lv (v :: rest) σ o :=
  fun u hu p e Rm s m args below meth c A cells slots Q C H locs ls hW hl kr => lv_dup C.1 C.2.1 hd hv (h u hu p e Rm s m args below meth c A cells slots Q C H locs ls hW hl kr)
theorem r_dup2 {v w : Value} (hd : decode mi.2.1 pc = .ok (.dup2, 1)) (hv : v.category = 1) (hw : w.category = 1) (h : RR en Ex mi ev (pc + 1) lv (v :: w :: v :: w :: rest) σ o) : RR en Ex mi ev pc lv (v :: w :: rest) σ o :=
  fun u hu p e Rm s m args below meth c A cells slots Q C H locs ls hW hl kr => lv_dup2_11 C.1 C.2.1 hd hv hw (h u hu p e Rm s m args below meth c A cells slots Q C H locs ls hW hl kr)
theorem r_icmp_eq {x y : Int32} {off : Int} (tgt : Nat) (hd : decode mi.2.1 pc = .ok (.if_icmp .eq off, 3)) (ht : (pc : Int) + off = (tgt : Int)) (h1 : x = y → RR en Ex mi ev tgt lv rest σ o1) (h2 : ¬ x = y → RR en Ex mi ev (pc + 3) lv rest σ o2) : RR en Ex mi ev pc lv (.int y :: .int x :: rest) σ (if x = y then o1 else o2) := by
  intro u hu p e Rm s m args below meth c A cells slots Q C H locs ls hW hl kr
  exact lv_icmp_eq C.1 C.2.1 hd ht (fun hc => h1 hc u (by rw [if_pos hc] at hu; exact hu) p e Rm s m args below meth c A cells slots Q C H locs ls hW hl kr) (fun hc => h2 hc u (by rw [if_neg hc] at hu; exact hu) p e Rm s m args below meth c A cells slots Q C H locs ls hW hl kr)
theorem r_icmp_ne {x y : Int32} {off : Int} (tgt : Nat) (hd : decode mi.2.1 pc = .ok (.if_icmp .ne off, 3)) (ht : (pc : Int) + off = (tgt : Int)) (h1 : x = y → RR en Ex mi ev (pc + 3) lv rest σ o1) (h2 : ¬ x = y → RR en Ex mi ev tgt lv rest σ o2) : RR en Ex mi ev pc lv (.int y :: .int x :: rest) σ (if x = y then o1 else o2) := by
  intro u hu p e Rm s m args below meth c A cells slots Q C H locs ls hW hl kr
  exact lv_icmp_ne C.1 C.2.1 hd ht (fun hc => h2 hc u (by rw [if_neg hc] at hu; exact hu) p e Rm s m args below meth c A cells slots Q C H locs ls hW hl kr) (fun hc => h1 hc u (by rw [if_pos hc] at hu; exact hu) p e Rm s m args below meth c A cells slots Q C H locs ls hW hl kr)
theorem r_icmp_lt {x y : Int32} {off : Int} (tgt : Nat) (hd : decode mi.2.1 pc = .ok (.if_icmp .lt off, 3)) (ht : (pc : Int) + off = (tgt : Int)) (h1 : x < y → RR en Ex mi ev tgt lv rest σ o1) (h2 : ¬ x < y → RR en Ex mi ev (pc + 3) lv rest σ o2) : RR en Ex mi ev pc lv (.int y :: .int x :: rest) σ (if x < y then o1 else o2) := by
  intro u hu p e Rm s m args below meth c A cells slots Q C H locs ls hW hl kr
  exact lv_icmp_lt C.1 C.2.1 hd ht (fun hc => h1 hc u (by rw [if_pos hc] at hu; exact hu) p e Rm s m args below meth c A cells slots Q C H locs ls hW hl kr) (fun hc => h2 hc u (by rw [if_neg hc] at hu; exact hu) p e Rm s m args below meth c A cells slots Q C H locs ls hW hl kr)
theorem r_icmp_ge {x y : Int32} {off : Int} (tgt : Nat) (hd : decode mi.2.1 pc = .ok (.if_icmp .ge off, 3)) (ht : (pc : Int) + off = (tgt : Int)) (h1 : y ≤ x → RR en Ex mi ev tgt lv rest σ o1) (h2 : ¬ y ≤ x → RR en Ex mi ev (pc + 3) lv rest σ o2) : RR en Ex mi ev pc lv (.int y :: .int x :: rest) σ (if y ≤ x then o1 else o2) := by
  intro u hu p e Rm s m args below meth c A cells slots Q C H locs ls hW hl kr
  exact lv_icmp_ge C.1 C.2.1 hd ht (fun hc => h1 hc u (by rw [if_pos hc] at hu; exact hu) p e Rm s m args below meth c A cells slots Q C H locs ls hW hl kr) (fun hc => h2 hc u (by rw [if_neg hc] at hu; exact hu) p e Rm s m args below meth c A cells slots Q C H locs ls hW hl kr)
theorem r_icmp_gt {x y : Int32} {off : Int} (tgt : Nat) (hd : decode mi.2.1 pc = .ok (.if_icmp .gt off, 3)) (ht : (pc : Int) + off = (tgt : Int)) (h1 : y < x → RR en Ex mi ev tgt lv rest σ o1) (h2 : ¬ y < x → RR en Ex mi ev (pc + 3) lv rest σ o2) : RR en Ex mi ev pc lv (.int y :: .int x :: rest) σ (if y < x then o1 else o2) := by
  intro u hu p e Rm s m args below meth c A cells slots Q C H locs ls hW hl kr
  exact lv_icmp_gt C.1 C.2.1 hd ht (fun hc => h1 hc u (by rw [if_pos hc] at hu; exact hu) p e Rm s m args below meth c A cells slots Q C H locs ls hW hl kr) (fun hc => h2 hc u (by rw [if_neg hc] at hu; exact hu) p e Rm s m args below meth c A cells slots Q C H locs ls hW hl kr)
theorem r_icmp_le {x y : Int32} {off : Int} (tgt : Nat) (hd : decode mi.2.1 pc = .ok (.if_icmp .le off, 3)) (ht : (pc : Int) + off = (tgt : Int)) (h1 : x ≤ y → RR en Ex mi ev tgt lv rest σ o1) (h2 : ¬ x ≤ y → RR en Ex mi ev (pc + 3) lv rest σ o2) : RR en Ex mi ev pc lv (.int y :: .int x :: rest) σ (if x ≤ y then o1 else o2) := by
  intro u hu p e Rm s m args below meth c A cells slots Q C H locs ls hW hl kr
  exact lv_icmp_le C.1 C.2.1 hd ht (fun hc => h1 hc u (by rw [if_pos hc] at hu; exact hu) p e Rm s m args below meth c A cells slots Q C H locs ls hW hl kr) (fun hc => h2 hc u (by rw [if_neg hc] at hu; exact hu) p e Rm s m args below meth c A cells slots Q C H locs ls hW hl kr)
theorem r_if_eq {x : Int32} {off : Int} (tgt : Nat) (hd : decode mi.2.1 pc = .ok (.ifCond .eq off, 3)) (ht : (pc : Int) + off = (tgt : Int)) (h1 : x = 0 → RR en Ex mi ev tgt lv rest σ o1) (h2 : ¬ x = 0 → RR en Ex mi ev (pc + 3) lv rest σ o2) : RR en Ex mi ev pc lv (.int x :: rest) σ (if x = 0 then o1 else o2) := by
  intro u hu p e Rm s m args below meth c A cells slots Q C H locs ls hW hl kr
  exact lv_if_eq C.1 C.2.1 hd ht (fun hc => h1 hc u (by rw [if_pos hc] at hu; exact hu) p e Rm s m args below meth c A cells slots Q C H locs ls hW hl kr) (fun hc => h2 hc u (by rw [if_neg hc] at hu; exact hu) p e Rm s m args below meth c A cells slots Q C H locs ls hW hl kr)
theorem r_if_ne {x : Int32} {off : Int} (tgt : Nat) (hd : decode mi.2.1 pc = .ok (.ifCond .ne off, 3)) (ht : (pc : Int) + off = (tgt : Int)) (h1 : x = 0 → RR en Ex mi ev (pc + 3) lv rest σ o1) (h2 : ¬ x = 0 → RR en Ex mi ev tgt lv rest σ o2) : RR en Ex mi ev pc lv (.int x :: rest) σ (if x = 0 then o1 else o2) := by
  intro u hu p e Rm s m args below meth c A cells slots Q C H locs ls hW hl kr
  exact lv_if_ne C.1 C.2.1 hd ht (fun hc => h2 hc u (by rw [if_neg hc] at hu; exact hu) p e Rm s m args below meth c A cells slots Q C H locs ls hW hl kr) (fun hc => h1 hc u (by rw [if_pos hc] at hu; exact hu) p e Rm s m args below meth c A cells slots Q C H locs ls hW hl kr)
theorem r_if_lt {x : Int32} {off : Int} (tgt : Nat) (hd : decode mi.2.1 pc = .ok (.ifCond .lt off, 3)) (ht : (pc : Int) + off = (tgt : Int)) (h1 : x < 0 → RR en Ex mi ev tgt lv rest σ o1) (h2 : ¬ x < 0 → RR en Ex mi ev (pc + 3) lv rest σ o2) : RR en Ex mi ev pc lv (.int x :: rest) σ (if x < 0 then o1 else o2) := by
  intro u hu p e Rm s m args below meth c A cells slots Q C H locs ls hW hl kr
  exact lv_if_lt C.1 C.2.1 hd ht (fun hc => h1 hc u (by rw [if_pos hc] at hu; exact hu) p e Rm s m args below meth c A cells slots Q C H locs ls hW hl kr) (fun hc => h2 hc u (by rw [if_neg hc] at hu; exact hu) p e Rm s m args below meth c A cells slots Q C H locs ls hW hl kr)
theorem r_if_ge {x : Int32} {off : Int} (tgt : Nat) (hd : decode mi.2.1 pc = .ok (.ifCond .ge off, 3)) (ht : (pc : Int) + off = (tgt : Int)) (h1 : 0 ≤ x → RR en Ex mi ev tgt lv rest σ o1) (h2 : ¬ 0 ≤ x → RR en Ex mi ev (pc + 3) lv rest σ o2) : RR en Ex mi ev pc lv (.int x :: rest) σ (if 0 ≤ x then o1 else o2) := by
  intro u hu p e Rm s m args below meth c A cells slots Q C H locs ls hW hl kr
  exact lv_if_ge C.1 C.2.1 hd ht (fun hc => h1 hc u (by rw [if_pos hc] at hu; exact hu) p e Rm s m args below meth c A cells slots Q C H locs ls hW hl kr) (fun hc => h2 hc u (by rw [if_neg hc] at hu; exact hu) p e Rm s m args below meth c A cells slots Q C H locs ls hW hl kr)
theorem r_if_gt {x : Int32} {off : Int} (tgt : Nat) (hd : decode mi.2.1 pc = .ok (.ifCond .gt off, 3)) (ht : (pc : Int) + off = (tgt : Int)) (h1 : 0 < x → RR en Ex mi ev tgt lv rest σ o1) (h2 : ¬ 0 < x → RR en Ex mi ev (pc + 3) lv rest σ o2) : RR en Ex mi ev pc lv (.int x :: rest) σ (if 0 < x then o1 else o2) := by
  intro u hu p e Rm s m args below meth c A cells slots Q C H locs ls hW hl kr
  exact lv_if_gt C.1 C.2.1 hd ht (fun hc => h1 hc u (by rw [if_pos hc] at hu; exact hu) p e Rm s m args below meth c A cells slots Q C H locs ls hW hl kr) (fun hc => h2 hc u (by rw [if_neg hc] at hu; exact hu) p e Rm s m args below meth c A cells slots Q C H locs ls hW hl kr)
theorem r_if_le {x : Int32} {off : Int} (tgt : Nat) (hd : decode mi.2.1 pc = .ok (.ifCond .le off, 3)) (ht : (pc : Int) + off = (tgt : Int)) (h1 : x ≤ 0 → RR en Ex mi ev tgt lv rest σ o1) (h2 : ¬ x ≤ 0 → RR en Ex mi ev (pc + 3) lv rest σ o2) : RR en Ex mi ev pc lv (.int x :: rest) σ (if x ≤ 0 then o1 else o2) := by
  intro u hu p e Rm s m args below meth c A cells slots Q C H locs ls hW hl kr
  exact lv_if_le C.1 C.2.1 hd ht (fun hc => h1 hc u (by rw [if_pos hc] at hu; exact hu) p e Rm s m args below meth c A cells slots Q C H locs ls hW hl kr) (fun hc => h2 hc u (by rw [if_neg hc] at hu; exact hu) p e Rm s m args below meth c A cells slots Q C H locs ls hW hl kr)
theorem r_icmp_eq_t {x y : Int32} {off : Int} (tgt : Nat) (hd : decode mi.2.1 pc = .ok (.if_icmp .eq off, 3)) (ht : (pc : Int) + off = (tgt : Int)) (hc : x = y) (h : RR en Ex mi ev tgt lv rest σ o) : RR en Ex mi ev pc lv (.int y :: .int x :: rest) σ o := by
  intro u hu p e Rm s m args below meth c A cells slots Q C H locs ls hW hl kr
  exact lv_icmp_eq C.1 C.2.1 hd ht (fun _ => h u hu p e Rm s m args below meth c A cells slots Q C H locs ls hW hl kr) (fun h9 => absurd hc h9)
theorem r_icmp_eq_f {x y : Int32} {off : Int} (tgt : Nat) (hd : decode mi.2.1 pc = .ok (.if_icmp .eq off, 3)) (ht : (pc : Int) + off = (tgt : Int)) (hc : ¬ x = y) (h : RR en Ex mi ev (pc + 3) lv rest σ o) : RR en Ex mi ev pc lv (.int y :: .int x :: rest) σ o := by
  intro u hu p e Rm s m args below meth c A cells slots Q C H locs ls hW hl kr
  exact lv_icmp_eq C.1 C.2.1 hd ht (fun h9 => absurd h9 hc) (fun _ => h u hu p e Rm s m args below meth c A cells slots Q C H locs ls hW hl kr)
theorem r_icmp_ne_t {x y : Int32} {off : Int} (tgt : Nat) (hd : decode mi.2.1 pc = .ok (.if_icmp .ne off, 3)) (ht : (pc : Int) + off = (tgt : Int)) (hc : x = y) (h : RR en Ex mi ev (pc + 3) lv rest σ o) : RR en Ex mi ev pc lv (.int y :: .int x :: rest) σ o := by
  intro u hu p e Rm s m args below meth c A cells slots Q C H locs ls hW hl kr
  exact lv_icmp_ne C.1 C.2.1 hd ht (fun h9 => absurd hc h9) (fun _ => h u hu p e Rm s m args below meth c A cells slots Q C H locs ls hW hl kr)
theorem r_icmp_ne_f {x y : Int32} {off : Int} (tgt : Nat) (hd : decode mi.2.1 pc = .ok (.if_icmp .ne off, 3)) (ht : (pc : Int) + off = (tgt : Int)) (hc : ¬ x = y) (h : RR en Ex mi ev tgt lv rest σ o) : RR en Ex mi ev pc lv (.int y :: .int x :: rest) σ o := by
  intro u hu p e Rm s m args below meth c A cells slots Q C H locs ls hW hl kr
  exact lv_icmp_ne C.1 C.2.1 hd ht (fun _ => h u hu p e Rm s m args below meth c A cells slots Q C H locs ls hW hl kr) (fun h9 => absurd h9 hc)
theorem r_icmp_lt_t {x y : Int32} {off : Int} (tgt : Nat) (hd : decode mi.2.1 pc = .ok (.if_icmp .lt off, 3)) (ht : (pc : Int) + off = (tgt : Int)) (hc : x < y) (h : RR en Ex mi ev tgt lv rest σ o) : RR en Ex mi ev pc lv (.int y :: .int x :: rest) σ o := by
  intro u hu p e Rm s m args below meth c A cells slots Q C H locs ls hW hl kr
  exact lv_icmp_lt C.1 C.2.1 hd ht (fun _ => h u hu p e Rm s m args below meth c A cells slots Q C H locs ls hW hl kr) (fun h9 => absurd hc h9)
theorem r_icmp_lt_f {x y : Int32} {off : Int} (tgt : Nat) (hd : decode mi.2.1 pc = .ok (.if_icmp .lt off, 3)) (ht : (pc : Int) + off = (tgt : Int)) (hc : ¬ x < y) (h : RR en Ex mi ev (pc + 3) lv rest σ o) : RR en Ex mi ev pc lv (.int y :: .int x :: rest) σ o := by
  intro u hu p e Rm s m args below meth c A cells slots Q C H locs ls hW hl kr
  exact lv_icmp_lt C.1 C.2.1 hd ht (fun h9 => absurd h9 hc) (fun _ => h u hu p e Rm s m args below meth c A cells slots Q C H locs ls hW hl kr)
theorem r_icmp_ge_t {x y : Int32} {off : Int} (tgt : Nat) (hd : decode mi.2.1 pc = .ok (.if_icmp .ge off, 3)) (ht : (pc : Int) + off = (tgt : Int)) (hc : y ≤ x) (h : RR en Ex mi ev tgt lv rest σ o) : RR en Ex mi ev pc lv (.int y :: .int x :: rest) σ o := by
  intro u hu p e Rm s m args below meth c A cells slots Q C H locs ls hW hl kr
  exact lv_icmp_ge C.1 C.2.1 hd ht (fun _ => h u hu p e Rm s m args below meth c A cells slots Q C H locs ls hW hl kr) (fun h9 => absurd hc h9)
theorem r_icmp_ge_f {x y : Int32} {off : Int} (tgt : Nat) (hd : decode mi.2.1 pc = .ok (.if_icmp .ge off, 3)) (ht : (pc : Int) + off = (tgt : Int)) (hc : ¬ y ≤ x) (h : RR en Ex mi ev (pc + 3) lv rest σ o) : RR en Ex mi ev pc lv (.int y :: .int x :: rest) σ o := by
  intro u hu p e Rm s m args below meth c A cells slots Q C H locs ls hW hl kr
  exact lv_icmp_ge C.1 C.2.1 hd ht (fun h9 => absurd h9 hc) (fun _ => h u hu p e Rm s m args below meth c A cells slots Q C H locs ls hW hl kr)
theorem r_icmp_gt_t {x y : Int32} {off : Int} (tgt : Nat) (hd : decode mi.2.1 pc = .ok (.if_icmp .gt off, 3)) (ht : (pc : Int) + off = (tgt : Int)) (hc : y < x) (h : RR en Ex mi ev tgt lv rest σ o) : RR en Ex mi ev pc lv (.int y :: .int x :: rest) σ o := by
  intro u hu p e Rm s m args below meth c A cells slots Q C H locs ls hW hl kr
  exact lv_icmp_gt C.1 C.2.1 hd ht (fun _ => h u hu p e Rm s m args below meth c A cells slots Q C H locs ls hW hl kr) (fun h9 => absurd hc h9)
theorem r_icmp_gt_f {x y : Int32} {off : Int} (tgt : Nat) (hd : decode mi.2.1 pc = .ok (.if_icmp .gt off, 3)) (ht : (pc : Int) + off = (tgt : Int)) (hc : ¬ y < x) (h : RR en Ex mi ev (pc + 3) lv rest σ o) : RR en Ex mi ev pc lv (.int y :: .int x :: rest) σ o := by
  intro u hu p e Rm s m args below meth c A cells slots Q C H locs ls hW hl kr
  exact lv_icmp_gt C.1 C.2.1 hd ht (fun h9 => absurd h9 hc) (fun _ => h u hu p e Rm s m args below meth c A cells slots Q C H locs ls hW hl kr)
theorem r_icmp_le_t {x y : Int32} {off : Int} (tgt : Nat) (hd : decode mi.2.1 pc = .ok (.if_icmp .le off, 3)) (ht : (pc : Int) + off = (tgt : Int)) (hc : x ≤ y) (h : RR en Ex mi ev tgt lv rest σ o) : RR en Ex mi ev pc lv (.int y :: .int x :: rest) σ o := by
  intro u hu p e Rm s m args below meth c A cells slots Q C H locs ls hW hl kr
  exact lv_icmp_le C.1 C.2.1 hd ht (fun _ => h u hu p e Rm s m args below meth c A cells slots Q C H locs ls hW hl kr) (fun h9 => absurd hc h9)
theorem r_icmp_le_f {x y : Int32} {off : Int} (tgt : Nat) (hd : decode mi.2.1 pc = .ok (.if_icmp .le off, 3)) (ht : (pc : Int) + off = (tgt : Int)) (hc : ¬ x ≤ y) (h : RR en Ex mi ev (pc + 3) lv rest σ o) : RR en Ex mi ev pc lv (.int y :: .int x :: rest) σ o := by
  intro u hu p e Rm s m args below meth c A cells slots Q C H locs ls hW hl kr
  exact lv_icmp_le C.1 C.2.1 hd ht (fun h9 => absurd h9 hc) (fun _ => h u hu p e Rm s m args below meth c A cells slots Q C H locs ls hW hl kr)
theorem r_if_eq_t {x : Int32} {off : Int} (tgt : Nat) (hd : decode mi.2.1 pc = .ok (.ifCond .eq off, 3)) (ht : (pc : Int) + off = (tgt : Int)) (hc : x = 0) (h : RR en Ex mi ev tgt lv rest σ o) : RR en Ex mi ev pc lv (.int x :: rest) σ o := by
  intro u hu p e Rm s m args below meth c A cells slots Q C H locs ls hW hl kr
  exact lv_if_eq C.1 C.2.1 hd ht (fun _ => h u hu p e Rm s m args below meth c A cells slots Q C H locs ls hW hl kr) (fun h9 => absurd hc h9)
theorem r_if_eq_f {x : Int32} {off : Int} (tgt : Nat) (hd : decode mi.2.1 pc = .ok (.ifCond .eq off, 3)) (ht : (pc : Int) + off = (tgt : Int)) (hc : ¬ x = 0) (h : RR en Ex mi ev (pc + 3) lv rest σ o) : RR en Ex mi ev pc lv (.int x :: rest) σ o := by
  intro u hu p e Rm s m args below meth c A cells slots Q C H locs ls hW hl kr
  exact lv_if_eq C.1 C.2.1 hd ht (fun h9 => absurd h9 hc) (fun _ => h u hu p e Rm s m args below meth c A cells slots Q C H locs ls hW hl kr)
theorem r_if_ne_t {x : Int32} {off : Int} (tgt : Nat) (hd : decode mi.2.1 pc = .ok (.ifCond .ne off, 3)) (ht : (pc : Int) + off = (tgt : Int)) (hc : x = 0) (h : RR en Ex mi ev (pc + 3) lv rest σ o) : RR en Ex mi ev pc lv (.int x :: rest) σ o := by
  intro u hu p e Rm s m args below meth c A cells slots Q C H locs ls hW hl kr
  exact lv_if_ne C.1 C.2.1 hd ht (fun h9 => absurd hc h9) (fun _ => h u hu p e Rm s m args below meth c A cells slots Q C H locs ls hW hl kr)
theorem r_if_ne_f {x : Int32} {off : Int} (tgt : Nat) (hd : decode mi.2.1 pc = .ok (.ifCond .ne off, 3)) (ht : (pc : Int) + off = (tgt : Int)) (hc : ¬ x = 0) (h : RR en Ex mi ev tgt lv rest σ o) : RR en Ex mi ev pc lv (.int x :: rest) σ o := by
  intro u hu p e Rm s m args below meth c A cells slots Q C H locs ls hW hl kr
  exact lv_if_ne C.1 C.2.1 hd ht (fun _ => h u hu p e Rm s m args below meth c A cells slots Q C H locs ls hW hl kr) (fun h9 => absurd h9 hc)
theorem r_if_lt_t {x : Int32} {off : Int} (tgt : Nat) (hd : decode mi.2.1 pc = .ok (.ifCond .lt off, 3)) (ht : (pc : Int) + off = (tgt : Int)) (hc : x < 0) (h : RR en Ex mi ev tgt lv rest σ o) : RR en Ex mi ev pc lv (.int x :: rest) σ o := by
  intro u hu p e Rm s m args below meth c A cells slots Q C H locs ls hW hl kr
  exact lv_if_lt C.1 C.2.1 hd ht (fun _ => h u hu p e Rm s m args below meth c A cells slots Q C H locs ls hW hl kr) (fun h9 => absurd hc h9)
theorem r_if_lt_f {x : Int32} {off : Int} (tgt : Nat) (hd : decode mi.2.1 pc = .ok (.ifCond .lt off, 3)) (ht : (pc : Int) + off = (tgt : Int)) (hc : ¬ x < 0) (h : RR en Ex mi ev (pc + 3) lv rest σ o) : RR en Ex mi ev pc lv (.int x :: rest) σ o := by
  intro u hu p e Rm s m args below meth c A cells slots Q C H locs ls hW hl kr
  exact lv_if_lt C.1 C.2.1 hd ht (fun h9 => absurd h9 hc) (fun _ => h u hu p e Rm s m args below meth c A cells slots Q C H locs ls hW hl kr)
theorem r_if_ge_t {x : Int32} {off : Int} (tgt : Nat) (hd : decode mi.2.1 pc = .ok (.ifCond .ge off, 3)) (ht : (pc : Int) + off = (tgt : Int)) (hc : 0 ≤ x) (h : RR en Ex mi ev tgt lv rest σ o) : RR en Ex mi ev pc lv (.int x :: rest) σ o := by
  intro u hu p e Rm s m args below meth c A cells slots Q C H locs ls hW hl kr
  exact lv_if_ge C.1 C.2.1 hd ht (fun _ => h u hu p e Rm s m args below meth c A cells slots Q C H locs ls hW hl kr) (fun h9 => absurd hc h9)
theorem r_if_ge_f {x : Int32} {off : Int} (tgt : Nat) (hd : decode mi.2.1 pc = .ok (.ifCond .ge off, 3)) (ht : (pc : Int) + off = (tgt : Int)) (hc : ¬ 0 ≤ x) (h : RR en Ex mi ev (pc + 3) lv rest σ o) : RR en Ex mi ev pc lv (.int x :: rest) σ o := by
  intro u hu p e Rm s m args below meth c A cells slots Q C H locs ls hW hl kr
  exact lv_if_ge C.1 C.2.1 hd ht (fun h9 => absurd h9 hc) (fun _ => h u hu p e Rm s m args below meth c A cells slots Q C H locs ls hW hl kr)
theorem r_if_gt_t {x : Int32} {off : Int} (tgt : Nat) (hd : decode mi.2.1 pc = .ok (.ifCond .gt off, 3)) (ht : (pc : Int) + off = (tgt : Int)) (hc : 0 < x) (h : RR en Ex mi ev tgt lv rest σ o) : RR en Ex mi ev pc lv (.int x :: rest) σ o := by
  intro u hu p e Rm s m args below meth c A cells slots Q C H locs ls hW hl kr
  exact lv_if_gt C.1 C.2.1 hd ht (fun _ => h u hu p e Rm s m args below meth c A cells slots Q C H locs ls hW hl kr) (fun h9 => absurd hc h9)
theorem r_if_gt_f {x : Int32} {off : Int} (tgt : Nat) (hd : decode mi.2.1 pc = .ok (.ifCond .gt off, 3)) (ht : (pc : Int) + off = (tgt : Int)) (hc : ¬ 0 < x) (h : RR en Ex mi ev (pc + 3) lv rest σ o) : RR en Ex mi ev pc lv (.int x :: rest) σ o := by
  intro u hu p e Rm s m args below meth c A cells slots Q C H locs ls hW hl kr
  exact lv_if_gt C.1 C.2.1 hd ht (fun h9 => absurd h9 hc) (fun _ => h u hu p e Rm s m args below meth c A cells slots Q C H locs ls hW hl kr)
theorem r_if_le_t {x : Int32} {off : Int} (tgt : Nat) (hd : decode mi.2.1 pc = .ok (.ifCond .le off, 3)) (ht : (pc : Int) + off = (tgt : Int)) (hc : x ≤ 0) (h : RR en Ex mi ev tgt lv rest σ o) : RR en Ex mi ev pc lv (.int x :: rest) σ o := by
  intro u hu p e Rm s m args below meth c A cells slots Q C H locs ls hW hl kr
  exact lv_if_le C.1 C.2.1 hd ht (fun _ => h u hu p e Rm s m args below meth c A cells slots Q C H locs ls hW hl kr) (fun h9 => absurd hc h9)
theorem r_if_le_f {x : Int32} {off : Int} (tgt : Nat) (hd : decode mi.2.1 pc = .ok (.ifCond .le off, 3)) (ht : (pc : Int) + off = (tgt : Int)) (hc : ¬ x ≤ 0) (h : RR en Ex mi ev (pc + 3) lv rest σ o) : RR en Ex mi ev pc lv (.int x :: rest) σ o := by
  intro u hu p e Rm s m args below meth c A cells slots Q C H locs ls hW hl kr
  exact lv_if_le C.1 C.2.1 hd ht (fun h9 => absurd h9 hc) (fun _ => h u hu p e Rm s m args below meth c A cells slots Q C H locs ls hW hl kr)
theorem r_ite {c : Prop} [Decidable c] {st : List Value} (h1 : c → RR en Ex mi ev pc lv st σ o1) (h2 : ¬ c → RR en Ex mi ev pc lv st σ o2) : RR en Ex mi ev pc lv st σ (if c then o1 else o2) := by
  by_cases hc : c
  · rw [if_pos hc]; exact h1 hc
  · rw [if_neg hc]; exact h2 hc
theorem sw_out {x : Int32} (lo : Int) (n : Nat) (h : ∀ v : Nat, v < n → ¬ x.toInt = lo + (v : Int)) : x.toInt < lo ∨ lo + (n : Int) - 1 < x.toInt := by
  by_cases h1 : x.toInt < lo
  · exact Or.inl h1
  · by_cases h2 : lo + (n : Int) - 1 < x.toInt
    · exact Or.inr h2
    · exact absurd (by omega) (h (x.toInt - lo).toNat (by omega))
theorem r_goto {off : Int} (tgt : Nat) (hd : decode mi.2.1 pc = .ok (.goto off, 3)) (ht : (pc : Int) + off = (tgt : Int)) (h : RR en Ex mi ev tgt lv rest σ o) : RR en Ex mi ev pc lv rest σ o :=
  fun u hu p e Rm s m args below meth c A cells slots Q C H locs ls hW hl kr => lv_goto C.1 C.2.1 hd ht (h u hu p e Rm s m args below meth c A cells slots Q C H locs ls hW hl kr)
/-- a value on top gets a name -/
theorem r_topi {x : Int32} (h : ∀ y : Int32, y = x → RR en Ex mi ev pc lv (.int y :: rest) σ o) : RR en Ex mi ev pc lv (.int x :: rest) σ o := h x rfl
theorem r_none {st : List Value} : RR en Ex mi ev pc lv st σ none := fun u hu => by cases hu
theorem r_gd {b : Bool} {st : List Value} (h : b = true → RR en Ex mi ev pc lv st σ o) : RR en Ex mi ev pc lv st σ (gd b o) := fun u hu => h (gd_some hu).1 u (gd_some hu).2
theorem r_tableIn {dflt lo hi : Int} {offs : Array Int} {len : Nat} {x : Int32} {off : Int} (tgt : Nat) (hd : decode mi.2.1 pc = .ok (.tableswitch dflt lo hi offs, len)) (h1 : ¬ x.toInt < lo) (h2 : ¬ hi < x.toInt) (ho : offs[(x.toInt - lo).toNat]? = some off) (ht : (pc : Int) + off = (tgt : Int)) (h : RR en Ex mi ev tgt lv rest σ o) : RR en Ex mi ev pc lv (.int x :: rest) σ o :=
  fun u hu p e Rm s m args below meth c A cells slots Q C H locs ls hW hl kr => lv_tableIn C.1 C.2.1 hd h1 h2 ho ht (h u hu p e Rm s m args below meth c A cells slots Q C H locs ls hW hl kr)
theorem r_tableOut {dflt lo hi : Int} {offs : Array Int} {len : Nat} {x : Int32} (tgt : Nat) (hd : decode mi.2.1 pc = .ok (.tableswitch dflt lo hi offs, len)) (h0 : x.toInt < lo ∨ hi < x.toInt) (ht : (pc : Int) + dflt = (tgt : Int)) (h : RR en Ex mi ev tgt lv rest σ o) : RR en Ex mi ev pc lv (.int x :: rest) σ o :=
  fun u hu p e Rm s m args below meth c A cells slots Q C H locs ls hW hl kr => lv_tableOut C.1 C.2.1 hd h0 ht (h u hu p e Rm s m args below meth c A cells slots Q C H locs ls hW hl kr)
/-- fewer locals -/
theorem r_sub (ks : List Nat) {st : List Value} {lv' : List (Nat × Value)} (hl' : lv_pick lv ks = lv') (h : RR en Ex mi ev pc lv' st σ o) : RR en Ex mi ev pc lv st σ o :=
  fun u hu p e Rm s m args below meth c A cells slots Q C H locs ls hW hl kr => h u hu p e Rm s m args below meth c A cells slots Q C H locs ls hW (lv_sub hl ks hl') kr
/-! fields -/
theorem r_get {t i j ci N index : Nat} {C0 : String} {T : u_T} {fs : List Value} (k : Nat) {v : Value} (ho : (t, i, j) ∈ obs) (he : cellF en t i j (σ.1 t i j) (σ.2 t i j) = .inr (ci, fs)) (hc : vwCl[ci]? = some (C0, T, N)) (hin : ∀ w ∈ u_ws C0 T N, w ∈ lwG) (hk : k < N) (hw : Cond.fieldLink mi.1 index (T k).1 (T k).2.1 (T k).2.2.1 ∈ lwG) (hv : fs[k]? = some v) (hd : decode mi.2.1 pc = .ok (.getfield index, 3)) (h : RR en Ex mi ev (pc + 3) lv (v :: rest) σ o) : RR en Ex mi ev pc lv (.ref (ad en t i j) :: rest) σ o := by
  intro u hu p e Rm s m args below meth c A cells slots Q C H locs ls hW hl kr
  obtain ⟨q, -, hq⟩ := wd_at (en := en) ho
  have hq1 := hq σ
  rw [he] at hq1
  exact va_get C.1 C.2.1 C.2.2.2.2.2.1 hin C.2.2.2.2.1 C.2.2.2.2.2.2.2.2.1 hW.1 q hq1 hc k hk (C.2.2.2.2.2.1 _ hw) (fun _ h9 => h9) hv hd (h u hu p e Rm s m args below meth c A cells slots Q C H locs ls hW hl kr)
theorem r_putI {t i j ci N index : Nat} {C0 : String} {T : u_T} {ty0 : Nat → FieldType} {fs : List Value} (k : Nat) {x : Int32} {ty : FieldType} (ho : (t, i, j) ∈ obs) (he : cellF en t i j (σ.1 t i j) (σ.2 t i j) = .inr (ci, fs)) (hc : vwCl[ci]? = some (C0, T, N)) (hin : ∀ w ∈ u_ws C0 T N, w ∈ lwG) (hty : ∀ k, k < N → parseFieldDescriptor (T k).2.2.1 = some (ty0 k)) (hnm : ∀ a, a < N → ∀ b, b < N → a ≠ b → (T a).2.1 ≠ (T b).2.1) (hk : k < N) (hw : Cond.fieldLink mi.1 index (T k).1 (T k).2.1 (T k).2.2.1 ∈ lwG) (hfin : (T k).2.2.2 = false) (hdsc : parseFieldDescriptor (T k).2.2.1 = some ty) (hn : narrow ty (.int x) = .int x) (hfit : fits ty (.int x) = true) (hlen : k < fs.length) (he2 : (Sum.inr (ci, fs.set k (.int x)) : va_E) = cellF en t i j (fun d => if d = k then x else σ.1 t i j d) (σ.2 t i j)) (hd : decode mi.2.1 pc = .ok (.putfield index, 3)) (h : RR en Ex mi ev (pc + 3) lv rest (uI σ t i j k x) o) : RR en Ex mi ev pc lv (.int x :: .ref (ad en t i j) :: rest) σ o := by
  intro u hu p e Rm s m args below meth c A cells slots Q C H locs ls hW hl kr
  obtain ⟨q, hoq, hq⟩ := wd_at (en := en) ho
  have hq1 := hq σ
  rw [he] at hq1
  refine va_put C.1 C.2.1 C.2.2.2.2.2.1 hin ty0 hty hnm C.2.2.2.2.1 C.2.2.2.2.2.2.2.2.1 hW.1 hW.2.1 hW.2.2 q hq1 hc k hk (C.2.2.2.2.2.1 _ hw) (fun _ h9 => h9) hfin hdsc hn hfit hlen hd (fun H1 locs1 hP hD hS => ?_)
  have hset : (world en σ).set q (ad en t i j, .inr (ci, fs.set k (.int x))) = world en (uI σ t i j k x) := wd_set hoq (by rw [uI_on]; exact he2) uI_off
  rw [hset] at hP hD
  exact h u hu p e Rm s m args below meth c A cells slots Q C H1 locs1 ls ⟨hP, hD, hS⟩ hl kr
theorem r_putL {t i j ci N index : Nat} {C0 : String} {T : u_T} {ty0 : Nat → FieldType} {fs : List Value} (k : Nat) {x : Int64} (ho : (t, i, j) ∈ obs) (he : cellF en t i j (σ.1 t i j) (σ.2 t i j) = .inr (ci, fs)) (hc : vwCl[ci]? = some (C0, T, N)) (hin : ∀ w ∈ u_ws C0 T N, w ∈ lwG) (hty : ∀ k, k < N → parseFieldDescriptor (T k).2.2.1 = some (ty0 k)) (hnm : ∀ a, a < N → ∀ b, b < N → a ≠ b → (T a).2.1 ≠ (T b).2.1) (hk : k < N) (hw : Cond.fieldLink mi.1 index (T k).1 (T k).2.1 (T k).2.2.1 ∈ lwG) (hfin : (T k).2.2.2 = false) (hdsc : parseFieldDescriptor (T k).2.2.1 = some .long) (hlen : k < fs.length) (he2 : (Sum.inr (ci, fs.set k (.long x)) : va_E) = cellF en t i j (σ.1 t i j) (fun d => if d = k then x else σ.2 t i j d)) (hd : decode mi.2.1 pc = .ok (.putfield index, 3)) (h : RR en Ex mi ev (pc + 3) lv rest (uL σ t i j k x) o) : RR en Ex mi ev pc lv (.long x :: .ref (ad en t i j) :: rest) σ o := by
  intro u hu p e Rm s m args below meth c A cells slots Q C H locs ls hW hl kr
  obtain ⟨q, hoq, hq⟩ := wd_at (en := en) ho
  have hq1 := hq σ
  rw [he] at hq1
  refine va_put C.1 C.2.1 C.2.2.2.2.2.1 hin ty0 hty hnm C.2.2.2.2.1 C.2.2.2.2.2.2.2.2.1 hW.1 hW.2.1 hW.2.2 q hq1 hc k hk (C.2.2.2.2.2.1 _ hw) (fun _ h9 => h9) hfin hdsc rfl rfl hlen hd (fun H1 locs1 hP hD hS => ?_)
  have hset : (world en σ).set q (ad en t i j, .inr (ci, fs.set k (.long x))) = world en (uL σ t i j k x) := wd_set hoq (by rw [uL_on]; exact he2) uL_off
  rw [hset] at hP hD
  exact h u hu p e Rm s m args below meth c A cells slots Q C H1 locs1 ls ⟨hP, hD, hS⟩ hl kr
/-! arrays -/
theorem r_iald {t i j n : Nat} {x : Int32} (ho : (t, i, j) ∈ obs) (he : cellF en t i j (σ.1 t i j) (σ.2 t i j) = .inl (cy en 0, n, .inl (σ.1 t i j))) (hd : decode mi.2.1 pc = .ok (.iaload, 1)) (h : ib x n = true → RR en Ex mi ev (pc + 1) lv (.int (rI σ t i j x.toNatClampNeg) :: rest) σ o) : RR en Ex mi ev pc lv (.int x :: .ref (ad en t i j) :: rest) σ (gd (ib x n) o) := by
  refine r_gd (fun hb => ?_)
  intro u hu p e Rm s m args below meth c A cells slots Q C H locs ls hW hl kr
  obtain ⟨q, -, hq⟩ := wd_at (en := en) ho
  have hq1 := hq σ
  rw [he] at hq1
  exact va_iald C.1 C.2.1 C.2.2.2.2.2.2.2.2.1 hW.1 q 0 hq1 rfl (ib_in hb) hd (h hb u hu p e Rm s m args below meth c A cells slots Q C H locs ls hW hl kr)
theorem r_bald {t i j n : Nat} {x : Int32} (ho : (t, i, j) ∈ obs) (he : cellF en t i j (σ.1 t i j) (σ.2 t i j) = .inl (cy en 1, n, .inl (σ.1 t i j))) (hd : decode mi.2.1 pc = .ok (.baload, 1)) (h : ib x n = true → RR en Ex mi ev (pc + 1) lv (.int (rI σ t i j x.toNatClampNeg) :: rest) σ o) : RR en Ex mi ev pc lv (.int x :: .ref (ad en t i j) :: rest) σ (gd (ib x n) o) := by
  refine r_gd (fun hb => ?_)
  intro u hu p e Rm s m args below meth c A cells slots Q C H locs ls hW hl kr
  obtain ⟨q, -, hq⟩ := wd_at (en := en) ho
  have hq1 := hq σ
  rw [he] at hq1
  exact va_bald C.1 C.2.1 C.2.2.2.2.2.2.2.2.1 hW.1 q 1 hq1 rfl (ib_in hb) hd (h hb u hu p e Rm s m args below meth c A cells slots Q C H locs ls hW hl kr)
theorem r_lald {t i j n : Nat} {x : Int32} (ho : (t, i, j) ∈ obs) (he : cellF en t i j (σ.1 t i j) (σ.2 t i j) = .inl (cy en 2, n, .inr (.inl (σ.2 t i j)))) (hd : decode mi.2.1 pc = .ok (.laload, 1)) (h : ib x n = true → RR en Ex mi ev (pc + 1) lv (.long (rL σ t i j x.toNatClampNeg) :: rest) σ o) : RR en Ex mi ev pc lv (.int x :: .ref (ad en t i j) :: rest) σ (gd (ib x n) o) := by
  refine r_gd (fun hb => ?_)
  intro u hu p e Rm s m args below meth c A cells slots Q C H locs ls hW hl kr
  obtain ⟨q, -, hq⟩ := wd_at (en := en) ho
  have hq1 := hq σ
  rw [he] at hq1
  exact va_lald C.1 C.2.1 C.2.2.2.2.2.2.2.2.1 hW.1 q 2 hq1 rfl (ib_in hb) hd (h hb u hu p e Rm s m args below meth c A cells slots Q C H locs ls hW hl kr)
theorem r_aald {t i j n k : Nat} {ty : FieldType} {x : Int32} {f : Nat → Nat} (ho : (t, i, j) ∈ obs) (he : cellF en t i j (σ.1 t i j) (σ.2 t i j) = .inl (cy en k, mref n f)) (hk : (tysE en)[k]? = some (cy en k, ty)) (hty : ty.isReference = true) (hd : decode mi.2.1 pc = .ok (.aaload, 1)) (h : ib x n = true → RR en Ex mi ev (pc + 1) lv (.ref (f x.toNatClampNeg) :: rest) σ o) : RR en Ex mi ev pc lv (.int x :: .ref (ad en t i j) :: rest) σ (gd (ib x n) o) := by
  refine r_gd (fun hb => ?_)
  intro u hu p e Rm s m args below meth c A cells slots Q C H locs ls hW hl kr
  obtain ⟨q, -, hq⟩ := wd_at (en := en) ho
  have hq1 := hq σ
  rw [he] at hq1
  have hcell : H[ad en t i j]? = some (arrV (cy en k) n (fun j => va_rf (some (f j)))) := hW.1 q _ hq1
  have hlt := ib_lt hb
  exact W.aald (v := .ref (f x.toNatClampNeg)) C.1 C.2.1 hcell ((C.2.2.2.2.2.2.2.2.1.2 k _ hk).1 n (fun j => va_rf (some (f j)))) hty (by intro h9; cases h9) (by rw [arrV_size]; exact ib_in hb) (by rw [arrV_read _ _ hlt]; rfl) rfl rfl hd (h hb u hu p e Rm s m args below meth c A cells slots Q C H locs ls hW hl kr)
theorem r_iast {t i j n : Nat} {x y : Int32} (ho : (t, i, j) ∈ obs) (he : cellF en t i j (σ.1 t i j) (σ.2 t i j) = .inl (cy en 0, n, .inl (σ.1 t i j))) (he2 : (Sum.inl (cy en 0, n, .inl (upd (σ.1 t i j) x.toNatClampNeg y)) : va_E) = cellF en t i j (upd (σ.1 t i j) x.toNatClampNeg y) (σ.2 t i j)) (hd : decode mi.2.1 pc = .ok (.iastore, 1)) (h : ib x n = true → RR en Ex mi ev (pc + 1) lv rest (uI σ t i j x.toNatClampNeg y) o) : RR en Ex mi ev pc lv (.int y :: .int x :: .ref (ad en t i j) :: rest) σ (gd (ib x n) o) := by
  refine r_gd (fun hb => ?_)
  intro u hu p e Rm s m args below meth c A cells slots Q C H locs ls hW hl kr
  obtain ⟨q, hoq, hq⟩ := wd_at (en := en) ho
  have hq1 := hq σ
  rw [he] at hq1
  refine va_iast C.1 C.2.1 C.2.2.2.2.2.2.2.2.1 hW.1 hW.2.1 hW.2.2 q 0 hq1 rfl (ib_in hb) hd (fun H1 locs1 hP hD hS => ?_)
  have hset : (world en σ).set q (ad en t i j, .inl (cy en 0, n, .inl (upd (σ.1 t i j) x.toNatClampNeg y))) = world en (uI σ t i j x.toNatClampNeg y) := wd_set hoq (by rw [uI_on]; exact he2) uI_off
  rw [hset] at hP hD
  exact h hb u hu p e Rm s m args below meth c A cells slots Q C H1 locs1 ls ⟨hP, hD, hS⟩ hl kr
theorem r_bast {t i j n : Nat} {x y : Int32} (ho : (t, i, j) ∈ obs) (he : cellF en t i j (σ.1 t i j) (σ.2 t i j) = .inl (cy en 1, n, .inl (σ.1 t i j))) (he2 : (Sum.inl (cy en 1, n, .inl (upd (σ.1 t i j) x.toNatClampNeg (vp_nar .byte y))) : va_E) = cellF en t i j (upd (σ.1 t i j) x.toNatClampNeg (vp_nar .byte y)) (σ.2 t i j)) (hd : decode mi.2.1 pc = .ok (.bastore, 1)) (h : ib x n = true → RR en Ex mi ev (pc + 1) lv rest (uI σ t i j x.toNatClampNeg (vp_nar .byte y)) o) : RR en Ex mi ev pc lv (.int y :: .int x :: .ref (ad en t i j) :: rest) σ (gd (ib x n) o) := by
  refine r_gd (fun hb => ?_)
  intro u hu p e Rm s m args below meth c A cells slots Q C H locs ls hW hl kr
  obtain ⟨q, hoq, hq⟩ := wd_at (en := en) ho
  have hq1 := hq σ
  rw [he] at hq1
  refine va_bast C.1 C.2.1 C.2.2.2.2.2.2.2.2.1 hW.1 hW.2.1 hW.2.2 q 1 hq1 rfl (ib_in hb) hd (fun H1 locs1 hP hD hS => ?_)
  have hset : (world en σ).set q (ad en t i j, .inl (cy en 1, n, .inl (upd (σ.1 t i j) x.toNatClampNeg (vp_nar .byte y)))) = world en (uI σ t i j x.toNatClampNeg (vp_nar .byte y)) := wd_set hoq (by rw [uI_on]; exact he2) uI_off
  rw [hset] at hP hD
  exact h hb u hu p e Rm s m args below meth c A cells slots Q C H1 locs1 ls ⟨hP, hD, hS⟩ hl kr
theorem r_last {t i j n : Nat} {x : Int32} {y : Int64} (ho : (t, i, j) ∈ obs) (he : cellF en t i j (σ.1 t i j) (σ.2 t i j) = .inl (cy en 2, n, .inr (.inl (σ.2 t i j)))) (he2 : (Sum.inl (cy en 2, n, .inr (.inl (vp_updL (σ.2 t i j) x.toNatClampNeg y))) : va_E) = cellF en t i j (σ.1 t i j) (vp_updL (σ.2 t i j) x.toNatClampNeg y)) (hd : decode mi.2.1 pc = .ok (.lastore, 1)) (h : ib x n = true → RR en Ex mi ev (pc + 1) lv rest (uL σ t i j x.toNatClampNeg y) o) : RR en Ex mi ev pc lv (.long y :: .int x :: .ref (ad en t i j) :: rest) σ (gd (ib x n) o) := by
  refine r_gd (fun hb => ?_)
  intro u hu p e Rm s m args below meth c A cells slots Q C H locs ls hW hl kr
  obtain ⟨q, hoq, hq⟩ := wd_at (en := en) ho
  have hq1 := hq σ
  rw [he] at hq1
  refine va_last C.1 C.2.1 C.2.2.2.2.2.2.2.2.1 hW.1 hW.2.1 hW.2.2 q 2 hq1 rfl (ib_in hb) hd (fun H1 locs1 hP hD hS => ?_)
  have hset : (world en σ).set q (ad en t i j, .inl (cy en 2, n, .inr (.inl (vp_updL (σ.2 t i j) x.toNatClampNeg y)))) = world en (uL σ t i j x.toNatClampNeg y) := wd_set hoq (by rw [uL_on]; exact he2) uL_off
  rw [hset] at hP hD
  exact h hb u hu p e Rm s m args below meth c A cells slots Q C H1 locs1 ls ⟨hP, hD, hS⟩ hl kr
theorem r_alen {t i j : Nat} {k : Nat} {ty : FieldType} {a : vp_A} {v : Int32} (ho : (t, i, j) ∈ obs) (he : cellF en t i j (σ.1 t i j) (σ.2 t i j) = .inl (cy en k, a)) (hk : (tysE en)[k]? = some (cy en k, ty)) (hv : Int32.ofNat a.1 = v) (hd : decode mi.2.1 pc = .ok (.arraylength, 1)) (h : RR en Ex mi ev (pc + 1) lv (.int v :: rest) σ o) : RR en Ex mi ev pc lv (.ref (ad en t i j) :: rest) σ o := by
  intro u hu p e Rm s m args below meth c A cells slots Q C H locs ls hW hl kr
  obtain ⟨q, -, hq⟩ := wd_at (en := en) ho
  have hq1 := hq σ
  rw [he] at hq1
  exact va_alen C.1 C.2.1 C.2.2.2.2.2.2.2.2.1 hW.1 q k hq1 hk hv hd (h u hu p e Rm s m args below meth c A cells slots Q C H locs ls hW hl kr)
/-! returns -/
theorem r_iret {x : Int32} (hrt : mi.2.2.2.1 = some .int) (hd : decode mi.2.1 pc = .ok (.ireturn, 1)) : RR en Ex mi evI pc lv [.int x] σ (some (x, σ)) := by
  intro u hu p e Rm s m args below meth c A cells slots Q C H locs ls hW hl kr
  cases hu
  exact kr H locs pc ls hW (Or.inl ⟨hrt, x, rfl, hd⟩)
theorem r_zret {x : Int32} (hrt : mi.2.2.2.1 = some .boolean) (hn : narrow .boolean (.int x) = .int x) (hd : decode mi.2.1 pc = .ok (.ireturn, 1)) : RR en Ex mi evI pc lv [.int x] σ (some (x, σ)) := by
  intro u hu p e Rm s m args below meth c A cells slots Q C H locs ls hW hl kr
  cases hu
  exact kr H locs pc ls hW (Or.inr (Or.inl ⟨hrt, x, rfl, hn, hd⟩))
theorem r_lret {x : Int64} (hrt : mi.2.2.2.1 = some .long) (hd : decode mi.2.1 pc = .ok (.lreturn, 1)) : RR en Ex mi evL pc lv [.long x] σ (some (x, σ)) := by
  intro u hu p e Rm s m args below meth c A cells slots Q C H locs ls hW hl kr
  cases hu
  exact kr H locs pc ls hW (Or.inr (Or.inr (Or.inl ⟨hrt, x, rfl, hd⟩)))
theorem r_vret (hrt : mi.2.2.2.1 = none) (hd : decode mi.2.1 pc = .ok (.return_, 1)) : RR en Ex mi evV pc lv [] σ (some σ) := by
  intro u hu p e Rm s m args below meth c A cells slots Q C H locs ls hW hl kr
  cases hu
  exact kr H locs pc ls hW (Or.inr (Or.inr (Or.inr ⟨hrt, rfl, hd⟩)))
end Rows
/-! calls: a method's RR at its entry is its contract -/
theorem ExL_kept {en : En} {A B : Nat → Prop} {s U : State} {H : Heap} {locs : List Loc} (hx : ExL en A s) (hS : va_S A s.heap H locs) (hU : U.heap = H) (hW : s.WarmedH U.vm) (hAB : ∀ q, B q → A q) : ExL en B U := by
  obtain ⟨h1, h2, h3, h4⟩ := hx
  have hk : ∀ a : Nat, a < s.heap.size → ¬ A a → U.heap[a]? = s.heap[a]? := fun a h5 h6 => by rw [hU]; exact hS.2.1 a h5 h6
  exact ⟨va_Z.narrow (va_Z.moved hW.alike (va_Z.kept h1 hk)) hAB, va_T.narrow (va_T.moved hW.alike (va_T.kept h2 hk)) hAB, va_Nw.warmM hW h3, va_Nw.warmF hW h4⟩
def PcE (en : En) (vals : List Value) (σ : Sg) (sz : Nat) : Array Value → State → Prop := va_Pc vals (fun U => U.heap.size = sz ∧ va_P (enD en) vwCl (world en σ) U.heap ∧ va_K (enD en) vwCl (tysE en) U ∧ va_D (fun _ => True) (world en σ) ∧ ExL en (va_A (world en σ) sz) U)
def QcE (en : En) (rv : Option Value) (σ : Sg) (A : Nat → Prop) : Array Value → State → Outcome → State → Prop := fun _ st oc t => (oc = .returned rv ∧ va_P (enD en) vwCl (world en σ) t.heap ∧ va_D A (world en σ)) ∧ va_F A st t
abbrev rmE (d : Nat) : Room := { frames := d, cells := 0, slots := 0, locals := 36 * d }
theorem PcE_blind (en : En) (vals : List Value) (σ : Sg) (sz : Nat) : FrameBlind (PcE en vals σ sz) := by
  intro a U g mk hq
  obtain ⟨q0, q1, qP, qK, qD, qX⟩ := hq
  exact ⟨q0, q1, qP, va_K.moved (u := U) (U := U.calling g mk a) (Vm.Alike.refl U.vm) qK, qD, va_Z.moved (u := U) (U := U.calling g mk a) (Vm.Alike.refl U.vm) qX.1, va_T.moved (u := U) (U := U.calling g mk a) (Vm.Alike.refl U.vm) qX.2.1, va_Nw.same rfl (rfl : U.vm = (U.calling g mk a).vm) qX.2.2.1, va_Nw.same rfl (rfl : U.vm = (U.calling g mk a).vm) qX.2.2.2⟩
theorem ret_W {mi : Mi} {p : Program} {l : Launch} {e : Env} {R : Room} {s : State} {m : MethodId} {args : Array Value} {below : List Frame} {meth : Method} {c : Code} {H : Heap} {locs : List Loc} {Qc : Array Value → State → Outcome → State → Prop} {free : Addr → Prop} {v : Option Value} {pc : Nat} {ls : Array Slot} (hx : p.tables.exec = Jvm.exec) (hb : c.code = mi.2.1) (hr : meth.sig.returnType = mi.2.2.2.1) (hlocks : meth.locks = false) (ho : retOk mi pc v) (hq : ∀ t : State, t.heap = H → s.WarmedH t.vm → Qc args s (.returned v) t) (hf : ∀ q ∈ locs, free q.base) {cells slots : Nat} : W p l e R s m args below meth c H locs cells slots (MQ below Qc args s cells slots free) (F0 m pc ls v.toList) := by
  rcases ho with ⟨h1, x, h2, h3⟩ | ⟨h1, x, h2, h4, h3⟩ | ⟨h1, x, h2, h3⟩ | ⟨h1, h2, h3⟩
  · subst h2
    exact W.iret hx hb (hr.trans h1) hq hf h3 (hlocks := hlocks)
  · subst h2
    exact W.zret hx hb (hr.trans h1) h4 hq hf h3 (hlocks := hlocks)
  · subst h2
    exact W.lret hx hb (hr.trans h1) hq hf h3 (hlocks := hlocks)
  · subst h2
    exact W.vret hx hb (hr.trans h1) hq hf h3 (hlocks := hlocks)
def ExT : (Nat → Prop) → State → Prop := fun _ _ => True
theorem met_of {en : En} {y : MethodName} {cc : ByteArray} {nL d : Nat} {rt : Option FieldType} (hy : plainName y.cls = true) {α : Type} {ev : α → Option Value × Sg} {vals : List Value} {σ : Sg} {o : Option α} (hR : RR en ExT (y.cls, cc, nL, rt, d) ev 0 (lv_args 0 vals) [] σ o) (hlen : (lg_sl vals).length ≤ nL) {u : α} (hu : o = some u) (sz : Nat) : Met (enL en) y (.code y cc nL rt :: lwG) (rmE d) (PcE en vals σ sz) (QcE en (ev u).1 (ev u).2 (va_A (world en σ) sz)) 0 0 (va_A (world en σ) sz) := by
  refine Met.ofW (cc := cc) (maxL := nL) (ret := rt) hy rfl ?_
  intro p e s m args below meth c s₁ B hml hv
  obtain ⟨rfl, hsz, hP, hK, hD0, hX⟩ := hv
  have hts0 := atoms_spec (ws := .code y cc nL rt :: lwG) B.pre
  have hts : ∀ w ∈ lwG, w.before vals.toArray s = true := fun w hw => hts0 w (List.mem_cons_of_mem _ hw)
  have hown : s.vm.findClass y.cls = some m.cls := findClass_of_methodNamed B.named
  have hlocks := B.notSynchronized
  subst hsz
  have hD := hD0.self (sz := s.heap.size)
  generalize hAe : va_A (world en σ) s.heap.size = A at hD hX ⊢
  have hA : ∀ q : Nat, s.heap.size ≤ q → A q := fun q h => by rw [← hAe]; exact Or.inr h
  have hl := lv_entry vals (n := nL) hlen
  rw [lg_entry_eq]
  refine hR u hu p e (rmE d) s m vals.toArray below meth c A 0 0 _ ⟨B.exec, B.bytes, B.returns, hml, hown, hts, ⟨Nat.le_refl _, Nat.le_refl _, Nat.le_refl _, Nat.le_refl _⟩, ⟨trivial, hX⟩, hK, hA, hlocks⟩ s.heap [] _ ⟨hP, hD, va_S.rf⟩ hl ?_
  intro H' locs' pc' ls' hW' ho'
  exact ret_W B.exec B.bytes B.returns hlocks ho' (fun t ht _ => ⟨⟨rfl, by rw [ht]; exact hW'.1, hW'.2.1⟩, hW'.2.2.F ht⟩) hW'.2.2.2.2
theorem e_call {en : En} {p : Program} {l : Launch} {e : Env} {R : Room} {s : State} {m : MethodId} {args : Array Value} {below : List Frame} {meth : Method} {c : Code} {H : Heap} {locs : List Loc} {cells slots : Nat} {Q : State → Prop} {pc : Nat} {ls : Array Slot} {rest st0 : List Value} {a : Array Value} {A0 A1 : Nat → Prop} {H0 : Heap} {free : Addr → Prop} {rv : Option Value} {σ' : Sg} (hr : va_Run p l e R s m args below meth c H locs cells slots 0 0 (F0 m pc ls st0) rest (QcE en rv σ' A1 a) free) (hS : va_S A0 H0 H locs) (hA : ∀ q, q < H.size → A1 q → A0 q) (hf : ∀ q, free q → A0 q)
    (kk : ∀ (H1 : Heap) (locs1 : List Loc), va_P (enD en) vwCl (world en σ') H1 → va_D A1 (world en σ') → va_S A0 H0 H1 locs1 → W p l e R s m args below meth c H1 locs1 cells slots Q (F0 m (pc + 3) ls (rv.toList ++ rest))) : W p l e R s m args below meth c H locs cells slots Q (F0 m pc ls st0) := by
  intro T hT X
  obtain ⟨v, st₀, t, T', L, h0, X', hL, e1, e2, ⟨⟨hv, hp, hb⟩, hz, hk⟩, st⟩ := hr T hT X
  cases hv
  rw [h0] at hz hk
  obtain ⟨t2, a1, b1⟩ := kk T'.heap (locs ++ L) (by rw [e1]; exact hp) hb
    ⟨Nat.le_trans hS.1 (by rw [e1]; exact hz), fun q h1 h2 => by rw [e1, hk q (Nat.lt_of_lt_of_le h1 hS.1) (fun z => h2 (hA q (Nat.lt_of_lt_of_le h1 hS.1) z))]; exact hS.2.1 q h1 h2, fun q hq => by
      rcases List.mem_append.mp hq with h | h
      · exact hS.2.2 q h
      · exact hf _ (hL q h)⟩ T' rfl X'
  exact ⟨t2, st t2 a1, b1⟩
/-- all that a table says of a method that is called -/
def yOk (y : MethodName) (cc : ByteArray) (nL : Nat) (rt : Option FieldType) : Prop := Cond.code y cc nL rt ∈ lwG ∧ Cond.initialized y.cls ∈ lwG ∧ plainName y.cls = true ∧ (y.cls ≠ "java/lang/invoke/MethodHandle" ∧ y.cls ≠ "java/lang/invoke/VarHandle")
theorem lw_in {y : MethodName} {cc : ByteArray} {nL : Nat} {rt : Option FieldType} (h : Cond.code y cc nL rt ∈ lwG) : GoodIn lwG (.code y cc nL rt :: lwG) := by
  intro w hw
  have hm : w ∈ lwG := by
    rcases List.mem_cons.mp hw with rfl | h9
    · exact h
    · exact h9
  exact ⟨hm, good_of_word (List.mem_filter.mp hm).2⟩
section Calls
variable {en : En} {Ex : (Nat → Prop) → State → Prop} {mi : Mi} {α β : Type} {ev : α → Option Value × Sg} {evz : β → Option Value × Sg} {pc : Nat} {lv : List (Nat × Value)} {rest : List Value} {σ : Sg} {o : Option α} {oz : Option β} {k : β → Option α} {y : MethodName} {cc : ByteArray} {nL d index : Nat} {rt : Option FieldType}
theorem wd_free {A : Nat → Prop} {s : State} {H : Heap} {locs : List Loc} (hW : Wd en σ A s H locs) (hA : ∀ q, s.heap.size ≤ q → A q) : ∀ q, va_A (world en σ) H.size q → A q := by
  intro q h
  rcases h with ⟨k, e, h⟩ | h
  · exact hW.2.1.2 k (q, e) h
  · exact hA q (Nat.le_trans hW.2.2.1 h)
theorem r_callV {t i j ci N n : Nat} {T : u_T} {fs : List Value} (As : List Value) (hy : yOk y cc nL rt) (hlink : Cond.methodLink mi.1 index y ∈ lwG) (hinst : Cond.instanceMethod y ∈ lwG) (hsel : Cond.selects y.cls y y ∈ lwG) (hn : (parseMethodDescriptor y.desc).map (fun d => d.parameters.length) = some n) (hAs : As.length = n) (hroom : d + 1 ≤ mi.2.2.2.2) (hL : nL ≤ 17) (ho : (t, i, j) ∈ obs) (he : cellF en t i j (σ.1 t i j) (σ.2 t i j) = .inr (ci, fs)) (hc : vwCl[ci]? = some (y.cls, T, N)) (hcat : (rest.map fun v => v.category).sum ≤ 8) (hR : RR en ExT (y.cls, cc, nL, rt, d) evz 0 (lv_args 0 (.ref (ad en t i j) :: As)) [] σ oz) (hlen : (lg_sl (.ref (ad en t i j) :: As)).length ≤ nL) (hd : decode mi.2.1 pc = .ok (.invokevirtual index, 3))
    (h : ∀ r, oz = some r → RR en Ex mi ev (pc + 3) lv ((evz r).1.toList ++ rest) (evz r).2 (k r)) : RR en Ex mi ev pc lv (As.reverse ++ .ref (ad en t i j) :: rest) σ (oz.bind k) := by
  intro u hu p e Rm s m args below meth c A cells slots Q C H locs ls hW hl kr
  cases hoz : oz with
  | none => rw [hoz] at hu; cases hu
  | some r =>
    rw [hoz] at hu
    have hts := C.2.2.2.2.2.1
    have hK := C.2.2.2.2.2.2.2.2.1
    have hF := wd_free hW C.2.2.2.2.2.2.2.2.2.1
    obtain ⟨q, -, hq⟩ := wd_at (en := en) ho
    have hq1 := hq σ
    rw [he] at hq1
    have hM := met_of hy.2.2.1 hR hlen hoz H.size
    have hrm := C.2.2.2.2.2.2.1
    have cw : CallW Rm s args mi.1 y.cls index y cc nL rt (.code y cc nL rt :: lwG) (rmE d) 0 0 n := ⟨callB_of n hts (lw_in hy.1) rfl rfl rfl (hts _ hy.2.1) (hts _ hlink) ⟨hy.2.2.2.1, hy.2.2.2.2, hn⟩ ⟨Nat.le_trans hroom hrm.1, by show 8 + (nL + 11) + 36 * d ≤ Rm.locals; omega⟩, hts _ hinst, hts _ hsel⟩
    have hp : PreV s H y.cls (ad en t i j) (PcE en (.ref (ad en t i j) :: As) σ H.size) As := ⟨PcE_blind _ _ _ _, va_recv hK hW.1 hc hq1, fun U hU hWm => ⟨rfl, by rw [hU], by rw [hU]; exact hW.1, va_K.moved hWm.alike hK, hW.2.1.weaken (fun _ _ _ _ => trivial), ExL_kept C.2.2.2.2.2.2.2.1.2 hW.2.2 hU hWm hF⟩⟩
    exact e_call (va_runV (As := As) (rest := rest) (g := F0 m pc ls (As.reverse ++ .ref (ad en t i j) :: rest)) ⟨C.1, C.2.1, C.2.2.2.1, C.2.2.2.2.1, hts⟩ hM cw hp rfl hAs hl.1 rfl (lv_room hcat) hd ⟨hrm.2.2.1, hrm.2.2.2⟩) hW.2.2 (fun q _ h9 => hF q h9) hF (fun H1 locs1 hP1 hD1 hS1 => h r hoz u hu p e Rm s m args below meth c A cells slots Q C H1 locs1 ls ⟨hP1, hD1.weaken (fun _ q _ h9 => hF q.1 h9), hS1⟩ hl kr)
theorem r_callS {n : Nat} (As : List Value) (hy : yOk y cc nL rt) (hlink : Cond.methodLink mi.1 index y ∈ lwG) (hstat : Cond.static y ∈ lwG) (hn : (parseMethodDescriptor y.desc).map (fun d => d.parameters.length) = some n) (hAs : As.length = n) (hroom : d + 1 ≤ mi.2.2.2.2) (hL : nL ≤ 17) (hcat : (rest.map fun v => v.category).sum ≤ 8) (hR : RR en ExT (y.cls, cc, nL, rt, d) evz 0 (lv_args 0 As) [] σ oz) (hlen : (lg_sl As).length ≤ nL) (hd : decode mi.2.1 pc = .ok (.invokestatic index, 3))
    (h : ∀ r, oz = some r → RR en Ex mi ev (pc + 3) lv ((evz r).1.toList ++ rest) (evz r).2 (k r)) : RR en Ex mi ev pc lv (As.reverse ++ rest) σ (oz.bind k) := by
  intro u hu p e Rm s m args below meth c A cells slots Q C H locs ls hW hl kr
  cases hoz : oz with
  | none => rw [hoz] at hu; cases hu
  | some r =>
    rw [hoz] at hu
    have hts := C.2.2.2.2.2.1
    have hK := C.2.2.2.2.2.2.2.2.1
    have hF := wd_free hW C.2.2.2.2.2.2.2.2.2.1
    have hM := met_of hy.2.2.1 hR hlen hoz H.size
    have hrm := C.2.2.2.2.2.2.1
    have cw : CallB Rm s args mi.1 index y cc nL rt (.code y cc nL rt :: lwG) (rmE d) 0 0 n ∧ (Cond.static y).before args s = true := ⟨callB_of n hts (lw_in hy.1) rfl rfl rfl (hts _ hy.2.1) (hts _ hlink) ⟨hy.2.2.2.1, hy.2.2.2.2, hn⟩ ⟨Nat.le_trans hroom hrm.1, by show 8 + (nL + 11) + 36 * d ≤ Rm.locals; omega⟩, hts _ hstat⟩
    have hp : PreS s H (PcE en As σ H.size) As := ⟨PcE_blind _ _ _ _, fun U hU hWm => ⟨rfl, by rw [hU], by rw [hU]; exact hW.1, va_K.moved hWm.alike hK, hW.2.1.weaken (fun _ _ _ _ => trivial), ExL_kept C.2.2.2.2.2.2.2.1.2 hW.2.2 hU hWm hF⟩⟩
    exact e_call (va_runS (As := As) (rest := rest) (g := F0 m pc ls (As.reverse ++ rest)) ⟨C.1, C.2.1, C.2.2.2.1, C.2.2.2.2.1, hts⟩ hM cw hp rfl hAs hl.1 rfl (lv_room hcat) hd ⟨hrm.2.2.1, hrm.2.2.2⟩) hW.2.2 (fun q _ h9 => hF q h9) hF (fun H1 locs1 hP1 hD1 hS1 => h r hoz u hu p e Rm s m args below meth c A cells slots Q C H1 locs1 ls ⟨hP1, hD1.weaken (fun _ q _ h9 => hF q.1 h9), hS1⟩ hl kr)
/-- PaneOrder.isOf, which is private, out of Screen -/
theorem r_callN {n : Nat} (As : List Value) (hown : mi.1 = RX4) (hy0 : y = yX7_isOf) (hix : index = 91) (hy : yOk y cc nL rt) (hstat : Cond.static y ∈ lwG) (hn : (parseMethodDescriptor y.desc).map (fun d => d.parameters.length) = some n) (hAs : As.length = n) (hroom : d + 1 ≤ mi.2.2.2.2) (hL : nL ≤ 17) (hcat : (rest.map fun v => v.category).sum ≤ 8) (hR : RR en ExT (y.cls, cc, nL, rt, d) evz 0 (lv_args 0 As) [] σ oz) (hlen : (lg_sl As).length ≤ nL) (hd : decode mi.2.1 pc = .ok (.invokestatic index, 3))
    (h : ∀ r, oz = some r → RR en Ex mi ev (pc + 3) lv ((evz r).1.toList ++ rest) (evz r).2 (k r)) : RR en Ex mi ev pc lv (As.reverse ++ rest) σ (oz.bind k) := by
  intro u hu p e Rm s m args below meth c A cells slots Q C H locs ls hW hl kr
  cases hoz : oz with
  | none => rw [hoz] at hu; cases hu
  | some r =>
    rw [hoz] at hu
    have hts := C.2.2.2.2.2.1
    have hK := C.2.2.2.2.2.2.2.2.1
    have hX := C.2.2.2.2.2.2.2.1.2
    have hF := wd_free hW C.2.2.2.2.2.2.2.2.2.1
    have hM := met_of hy.2.2.1 hR hlen hoz H.size
    have hrm := C.2.2.2.2.2.2.1
    have hnw : va_Nw (.methodLinkNest mi.1 index y RX7) s := by rw [hown, hix, hy0]; exact hX.2.2.1
    have cw : va_CN Rm s args mi.1 index y RX7 cc nL rt (.code y cc nL rt :: lwG) (rmE d) 0 0 n ∧ (Cond.static y).before args s = true ∧ True := ⟨va_cnB n hts (lw_in hy.1) rfl rfl rfl hnw (hts _ hy.2.1) ⟨hy.2.2.2.1, hy.2.2.2.2, hn⟩ ⟨Nat.le_trans hroom hrm.1, by show 8 + (nL + 11) + 36 * d ≤ Rm.locals; omega⟩, hts _ hstat, trivial⟩
    have hp : PreS s H (PcE en As σ H.size) As := ⟨PcE_blind _ _ _ _, fun U hU hWm => ⟨rfl, by rw [hU], by rw [hU]; exact hW.1, va_K.moved hWm.alike hK, hW.2.1.weaken (fun _ _ _ _ => trivial), ExL_kept hX hW.2.2 hU hWm hF⟩⟩
    exact e_call (va_runSN (As := As) (rest := rest) (g := F0 m pc ls (As.reverse ++ rest)) ⟨C.1, C.2.1, C.2.2.2.1, C.2.2.2.2.1, hts⟩ hM cw hp rfl hAs hl.1 rfl (lv_room hcat) hd ⟨hrm.2.2.1, hrm.2.2.2⟩) hW.2.2 (fun q _ h9 => hF q h9) hF (fun H1 locs1 hP1 hD1 hS1 => h r hoz u hu p e Rm s m args below meth c A cells slots Q C H1 locs1 ls ⟨hP1, hD1.weaken (fun _ q _ h9 => hF q.1 h9), hS1⟩ hl kr)
theorem lw_native {R : Room} {rest : List Value} {d : Nat} (h1 : 36 * d ≤ R.locals) (h2 : 2 ≤ d) (h3 : (rest.map fun v => v.category).sum ≤ 8) : (rest.map fun v => v.category).sum + (nativeFrameWords "java/lang/System" "arraycopy" 5 + 11) ≤ R.locals := by
  have h9 : nativeFrameWords "java/lang/System" "arraycopy" 5 ≤ 40 := by decide +kernel
  omega
theorem r_mmax {x y : Int32} (hlink : Cond.methodLink mi.1 index Lib.Math.max.name ∈ lwG) (hroom : 1 ≤ mi.2.2.2.2) (hcat : (rest.map fun v => v.category).sum ≤ 8) (hd : decode mi.2.1 pc = .ok (.invokestatic index, 3)) (h : RR en Ex mi ev (pc + 3) lv (.int (if x < y then y else x) :: rest) σ o) : RR en Ex mi ev pc lv (.int y :: .int x :: rest) σ o := by
  intro u hu p e Rm s m args below meth c A cells slots Q C H locs ls hW hl kr
  have hts := C.2.2.2.2.2.1
  have hrm := C.2.2.2.2.2.2.1
  exact va_mmax C.1 C.2.1 (C.2.2.2.1.trans hl.1.symm) C.2.2.2.2.1 (hts _ hlink) (hts (.static Lib.Math.max.name) (in_lwG (by decide +kernel) rfl)) (hts (.initialized "java/lang/Math") (in_lwG (by decide +kernel) rfl)) (hts (.code Lib.Math.max.name Lib.Math.max.code 2 (some .int)) (in_lwG (by decide +kernel) rfl)) (Nat.le_trans hroom hrm.1) (by omega) hrm.2.2.1 hrm.2.2.2 hd (h u hu p e Rm s m args below meth c A cells slots Q C H locs ls hW hl kr)
theorem r_mmin {x y : Int32} (hlink : Cond.methodLink mi.1 index Lib.Math.min.name ∈ lwG) (hroom : 1 ≤ mi.2.2.2.2) (hcat : (rest.map fun v => v.category).sum ≤ 8) (hd : decode mi.2.1 pc = .ok (.invokestatic index, 3)) (h : RR en Ex mi ev (pc + 3) lv (.int (if y < x then y else x) :: rest) σ o) : RR en Ex mi ev pc lv (.int y :: .int x :: rest) σ o := by
  intro u hu p e Rm s m args below meth c A cells slots Q C H locs ls hW hl kr
  have hts := C.2.2.2.2.2.1
  have hrm := C.2.2.2.2.2.2.1
  exact va_mmin C.1 C.2.1 (C.2.2.2.1.trans hl.1.symm) C.2.2.2.2.1 (hts _ hlink) (hts (.static Lib.Math.min.name) (in_lwG (by decide +kernel) rfl)) (hts (.initialized "java/lang/Math") (in_lwG (by decide +kernel) rfl)) (hts (.code Lib.Math.min.name Lib.Math.min.code 2 (some .int)) (in_lwG (by decide +kernel) rfl)) (Nat.le_trans hroom hrm.1) (by omega) hrm.2.2.1 hrm.2.2.2 hd (h u hu p e Rm s m args below meth c A cells slots Q C H locs ls hW hl kr)
def cpOk (sp dp n : Int32) (n0 n1 : Nat) : Bool := decide (¬ sp < 0) && (decide (¬ dp < 0) && (decide (¬ n < 0) && (decide (sp.toNatClampNeg + n.toNatClampNeg ≤ n0) && decide (dp.toNatClampNeg + n.toNatClampNeg ≤ n1))))
theorem r_copy {i1 i2 : Nat} {sp dp n : Int32} (ho1 : (3, i1, 0) ∈ obs) (ho2 : (3, i2, 0) ∈ obs) (hlink : Cond.methodLink mi.1 index arraycopyName ∈ lwG) (hroom : 2 ≤ mi.2.2.2.2) (hcat : (rest.map fun v => v.category).sum ≤ 8) (hd : decode mi.2.1 pc = .ok (.invokestatic index, 3)) (h : RR en Ex mi ev (pc + 3) lv rest (uA σ 3 i2 0 (va_cpy (σ.1 3 i1 0) (σ.1 3 i2 0) sp.toNatClampNeg dp.toNatClampNeg n.toNatClampNeg)) o) : RR en Ex mi ev pc lv (.int n :: .int dp :: .ref (ad en 3 i2 0) :: .int sp :: .ref (ad en 3 i1 0) :: rest) σ (gd (cpOk sp dp n 40 40) o) := by
  refine r_gd (fun hb => ?_)
  intro u hu p e Rm s m args below meth c A cells slots Q C H locs ls hW hl kr
  have hts := C.2.2.2.2.2.1
  have hrm := C.2.2.2.2.2.2.1
  obtain ⟨q1, -, hq1⟩ := wd_at (en := en) ho1
  obtain ⟨q2, hoq, hq2⟩ := wd_at (en := en) ho2
  unfold cpOk at hb
  simp only [Bool.and_eq_true, decide_eq_true_eq] at hb
  obtain ⟨h1, h2, h3, h4, h5⟩ := hb
  refine va_copyi (ty := .int) (n0 := 40) (n1 := 40) C.1 C.2.1 (C.2.2.2.1.trans hl.1.symm) C.2.2.2.2.1 (hts _ hlink) (hts (.native arraycopyName) (in_lwG (by decide +kernel) rfl)) (hts (.static arraycopyName) (in_lwG (by decide +kernel) rfl)) (hts (.initialized "java/lang/System") (in_lwG (by decide +kernel) rfl)) C.2.2.2.2.2.2.2.2.1 hW.1 hW.2.1 hW.2.2 q1 q2 0 0 (hq1 σ) (hq2 σ) rfl rfl rfl h1 h2 h3 h4 h5 (fun _ _ => rfl) (Nat.le_trans (by omega) hrm.1) (lw_native hrm.2.1 hroom hcat) hd (fun H1 locs1 hP hD hS => ?_)
  have hset : (world en σ).set q2 (ad en 3 i2 0, .inl (cy en 0, 40, .inl (va_cpy (σ.1 3 i1 0) (σ.1 3 i2 0) sp.toNatClampNeg dp.toNatClampNeg n.toNatClampNeg))) = world en (uA σ 3 i2 0 (va_cpy (σ.1 3 i1 0) (σ.1 3 i2 0) sp.toNatClampNeg dp.toNatClampNeg n.toNatClampNeg)) := wd_set hoq (by rw [uA_on]; rfl) uA_off
  rw [hset] at hP hD
  exact h u hu p e Rm s m args below meth c A cells slots Q C H1 locs1 ls ⟨hP, hD, hS⟩ hl kr
theorem r_letters (hown : mi.1 = RX5) (hd : decode mi.2.1 pc = .ok (.getstatic 72, 3)) (h : RR en Ex mi ev (pc + 3) lv (.ref (ltA en) :: rest) σ o) : RR en Ex mi ev pc lv rest σ o := by
  intro u hu p e Rm s m args below meth c A cells slots Q C H locs ls hW hl kr
  have hX := C.2.2.2.2.2.2.2.1.2
  refine va_getsN (own := RX5) (host := RX7) C.1 C.2.1 hX.1 hW.2.2 (by rw [← hown]; exact C.2.2.2.2.1) (va_Nw.use rfl hX.2.2.2) (fun _ h9 => h9) hd ?_
  exact h u hu p e Rm s m args below meth c A cells slots Q C H locs ls hW hl kr
theorem r_letter {x : Int32} (hd : decode mi.2.1 pc = .ok (.iaload, 1)) (h : RR en Ex mi ev (pc + 1) lv (.int (lettersI x.toNatClampNeg) :: rest) σ o) : RR en Ex mi ev pc lv (.int x :: .ref (ltA en) :: rest) σ (gd (ib x 6) o) := by
  refine r_gd (fun hb => ?_)
  intro u hu p e Rm s m args below meth c A cells slots Q C H locs ls hW hl kr
  have hX := C.2.2.2.2.2.2.2.1.2
  exact va_ti C.1 C.2.1 hX.2.1 hW.2.2 (ib_in hb) rfl hd (h u hu p e Rm s m args below meth c A cells slots Q C H locs ls hW hl kr)
end Calls
