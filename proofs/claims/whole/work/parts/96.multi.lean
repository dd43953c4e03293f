section Multi
variable {p : Program} {l : Launch} {e : Env} {R : Room} {s : State} {m : MethodId} {args : Array Value} {below : List Frame} {meth : Method} {c : Code} {H : Heap} {locs : List Loc} {cells slots : Nat} {Q : State → Prop}
theorem wp_row {E : CtlPost} {d : Bool} {acts : List Action} {U : State} {cl co : ClassId} {k : Class} {ty : FieldType} {len : Nat} {v : Value} (hk : U.vm.classes[cl]? = some k) (hkind : k.kind = .array co ty) (h1 : len ≤ e.platform.arrayLengthLimit) (h2 : len * componentBytes ty ≤ e.platform.maxHeapBytes) (hf : fits ty v = true) (hv : v.isDefault = true) (h3 : U.heap.size + 1 ≤ e.platform.maxCells) (h4 : U.slotsUsed + len ≤ e.platform.maxSlots) {P : Addr → Pre} (hq : P U.heap.size d acts (U.pushCell { cls := cl, slots := Array.replicate len v, vm := .none })) : wp (Jvm.newArray cl len v) P E e d acts U := by
  have n1 : ¬ len > e.platform.arrayLengthLimit := by omega
  have n2 : ¬ len * componentBytes ty > e.platform.maxHeapBytes := by omega
  have all : ((Array.replicate len v).all (·.isDefault)) = true := by
    rw [Array.all_replicate]
    split
    · rfl
    · exact hv
  have quiet : allocActs (Array.replicate len v) U.heap.size acts = acts := if_pos all
  have fit : ∀ (i : Nat) (w : Value), (Array.replicate len v)[i]? = some w → U.fitsSlot cl .none i w = true := fun i w hw => by
    rw [Array.getElem?_replicate] at hw
    by_cases hi : i < len
    · rw [if_pos hi] at hw
      cases hw
      simp [State.fitsSlot, State.slotType?, hk, hkind, hf]
    · rw [if_neg hi] at hw; cases hw
  simp only [Jvm.newArray, Jvm.arrayFits, wp_bind', W.ask, W.ite, n1, if_false, wp_pure', W.theClass, hk, hkind, n2, W.alloc, W.stop, Option.some.injEq, exists_eq_left', Array.size_replicate, quiet]
  rw [if_neg (by omega)]
  exact ⟨by omega, h4, fit, hq⟩

/-- how far the rows have been made: U with its first i rows -/
def rowsTo (p : Program) (l : Launch) (e : Env) (R : Room) (s : State) (m : MethodId) (args : Array Value) (below : List Frame) (meth : Method) (c : Code) (H : Heap) (locs : List Loc) (cells slots : Nat) (vm : Vm) (c8 c0 : ClassId) (n k i : Nat) (U : State) : Prop :=
  (∃ L : List Loc, (∀ x ∈ L, x.base = H.size) ∧ Stand p l e R s m args below meth c U (locs ++ L) (cells + 1 + i) (slots + n + i * k)) ∧ U.vm = vm ∧ U.heap.size = H.size + 1 + i ∧ (∀ q : Nat, q < H.size → U.heap[q]? = H[q]?) ∧
    (∃ a : Array Value, U.heap[H.size]? = some { cls := c8, slots := a, vm := .none } ∧ a.size = n ∧ ∀ j, j < n → a[j]? = some (if j < i then .ref (H.size + 1 + j) else .null)) ∧ ∀ j, j < i → U.heap[H.size + 1 + j]? = some { cls := c0, slots := Array.replicate k (.int 0), vm := .none }
theorem rowsTo_next {vm : Vm} {c8 c0 : ClassId} {n k i : Nat} {U : State} (h : rowsTo p l e R s m args below meth c H locs cells slots vm c8 c0 n k i U) (hi : i < n) :
    ∃ a : Array Value, (U.pushCell { cls := c0, slots := Array.replicate k (.int 0), vm := .none }).heap[H.size]? = some { cls := c8, slots := a, vm := .none } ∧ a.size = n ∧
      rowsTo p l e R s m args below meth c H locs cells slots vm c8 c0 n k (i + 1) ((U.pushCell { cls := c0, slots := Array.replicate k (.int 0), vm := .none }).setCell H.size (({ cls := c8, slots := a, vm := .none } : Cell).setSlot i (.ref U.heap.size))) := by
  obtain ⟨⟨L, hL, X⟩, hvm, hsz, hold, ⟨a, c1, c4, c5⟩, hin⟩ := h
  have hlt : H.size < U.heap.size := by omega
  have hcell : (U.pushCell { cls := c0, slots := Array.replicate k (.int 0), vm := .none }).heap[H.size]? = some { cls := c8, slots := a, vm := .none } := by rw [State.heap_pushCell_of_lt (h := hlt)]; exact c1
  have X1 := (X.pushed { cls := c0, slots := Array.replicate k (.int 0), vm := .none }).stored hcell i (.ref U.heap.size)
  refine ⟨a, hcell, c4, ⟨L ++ [⟨H.size, i⟩], fun x hx => ?_, ?_⟩, hvm, ?_, fun q hq => ?_, ⟨a.setIfInBounds i (.ref U.heap.size), State.heap_setCell_self hcell, ?_, fun j hj => ?_⟩, fun j hj => ?_⟩
  · rcases List.mem_append.mp hx with h1 | h1
    · exact hL x h1
    · rw [List.mem_singleton.mp h1]
  · have e1 : slots + n + (i + 1) * k = slots + n + i * k + k := by rw [Nat.succ_mul]; omega
    rw [← List.append_assoc, e1]
    simpa [Nat.add_assoc] using X1
  · simp [State.setCell, hsz]; omega
  · rw [State.heap_setCell_other (show H.size ≠ q by omega), State.heap_pushCell_of_lt (h := show q < U.heap.size by omega)]
    exact hold q hq
  · simp [c4]
  · rw [Array.getElem?_setIfInBounds]
    by_cases e1 : i = j
    · subst e1
      rw [if_pos rfl, if_pos (by rw [c4]; exact hj), if_pos (by omega), hsz]
    · rw [if_neg e1, c5 j hj]
      by_cases e2 : j < i
      · rw [if_pos e2, if_pos (by omega)]
      · rw [if_neg e2, if_neg (by omega)]
  · rw [State.heap_setCell_other (show H.size ≠ H.size + 1 + j by omega)]
    by_cases e1 : j = i
    · subst e1
      rw [← hsz]
      exact State.heap_pushCell_size _ _
    · rw [State.heap_pushCell_of_lt (h := show H.size + 1 + j < U.heap.size by omega)]
      exact hin j (by omega)
/-- the rows, one behind the other -/
def maF (U0 : State) (h : Nat) (row : Cell) : Nat → State
  | 0 => U0
  | i + 1 => match ((maF U0 h row i).pushCell row).heap[h]? with
    | some co => ((maF U0 h row i).pushCell row).setCell h (co.setSlot i (.ref (maF U0 h row i).heap.size))
    | none => (maF U0 h row i).pushCell row
theorem maF_at {U0 : State} {h : Nat} {row co : Cell} {i : Nat} (hc : ((maF U0 h row i).pushCell row).heap[h]? = some co) : maF U0 h row (i + 1) = ((maF U0 h row i).pushCell row).setCell h (co.setSlot i (.ref (maF U0 h row i).heap.size)) := by
  show (match ((maF U0 h row i).pushCell row).heap[h]? with
    | some co => ((maF U0 h row i).pushCell row).setCell h (co.setSlot i (.ref (maF U0 h row i).heap.size))
    | none => (maF U0 h row i).pushCell row) = _
  rw [hc]
theorem maF_top {U0 : State} {h : Nat} {row : Cell} {f : JFrame} : ∀ i, maF (U0.setTop f) h row i = (maF U0 h row i).setTop f
  | 0 => rfl
  | i + 1 => by
    show (match ((maF (U0.setTop f) h row i).pushCell row).heap[h]? with
      | some co => ((maF (U0.setTop f) h row i).pushCell row).setCell h (co.setSlot i (.ref (maF (U0.setTop f) h row i).heap.size))
      | none => (maF (U0.setTop f) h row i).pushCell row) = (match ((maF U0 h row i).pushCell row).heap[h]? with
      | some co => ((maF U0 h row i).pushCell row).setCell h (co.setSlot i (.ref (maF U0 h row i).heap.size))
      | none => (maF U0 h row i).pushCell row).setTop f
    rw [maF_top i, State.pushCell_setTop, State.heap_setTop, State.heap_setTop]
    cases ((maF U0 h row i).pushCell row).heap[h]? with
    | none => rfl
    | some co => exact State.setCell_setTop _ _ _ _
set_option maxHeartbeats 4000000 in
theorem W_multi {cc : ByteArray} (hexec : p.tables.exec = Jvm.exec) (hb : c.code = cc) {own : String} {index : Nat} {c8 c0 c1 : ClassId} {k8 k0 : Class} (hown : s.vm.findClass own = some m.cls) (hlink : (Cond.classLink own index "[[I").before args s = true) (hf8 : s.vm.findClass "[[I" = some c8) (hk8 : s.vm.classes[c8]? = some k8) (hd8 : k8.kind = .array c0 (.array .int)) (hk0 : s.vm.classes[c0]? = some k0) (hd0 : k0.kind = .array c1 .int)
    {pc : Nat} {ls : Array Slot} {rest : List Value} {n k : Int32} (n' k' : Nat) (hn : ¬ n < 0) (hk : ¬ k < 0) (en : n.toNatClampNeg = n') (ek : k.toNatClampNeg = k') (hb1 : n' * 4 ≤ 536870912) (hb2 : k' * 4 ≤ 536870912) (hcells : cells + (1 + n') ≤ R.cells) (hslots : slots + (n' + n' * k') ≤ R.slots) (hdg : decode cc pc = .ok (.multianewarray index 2, 4))
    (kk : ∀ H1 : Heap, H1.size = H.size + 1 + n' → (∀ q : Nat, q < H.size → H1[q]? = H[q]?) → H1[H.size]? = some (arrV c8 n' (fun j => .ref (H.size + 1 + j))) → (∀ j, j < n' → H1[H.size + 1 + j]? = some (arrV c0 k' (fun _ => .int 0))) → W p l e R s m args below meth c H1 locs (cells + 1 + n') (slots + n' + n' * k') Q (F0 m (pc + 4) ls (.ref H.size :: rest))) :
    W p l e R s m args below meth c H locs cells slots Q (F0 m pc ls (.int k :: .int n :: rest)) := by
  intro T hT X
  subst hb
  subst hT
  have hpl : e.platform.magicAccessors = ({} : Platform).magicAccessors := by rw [X.admits.platform]
  obtain ⟨c9, hc9, hcl⟩ := Cond.classLink_spec hown hlink e.platform hpl
  cases hf8.symm.trans hc9
  obtain ⟨hg1, hw1, hr1⟩ := State.classEntry (e := e) X.warmed hcl
  generalize T.vm.noted m.cls index (.cls c8) = vm1 at hg1 hw1 hr1
  obtain ⟨k8', hk8', e8⟩ := hw1.alike.2.2 _ _ hk8
  obtain ⟨k0', hk0', e0⟩ := hw1.alike.2.2 _ _ hk0
  have hd8' : k8'.kind = .array c0 (.array .int) := by rw [e8]; exact hd8
  have hd0' : k0'.kind = .array c1 .int := by rw [e0]; exact hd0
  have X1 := X.noted hw1
  have lim : 536870912 ≤ e.platform.arrayLengthLimit := by rw [Launch.admits_arrayLengthLimit X.admits]; decide
  have big : e.platform.maxHeapBytes = 536870912 := Launch.admits_maxHeapBytes X.admits
  have start : rowsTo p l e R s m args below meth c T.heap locs cells slots vm1 c8 c0 n' k' 0 ((T.setVm vm1).pushCell { cls := c8, slots := Array.replicate n' .null, vm := .none }) := by
    refine ⟨⟨[], fun x hx => absurd hx (List.not_mem_nil), ?_⟩, rfl, ?_, fun q hq => State.heap_pushCell_of_lt _ _ hq, ⟨_, State.heap_pushCell_size _ _, by simp, fun j hj => by simp [hj]⟩, fun j hj => by omega⟩
    · have := X1.pushed { cls := c8, slots := Array.replicate n' .null, vm := .none }
      simpa using this
    · simp
  -- what the rows come to
  have last : ∀ U, rowsTo p l e R s m args below meth c T.heap locs cells slots vm1 c8 c0 n' k' n' U → ∃ t, Steps p.tables e below (U.setTop (F0 m (pc + 4) ls (.ref T.heap.size :: rest))) t ∧ Q t := by
    rintro U ⟨⟨L, hL, XU⟩, hvm, hsz, hold, ⟨a, c1', c4, c5⟩, hin⟩
    have XU' := XU.dropFresh (fun x hx => by rw [hL x hx]; exact X.heapGrown)
    refine kk U.heap hsz hold ?_ (fun j hj => ?_) U rfl XU'
    · rw [c1']
      congr 1
      show _ = ({ cls := c8, slots := _, vm := .none } : Cell)
      congr 1
      apply Array.ext
      · rw [c4]; simp
      · intro j h1 h2
        have h3 := c5 j (by omega)
        rw [Array.getElem?_eq_getElem h1, if_pos (by omega)] at h3
        rw [Option.some.inj h3]
        simp
    · rw [hin j hj, arrV_new]
  obtain ⟨ra, rb⟩ := X.roomAbove hcells hslots
  have hfind : ([k].find? (· < 0)) = none := by simp [hk]
  generalize hU0 : (T.setVm vm1).pushCell { cls := c8, slots := Array.replicate n' .null, vm := .none } = U0 at start
  have all : ∀ i, i ≤ n' → rowsTo p l e R s m args below meth c T.heap locs cells slots vm1 c8 c0 n' k' i (maF U0 T.heap.size { cls := c0, slots := Array.replicate k' (.int 0), vm := .none } i) := by
    intro i
    induction i with
    | zero => intro _; exact start
    | succ i ih =>
      intro hi
      obtain ⟨a, h1, h2, h3⟩ := rowsTo_next (ih (by omega)) (by omega)
      rw [maF_at h1]
      exact h3
  obtain ⟨t, h1, h2⟩ := last _ (all n' (Nat.le_refl _))
  refine ⟨t, ?_, h2⟩
  have eS : ((T.setTop (F0 m pc ls (.int k :: .int n :: rest))).setVm vm1).setTop (F0 m pc ls rest) = (T.setVm vm1).setTop (F0 m pc ls rest) := by
    show ((T.setVm vm1).setTop _).setTop _ = _
    rw [State.setTop_setTop]
  jvm_step X.here [hexec, hdg]
  simp only [multianewarray.sem, wp_bind', W.resolveClassAt_links (State.method?_setTop (F0 m pc ls (.int k :: .int n :: rest)) X.here.top) hg1]
  rw [W.popN, if_neg (by decide)]
  refine ⟨F0 m pc ls (.int k :: .int n :: rest), State.topJava?_setTop' (s := T.setVm vm1) _ X.here.top, [.int n, .int k], rest, rfl, rfl, ?_⟩
  simp only [List.mapM_cons, List.mapM_nil, wp_bind', wp_pure']
  rw [eS]
  have vmk : ∀ i, i ≤ n' → (maF U0 T.heap.size { cls := c0, slots := Array.replicate k' (.int 0), vm := .none } i).vm = vm1 := fun i hi => (all i hi).2.1
  rw [multianewarray.make]
  simp only [wp_bind', W.ite, hn, if_false, wp_pure', W.theClass]
  refine ⟨k8', hk8', ?_⟩
  rw [hd8']
  simp only [wp_bind', en]
  refine wp_row hk8' hd8' (by omega) (by show n' * 4 ≤ _; omega) rfl rfl (by show T.heap.size + 1 ≤ _; omega) (by show T.slotsUsed + n' ≤ _; omega) ?_
  rw [State.pushCell_setTop, hU0]
  simp only [hfind]
  rw [ite_self, wp_bind', Std.Legacy.Range.forIn_eq_forIn_range']
  have hsz : ([:n'] : Std.Legacy.Range).size = n' := by simp [Std.Legacy.Range.size]
  rw [hsz]
  show wp (forIn (List.range' 0 n' 1) PUnit.unit _) _ _ e _ _ _
  refine wp_forIn_inv (fun rs s' => ∃ i, i ≤ n' ∧ rs = List.range' i (n' - i) ∧ s' = (maF U0 T.heap.size { cls := c0, slots := Array.replicate k' (.int 0), vm := .none } i).setTop (F0 m pc ls rest)) _ _ ⟨0, Nat.zero_le _, rfl, rfl⟩ ?_ ?_
  · rintro x rs s' d' acts' Q' ⟨i, hi, hl, rfl⟩ hnext
    have hlt : i < n' := by
      rcases Nat.lt_or_ge i n' with h | h
      · exact h
      · rw [show n' - i = 0 from by omega] at hl; cases hl
    obtain ⟨rfl, hrs⟩ : x = i ∧ rs = List.range' (i + 1) (n' - (i + 1)) := by
      rw [show n' - i = (n' - (i + 1)) + 1 from by omega, List.range'_succ] at hl
      exact ⟨(List.cons.inj hl).1, (List.cons.inj hl).2⟩
    have hU := all x hi
    obtain ⟨a, a1, a2, a3⟩ := rowsTo_next hU hlt
    obtain ⟨⟨L, hL, XU⟩, hvm, hsz', -, -, -⟩ := hU
    have hk0U : (maF U0 T.heap.size { cls := c0, slots := Array.replicate k' (.int 0), vm := .none } x).vm.classes[c0]? = some k0' := by rw [hvm]; exact hk0'
    have hmul : x * k' + k' ≤ n' * k' := by
      have := Nat.mul_le_mul_right k' (show x + 1 ≤ n' from hlt)
      rw [Nat.succ_mul] at this; exact this
    obtain ⟨rc, rd⟩ := XU.roomAbove (a := 1) (b := k') (by omega) (by omega)
    simp only [wp_bind']
    rw [multianewarray.make]
    simp only [wp_bind', W.ite, hk, if_false, wp_pure', W.theClass]
    refine ⟨k0', hk0U, ?_⟩
    rw [hd0']
    simp only [ek]
    refine wp_row (v := defaultValue .int) (U := (maF U0 T.heap.size { cls := c0, slots := Array.replicate k' (.int 0), vm := .none } x).setTop (F0 m pc ls rest)) hk0U hd0' (by omega) (by show k' * 4 ≤ _; omega) rfl rfl rc rd ?_
    rw [State.pushCell_setTop]
    simp only [wp_bind', W.writeLoc, wp_pure', State.heap_setTop]
    refine ⟨_, a1, by simp, by show x < a.size; omega, ?_, ?_⟩
    · have hk8U : (maF U0 T.heap.size { cls := c0, slots := Array.replicate k' (.int 0), vm := .none } x).vm.classes[c8]? = some k8' := by rw [hvm]; exact hk8'
      simp [State.fitsSlot, State.slotType?, hk8U, hd8', fits, FieldType.isReference]
    · refine hnext _ _ _ ⟨x + 1, hlt, hrs, ?_⟩
      rw [maF_at a1]
      exact State.setCell_setTop _ _ _ _
  · rintro s' d' acts' ⟨i, hi, hl, rfl⟩
    have hiN : i = n' := by
      rcases Nat.lt_or_ge i n' with h | h
      · rw [show n' - i = (n' - (i + 1)) + 1 from by omega, List.range'_succ] at hl; cases hl
      · omega
    subst hiN
    have XF := (all i (Nat.le_refl _)).1
    obtain ⟨L, -, XF⟩ := XF
    simp only [wp_pure', wp_bind', W.mark, W.pushRef]
    refine ⟨_, State.topJava?_setTop' _ XF.here.top, fun acts => ?_⟩
    rw [State.setTop_setTop]
    simp [jvm, XF.here.top]
    exact h1
theorem arrV_cong {cA : ClassId} {n : Nat} {f g : Nat → Value} (h : ∀ j, j < n → f j = g j) : arrV cA n f = arrV cA n g := by
  unfold arrV
  congr 1
  apply Array.ext
  · simp
  · intro j h1 h2
    simp only [Array.getElem_ofFn]
    exact h j (by simpa using h1)
theorem RA_arr {U : State} {cA : ClassId} (h : va_RA U cA (.array .int)) : U.vm.findClass "[[I" = some cA := h
/-- rows of rows -/
theorem g_multi {D : va_G} {cyf : Nat → ClassId} {mi : Ki} {C S : Nat} {Φ : va_W → Prop} {pc : Nat} {lv : List (Nat × Value)} {rest : List Value} {ws : va_W} {cu su : Nat} {index : Nat} (hcl : Cond.classLink mi.1 index "[[I" ∈ lwG) {n k : Int32} (n' k' : Nat) (hn : ¬ n < 0) (hk : ¬ k < 0) (en : n.toNatClampNeg = n') (ek : k.toNatClampNeg = k') (hb1 : n' * 4 ≤ 536870912) (hb2 : k' * 4 ≤ 536870912) (cu' su' : Nat) (hcu : cu + 1 + n' = cu') (hsu : su + n' + n' * k' = su') (hC : cu' ≤ C) (hSl : su' ≤ S) (hd : decode mi.2.1 pc = .ok (.multianewarray index 2, 4))
    (h : ∀ q, GG l D cyf mi C S Φ (pc + 4) lv (.ref q :: rest) (ws ++ ((q, .inl (cyf 8, mref n' (fun j => q + 1 + j))) :: (List.range n').map (fun j => (q + 1 + j, (Sum.inl (cyf 0, k', .inl (fun _ => 0)) : va_E))))) cu' su') : GG l D cyf mi C S Φ pc lv (.int k :: .int n :: rest) ws cu su := by
  intro p e Rm s m args below meth c A Q K H locs ls hP hD hS hl kr
  have hrm := K.2.2.2.2.2.1
  subst hcu hsu
  have hK := K.2.2.2.2.2.2.2.1
  obtain ⟨k8, hk8, hd8⟩ := K.2.2.2.2.2.2.1.2.1
  have hA0 := (hK.2 0 _ rfl).1 0 (fun _ => .int 0)
  obtain ⟨-, k0, hk0, c1, hd0⟩ := hA0
  refine W_multi (H := H) K.1 K.2.1 K.2.2.2.1 (K.2.2.2.2.1 _ hcl) (RA_arr (hK.2 8 _ rfl).2) hk8 hd8 hk0 hd0 n' k' hn hk en ek hb1 hb2 (by omega) (by omega) hd (fun H1 hsz hold h8 hin => ?_)
  have hk : ∀ (k : Nat) (x : Nat × va_E), ws[k]? = some x → H1[x.1]? = H[x.1]? := fun k x hx => hold x.1 ((hP k x hx).lt)
  have at' : ∀ (k : Nat) (x : Nat × va_E), (((H.size, .inl (cyf 8, mref n' (fun j => H.size + 1 + j))) :: (List.range n').map (fun j => (H.size + 1 + j, (Sum.inl (cyf 0, k', .inl (fun _ => 0)) : va_E)))) : va_W)[k]? = some x → (k = 0 ∧ x = (H.size, .inl (cyf 8, mref n' (fun j => H.size + 1 + j)))) ∨ (1 ≤ k ∧ k - 1 < n' ∧ x = (H.size + k, .inl (cyf 0, k', .inl (fun _ => 0)))) := by
    intro k x hx
    cases k with
    | zero => left; exact ⟨rfl, (Option.some.inj hx).symm⟩
    | succ k =>
      right
      rw [List.getElem?_cons_succ, List.getElem?_map] at hx
      cases hr : (List.range n')[k]? with
      | none => rw [hr] at hx; cases hx
      | some j =>
        rw [hr] at hx
        obtain ⟨h1, h2⟩ := List.getElem?_eq_some_iff.mp hr
        rw [List.getElem_range] at h2
        rw [List.length_range] at h1
        have hx' := (Option.some.inj hx).symm
        exact ⟨by omega, by omega, by
          rw [hx', ← h2]
          show (H.size + 1 + k, _) = (H.size + (k + 1), _)
          rw [show H.size + 1 + k = H.size + (k + 1) by omega]⟩
  have szk : ∀ (k : Nat) (x : Nat × va_E), (((H.size, .inl (cyf 8, mref n' (fun j => H.size + 1 + j))) :: (List.range n').map (fun j => (H.size + 1 + j, (Sum.inl (cyf 0, k', .inl (fun _ => 0)) : va_E)))) : va_W)[k]? = some x → x.1 = H.size + k := by
    intro k x hx
    rcases at' k x hx with ⟨rfl, rfl⟩ | ⟨_, _, rfl⟩ <;> rfl
  refine h H.size p e Rm s m args below meth c A Q K H1 locs ls ((hP.kept hk).app (fun k x hx => ?_)) (hD.app ⟨fun i j a b hi hj hab => ?_, fun k x hx => ?_⟩ (fun i j a b hi hj hab => ?_)) ⟨Nat.le_trans hS.1 (by omega), fun x h1 h2 => (hold x (Nat.lt_of_lt_of_le h1 hS.1)).trans (hS.2.1 x h1 h2), hS.2.2⟩ hl kr
  · rcases at' k x hx with ⟨rfl, rfl⟩ | ⟨h1, h2, rfl⟩
    · exact h8
    · show H1[H.size + k]? = _
      have := hin (k - 1) h2
      rw [show H.size + 1 + (k - 1) = H.size + k by omega] at this
      exact this
  · rw [szk i a hi, szk j b hj] at hab; omega
  · rw [szk k x hx]
    exact K.2.2.2.2.2.2.2.2.1 _ (Nat.le_trans hS.1 (by omega))
  · have h1 := (hP i a hi).lt
    rw [hab, szk j b hj] at h1
    omega
end Multi
