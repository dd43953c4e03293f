/-! constructors -/
abbrev tysC (cyf : Nat → ClassId) : List (ClassId × FieldType) := [(cyf 0, .int), (cyf 1, .byte), (cyf 2, .long), (cyf 3, .object "PaneOrder$Row"), (cyf 4, .object "PaneOrder$Text"), (cyf 5, .object "PaneOrder$Screen"), (cyf 6, .object "PaneOrder$Deeds"), (cyf 7, .object "PaneOrder$Pane"), (cyf 8, .array .int)]
def MA (cyf : Nat → ClassId) (s : State) : Prop := ∃ kA : Class, s.vm.classes[cyf 8]? = some kA ∧ kA.kind = .array (cyf 0) (.array .int)
theorem MA.moved {cyf : Nat → ClassId} {u U : State} (hvm : u.vm.Alike U.vm) (h : MA cyf u) : MA cyf U := by
  obtain ⟨k, h1, h2⟩ := h
  obtain ⟨k', h3, h4⟩ := hvm.2.2 _ _ h1
  exact ⟨k', h3, by rw [h4]; exact h2⟩
def aos : List String := [RX3, RX5, RX4, RX1, RX2]
def nests : List (String × Nat × MethodName) := [(RX4, 21, yX2_init), (RX7, 30, yX1_init), (RX7, 48, yX0_init), (RX7, 55, yX6_init), (RX7, 83, yX3_init), (RX7, 84, yX5_init)]
/-- what the tables say of arrays and of nests, and is carried along -/
def XC (cyf : Nat → ClassId) (s : State) : Prop := (∀ C ∈ aos, va_AO C s) ∧ MA cyf s ∧ ∀ q ∈ nests, va_Nw (.methodLinkNest q.1 q.2.1 q.2.2 RX7) s
theorem XC.warm {cyf : Nat → ClassId} {s U : State} (h : XC cyf s) (hW : s.WarmedH U.vm) : XC cyf U := ⟨fun C hC => va_AO.moved hW.alike (h.1 C hC), h.2.1.moved hW.alike, fun q hq => va_Nw.warmM hW (h.2.2 q hq)⟩
theorem XC.blind {cyf : Nat → ClassId} {s U : State} (h : XC cyf s) (hv : s.vm = U.vm) : XC cyf U := ⟨fun C hC => va_AO.moved (by rw [hv]; exact Vm.Alike.refl _) (h.1 C hC), h.2.1.moved (by rw [hv]; exact Vm.Alike.refl _), fun q hq => va_Nw.same rfl hv (h.2.2 q hq)⟩
/-- class, code, locals, depth -/
abbrev Ki : Type := String × ByteArray × Nat × Nat
def Kx (D : va_G) (cyf : Nat → ClassId) (mi : Ki) (p : Program) (Rm : Room) (s : State) (m : MethodId) (args : Array Value) (meth : Method) (c : Code) (A : Nat → Prop) (C S : Nat) : Prop :=
  p.tables.exec = Jvm.exec ∧ c.code = mi.2.1 ∧ c.maxLocals = mi.2.2.1 ∧ s.vm.findClass mi.1 = some m.cls ∧ (∀ w ∈ lwG, w.before args s = true) ∧ (mi.2.2.2 ≤ Rm.frames ∧ 36 * mi.2.2.2 ≤ Rm.locals ∧ C ≤ Rm.cells ∧ S ≤ Rm.slots) ∧ XC cyf s ∧ va_K D vwCl (tysC cyf) s ∧ (∀ q, s.heap.size ≤ q → A q) ∧ meth.name = "<init>"
/-- from pc with these locals, this stack, this world the constructor comes to its end with a world of the kind Φ -/
def GG (l : Launch) (D : va_G) (cyf : Nat → ClassId) (mi : Ki) (C S : Nat) (Φ : va_W → Prop) (pc : Nat) (lv : List (Nat × Value)) (st : List Value) (ws : va_W) (cu su : Nat) : Prop :=
  ∀ (p : Program) (e : Env) (Rm : Room) (s : State) (m : MethodId) (args : Array Value) (below : List Frame) (meth : Method) (c : Code) (A : Nat → Prop) (Q : State → Prop), Kx D cyf mi p Rm s m args meth c A C S → ∀ (H : Heap) (locs : List Loc) (ls : Array Slot), va_P D vwCl ws H → va_D A ws → va_S A s.heap H locs → lv_has ls mi.2.2.1 lv →
    (∀ (H' : Heap) (locs' : List Loc) (pc' : Nat) (ls' : Array Slot) (ws' : va_W), Φ ws' → va_P D vwCl ws' H' → va_D A ws' → va_S A s.heap H' locs' → decode mi.2.1 pc' = .ok (.return_, 1) → W p l e Rm s m args below meth c H' locs' C S Q (F0 m pc' ls' [])) →
    W p l e Rm s m args below meth c H locs cu su Q (F0 m pc ls st)
theorem RA_name {U : State} {cA : ClassId} {ty : FieldType} (h : va_RA U cA ty) : U.vm.findClass ("[" ++ ty.toString) = some cA := by
  cases ty <;> first | exact h | (obtain ⟨_, _, _, _, _, h⟩ := h; exact h)
section G
variable {l : Launch} {D : va_G} {cyf : Nat → ClassId} {mi : Ki} {C S : Nat} {Φ : va_W → Prop} {pc : Nat} {lv : List (Nat × Value)} {rest : List Value} {ws : va_W} {cu su : Nat}
theorem g_ret (hd : decode mi.2.1 pc = .ok (.return_, 1)) (h : Φ ws) : GG l D cyf mi C S Φ pc lv [] ws C S :=
  fun p e Rm s m args below meth c A Q K H locs ls hP hD hS hl kr => kr H locs pc ls ws h hP hD hS hd
theorem g_aload (q : Nat) {k : Fin 4} {i x : Nat} (hd : decode mi.2.1 pc = .ok (.aload_n k, 1)) (hi : (k : Nat) = i) (hq : lv[q]? = some (i, .ref x)) (h : GG l D cyf mi C S Φ (pc + 1) lv (.ref x :: rest) ws cu su) : GG l D cyf mi C S Φ pc lv rest ws cu su :=
  fun p e Rm s m args below meth c A Q K H locs ls hP hD hS hl kr => lv_aload_n K.1 K.2.1 hd hi (lv_at hl q hq) (h p e Rm s m args below meth c A Q K H locs ls hP hD hS hl kr)
theorem g_iload (q : Nat) {k : Fin 4} {i : Nat} {x : Int32} (hd : decode mi.2.1 pc = .ok (.iload_n k, 1)) (hi : (k : Nat) = i) (hq : lv[q]? = some (i, .int x)) (h : GG l D cyf mi C S Φ (pc + 1) lv (.int x :: rest) ws cu su) : GG l D cyf mi C S Φ pc lv rest ws cu su :=
  fun p e Rm s m args below meth c A Q K H locs ls hP hD hS hl kr => lv_iload_n K.1 K.2.1 hd hi (lv_at hl q hq) (h p e Rm s m args below meth c A Q K H locs ls hP hD hS hl kr)
theorem g_iconst {n : Int} (v : Int32) (hd : decode mi.2.1 pc = .ok (.iconst n, 1)) (hv : Int32.ofInt n = v) (h : GG l D cyf mi C S Φ (pc + 1) lv (.int v :: rest) ws cu su) : GG l D cyf mi C S Φ pc lv rest ws cu su :=
  fun p e Rm s m args below meth c A Q K H locs ls hP hD hS hl kr => lv_iconst K.1 K.2.1 hd hv (h p e Rm s m args below meth c A Q K H locs ls hP hD hS hl kr)
theorem g_bipush {n : Int} (v : Int32) (hd : decode mi.2.1 pc = .ok (.bipush n, 2)) (hv : (Int8.ofInt n).toInt32 = v) (h : GG l D cyf mi C S Φ (pc + 2) lv (.int v :: rest) ws cu su) : GG l D cyf mi C S Φ pc lv rest ws cu su :=
  fun p e Rm s m args below meth c A Q K H locs ls hP hD hS hl kr => lv_bipush K.1 K.2.1 hd hv (h p e Rm s m args below meth c A Q K H locs ls hP hD hS hl kr)
theorem g_sipush {n : Int} (v : Int32) (hd : decode mi.2.1 pc = .ok (.sipush n, 3)) (hv : (Int16.ofInt n).toInt32 = v) (h : GG l D cyf mi C S Φ (pc + 3) lv (.int v :: rest) ws cu su) : GG l D cyf mi C S Φ pc lv rest ws cu su :=
  fun p e Rm s m args below meth c A Q K H locs ls hP hD hS hl kr => lv_sipush K.1 K.2.1 hd hv (h p e Rm s m args below meth c A Q K H locs ls hP hD hS hl kr)
theorem g_lconst {n : Fin 2} (v : Int64) (hd : decode mi.2.1 pc = .ok (.lconst n, 1)) (hv : Int64.ofNat (n : Nat) = v) (h : GG l D cyf mi C S Φ (pc + 1) lv (.long v :: rest) ws cu su) : GG l D cyf mi C S Φ pc lv rest ws cu su :=
  fun p e Rm s m args below meth c A Q K H locs ls hP hD hS hl kr => lv_lconst K.1 K.2.1 hd hv (h p e Rm s m args below meth c A Q K H locs ls hP hD hS hl kr)
theorem g_istore {k : Fin 4} {i : Nat} {x : Int32} (lv' : List (Nat × Value)) (hd : decode mi.2.1 pc = .ok (.istore_n k, 1)) (hi : (k : Nat) = i) (hn : i < mi.2.2.1) (hl' : (i, Value.int x) :: lv.filter (fun q => !(q.1 == i) && !(q.1 + 1 == i && q.2.category == 2)) = lv') (h : GG l D cyf mi C S Φ (pc + 1) lv' rest ws cu su) : GG l D cyf mi C S Φ pc lv (.int x :: rest) ws cu su :=
  fun p e Rm s m args below meth c A Q K H locs ls hP hD hS hl kr => lv_istore_n K.1 K.2.1 hd hi hl hn hl' (fun ls' hl2 => h p e Rm s m args below meth c A Q K H locs ls' hP hD hS hl2 kr)
theorem g_iinc (q : Nat) {i : Nat} {n : Int} {x : Int32} (v : Int32) (lv' : List (Nat × Value)) (hd : decode mi.2.1 pc = .ok (.iinc i n, 3)) (hq : lv[q]? = some (i, .int x)) (hv : x + Int32.ofInt n = v) (hn : i < mi.2.2.1) (hl' : (i, Value.int v) :: lv.filter (fun q => !(q.1 == i) && !(q.1 + 1 == i && q.2.category == 2)) = lv') (h : GG l D cyf mi C S Φ (pc + 3) lv' rest ws cu su) : GG l D cyf mi C S Φ pc lv rest ws cu su :=
  fun p e Rm s m args below meth c A Q K H locs ls hP hD hS hl kr => lv_iinc K.1 K.2.1 hd hl hq hv hn hl' (fun ls' hl2 => h p e Rm s m args below meth c A Q K H locs ls' hP hD hS hl2 kr)
theorem g_goto {off : Int} (tgt : Nat) (hd : decode mi.2.1 pc = .ok (.goto off, 3)) (ht : (pc : Int) + off = (tgt : Int)) (h : GG l D cyf mi C S Φ tgt lv rest ws cu su) : GG l D cyf mi C S Φ pc lv rest ws cu su :=
  fun p e Rm s m args below meth c A Q K H locs ls hP hD hS hl kr => lv_goto K.1 K.2.1 hd ht (h p e Rm s m args below meth c A Q K H locs ls hP hD hS hl kr)
theorem g_ge_t {x y : Int32} {off : Int} (tgt : Nat) (hd : decode mi.2.1 pc = .ok (.if_icmp .ge off, 3)) (ht : (pc : Int) + off = (tgt : Int)) (hc : y ≤ x) (h : GG l D cyf mi C S Φ tgt lv rest ws cu su) : GG l D cyf mi C S Φ pc lv (.int y :: .int x :: rest) ws cu su :=
  fun p e Rm s m args below meth c A Q K H locs ls hP hD hS hl kr => lv_icmp_ge K.1 K.2.1 hd ht (fun _ => h p e Rm s m args below meth c A Q K H locs ls hP hD hS hl kr) (fun h9 => absurd hc h9)
theorem g_ge_f {x y : Int32} {off : Int} (tgt : Nat) (hd : decode mi.2.1 pc = .ok (.if_icmp .ge off, 3)) (ht : (pc : Int) + off = (tgt : Int)) (hc : ¬ y ≤ x) (h : GG l D cyf mi C S Φ (pc + 3) lv rest ws cu su) : GG l D cyf mi C S Φ pc lv (.int y :: .int x :: rest) ws cu su :=
  fun p e Rm s m args below meth c A Q K H locs ls hP hD hS hl kr => lv_icmp_ge K.1 K.2.1 hd ht (fun h9 => absurd h9 hc) (fun _ => h p e Rm s m args below meth c A Q K H locs ls hP hD hS hl kr)
theorem g_obj {x idx : Nat} (hlink : Cond.methodLink mi.1 idx Lib.objectInit ∈ lwG) (hinst : Cond.instanceMethod Lib.objectInit ∈ lwG) (hcode : Cond.code Lib.objectInit ⟨#[0xb1]⟩ 1 none ∈ lwG) (hr : 1 ≤ mi.2.2.2) (hd : decode mi.2.1 pc = .ok (.invokespecial idx, 3)) (h : GG l D cyf mi C S Φ (pc + 3) lv [] ws cu su) : GG l D cyf mi C S Φ pc lv [.ref x] ws cu su :=
  fun p e Rm s m args below meth c A Q K H locs ls hP hD hS hl kr => by
    have hrm := K.2.2.2.2.2.1
    exact W.objInit K.1 K.2.1 K.2.2.2.1 (K.2.2.2.2.1 _ hlink) (K.2.2.2.2.1 _ hinst) (K.2.2.2.2.1 _ hcode) rfl (by rw [K.2.2.1]; exact hl.1) rfl hd (Nat.le_trans hr hrm.1) (by show 2 * 0 + 0 + 12 ≤ Rm.locals; omega) (h p e Rm s m args below meth c A Q K H locs ls hP hD hS hl kr)
theorem g_get {ci N index a : Nat} {C0 : String} {T : u_T} (q0 k : Nat) {fs : List Value} {v : Value} (he : ws[q0]? = some (a, .inr (ci, fs))) (hc : vwCl[ci]? = some (C0, T, N)) (hin : ∀ w ∈ u_ws C0 T N, w ∈ lwG) (hk : k < N) (hw : Cond.fieldLink mi.1 index (T k).1 (T k).2.1 (T k).2.2.1 ∈ lwG) (hv : fs[k]? = some v) (hd : decode mi.2.1 pc = .ok (.getfield index, 3)) (h : GG l D cyf mi C S Φ (pc + 3) lv (v :: rest) ws cu su) : GG l D cyf mi C S Φ pc lv (.ref a :: rest) ws cu su :=
  fun p e Rm s m args below meth c A Q K H locs ls hP hD hS hl kr => va_get K.1 K.2.1 K.2.2.2.2.1 hin K.2.2.2.1 K.2.2.2.2.2.2.2.1 hP q0 he hc k hk (K.2.2.2.2.1 _ hw) (fun _ h9 => h9) hv hd (h p e Rm s m args below meth c A Q K H locs ls hP hD hS hl kr)
theorem g_put {ci N index a : Nat} {C0 : String} {T : u_T} {ty0 : Nat → FieldType} (q0 k : Nat) {fs : List Value} {v : Value} {ty : FieldType} (ws' : va_W) (he : ws[q0]? = some (a, .inr (ci, fs))) (hc : vwCl[ci]? = some (C0, T, N)) (hin : ∀ w ∈ u_ws C0 T N, w ∈ lwG) (hty : ∀ k, k < N → parseFieldDescriptor (T k).2.2.1 = some (ty0 k)) (hnm : ∀ a, a < N → ∀ b, b < N → a ≠ b → (T a).2.1 ≠ (T b).2.1) (hk : k < N) (hw : Cond.fieldLink mi.1 index (T k).1 (T k).2.1 (T k).2.2.1 ∈ lwG) (hfin : (T k).2.2.2 = false) (hdsc : parseFieldDescriptor (T k).2.2.1 = some ty) (hn : narrow ty v = v) (hfit : fits ty v = true) (hlen : k < fs.length) (hws : ws.set q0 (a, .inr (ci, fs.set k v)) = ws') (hd : decode mi.2.1 pc = .ok (.putfield index, 3)) (h : GG l D cyf mi C S Φ (pc + 3) lv rest ws' cu su) : GG l D cyf mi C S Φ pc lv (v :: .ref a :: rest) ws cu su :=
  fun p e Rm s m args below meth c A Q K H locs ls hP hD hS hl kr => va_put K.1 K.2.1 K.2.2.2.2.1 hin ty0 hty hnm K.2.2.2.1 K.2.2.2.2.2.2.2.1 hP hD hS q0 he hc k hk (K.2.2.2.2.1 _ hw) (fun _ h9 => h9) hfin hdsc hn hfit hlen hd (fun H1 locs1 hP1 hD1 hS1 => by
    rw [hws] at hP1 hD1
    exact h p e Rm s m args below meth c A Q K H1 locs1 ls hP1 hD1 hS1 hl kr)
theorem g_putF {ci N index a : Nat} {C0 : String} {T : u_T} {ty0 : Nat → FieldType} (q0 k : Nat) {fs : List Value} {v : Value} {ty : FieldType} (ws' : va_W) (he : ws[q0]? = some (a, .inr (ci, fs))) (hc : vwCl[ci]? = some (C0, T, N)) (hin : ∀ w ∈ u_ws C0 T N, w ∈ lwG) (hty : ∀ k, k < N → parseFieldDescriptor (T k).2.2.1 = some (ty0 k)) (hnm : ∀ a, a < N → ∀ b, b < N → a ≠ b → (T a).2.1 ≠ (T b).2.1) (hk : k < N) (hw : Cond.fieldLink mi.1 index (T k).1 (T k).2.1 (T k).2.2.1 ∈ lwG) (hfin : (T k).2.2.2 = true) (hdecl : (T k).1 = mi.1) (hdsc : parseFieldDescriptor (T k).2.2.1 = some ty) (hn : narrow ty v = v) (hfit : fits ty v = true) (hlen : k < fs.length) (hws : ws.set q0 (a, .inr (ci, fs.set k v)) = ws') (hd : decode mi.2.1 pc = .ok (.putfield index, 3)) (h : GG l D cyf mi C S Φ (pc + 3) lv rest ws' cu su) : GG l D cyf mi C S Φ pc lv (v :: .ref a :: rest) ws cu su :=
  fun p e Rm s m args below meth c A Q K H locs ls hP hD hS hl kr => va_putF K.1 K.2.1 K.2.2.2.2.1 hin ty0 hty hnm K.2.2.2.1 K.2.2.2.2.2.2.2.1 hP hD hS q0 he hc k hk (K.2.2.2.2.1 _ hw) (fun _ h9 => h9) hfin K.2.2.2.2.2.2.2.2.2 hdecl hdsc hn hfit hlen hd (fun H1 locs1 hP1 hD1 hS1 => by
    rw [hws] at hP1 hD1
    exact h p e Rm s m args below meth c A Q K H1 locs1 ls hP1 hD1 hS1 hl kr)
theorem g_newa {atype : ArrayType} (t0 : Nat) {ty : FieldType} (hty : newarray.typeOf atype = ty) (ht : (tysC cyf)[t0]? = some (cyf t0, ty)) (harr : Cond.arrayClass ty ∈ lwG) {n : Int32} {N' : Nat} {a0 : vp_A} (ha : ∀ cA : ClassId, vp_cell cA a0 = arrV cA N' (fun _ => defaultValue ty)) (hn : ¬ n < 0) (hN : n.toNatClampNeg = N') (hbytes : N' * componentBytes ty ≤ 536870912) (cu' su' : Nat) (hcu : cu + 1 = cu') (hsu : su + N' = su') (hC : cu' ≤ C) (hSl : su' ≤ S) (hd : decode mi.2.1 pc = .ok (.newarray atype, 2)) (h : ∀ q, GG l D cyf mi C S Φ (pc + 2) lv (.ref q :: rest) (ws ++ [(q, .inl (cyf t0, a0))]) cu' su') : GG l D cyf mi C S Φ pc lv (.int n :: rest) ws cu su := by
  intro p e Rm s m args below meth c A Q K H locs ls hP hD hS hl kr
  have hrm := K.2.2.2.2.2.1
  subst hcu hsu
  have hK := K.2.2.2.2.2.2.2.1
  refine va_newa (atype := atype) K.1 K.2.1 (by rw [hty]; exact K.2.2.2.2.1 _ harr) hty hK hP hD hS K.2.2.2.2.2.2.2.2.1 ha hn hN hbytes (Nat.le_trans hC hrm.2.2.1) (Nat.le_trans hSl hrm.2.2.2) hd (fun q cA H1 hK1 hP1 hD1 hS1 => ?_)
  have e1 : cA = cyf t0 := Option.some.inj ((RA_name (hK1.2 9 (cA, ty) rfl).2).symm.trans (RA_name (hK.2 t0 (cyf t0, ty) ht).2))
  subst e1
  exact h q p e Rm s m args below meth c A Q K H1 locs ls hP1 hD1 hS1 hl kr
theorem g_anew (t0 : Nat) {C0 : String} {index : Nat} (ht : (tysC cyf)[t0]? = some (cyf t0, .object C0)) (hao : C0 ∈ aos) (hcl : Cond.classLink mi.1 index C0 ∈ lwG) {n : Int32} (N' : Nat) (hn : ¬ n < 0) (hN : n.toNatClampNeg = N') (hbytes : N' * 4 ≤ 536870912) (cu' su' : Nat) (hcu : cu + 1 = cu') (hsu : su + N' = su') (hC : cu' ≤ C) (hSl : su' ≤ S) (hd : decode mi.2.1 pc = .ok (.anewarray index, 3)) (h : ∀ q, GG l D cyf mi C S Φ (pc + 3) lv (.ref q :: rest) (ws ++ [(q, .inl (cyf t0, N', .inr (.inr (.inr (.inr (fun _ => none))))))]) cu' su') : GG l D cyf mi C S Φ pc lv (.int n :: rest) ws cu su := by
  intro p e Rm s m args below meth c A Q K H locs ls hP hD hS hl kr
  have hrm := K.2.2.2.2.2.1
  subst hcu hsu
  have hK := K.2.2.2.2.2.2.2.1
  refine va_newq K.1 K.2.1 K.2.2.2.1 (K.2.2.2.2.1 _ hcl) (K.2.2.2.2.2.2.1.1 C0 hao) hK hP hD hS K.2.2.2.2.2.2.2.2.1 hn hN hbytes (Nat.le_trans hC hrm.2.2.1) (Nat.le_trans hSl hrm.2.2.2) hd (fun q cA H1 hK1 hP1 hD1 hS1 => ?_)
  have e1 : cA = cyf t0 := Option.some.inj ((RA_name (hK1.2 9 (cA, .object C0) rfl).2).symm.trans (RA_name (hK.2 t0 (cyf t0, .object C0) ht).2))
  subst e1
  exact h q p e Rm s m args below meth c A Q K H1 locs ls hP1 hD1 hS1 hl kr
theorem g_aast (q0 t0 qk ci : Nat) {a v n : Nat} {r : vw_C} {vs : List Value} {f : Nat → Option Nat} {i : Int32} (ws' : va_W) (ha : ws[q0]? = some (a, .inl (cyf t0, n, .inr (.inr (.inr (.inr f)))))) (ht : (tysC cyf)[t0]? = some (cyf t0, .object r.1)) (hv : ws[qk]? = some (v, .inr (ci, vs))) (hc : vwCl[ci]? = some r) (hin : vp_in i n) (hws : ws.set q0 (a, .inl (cyf t0, n, .inr (.inr (.inr (.inr (va_up f i.toNatClampNeg (some v))))))) = ws') (hd : decode mi.2.1 pc = .ok (.aastore, 1)) (h : GG l D cyf mi C S Φ (pc + 1) lv rest ws' cu su) : GG l D cyf mi C S Φ pc lv (.ref v :: .int i :: .ref a :: rest) ws cu su :=
  fun p e Rm s m args below meth c A Q K H locs ls hP hD hS hl kr => va_astq K.1 K.2.1 K.2.2.2.2.2.2.2.1 hP hD hS q0 t0 qk ci ha ht hv hc hin hd (fun H1 locs1 hP1 hD1 hS1 => by
    rw [hws] at hP1 hD1
    exact h p e Rm s m args below meth c A Q K H1 locs1 ls hP1 hD1 hS1 hl kr)
theorem g_iast (q0 : Nat) {a n : Nat} {f : Nat → Int32} {i x : Int32} (ws' : va_W) (ha : ws[q0]? = some (a, .inl (cyf 0, n, .inl f))) (hin : vp_in i n) (hws : ws.set q0 (a, .inl (cyf 0, n, .inl (upd f i.toNatClampNeg x))) = ws') (hd : decode mi.2.1 pc = .ok (.iastore, 1)) (h : GG l D cyf mi C S Φ (pc + 1) lv rest ws' cu su) : GG l D cyf mi C S Φ pc lv (.int x :: .int i :: .ref a :: rest) ws cu su :=
  fun p e Rm s m args below meth c A Q K H locs ls hP hD hS hl kr => va_iast K.1 K.2.1 K.2.2.2.2.2.2.2.1 hP hD hS q0 0 ha rfl hin hd (fun H1 locs1 hP1 hD1 hS1 => by
    rw [hws] at hP1 hD1
    exact h p e Rm s m args below meth c A Q K H1 locs1 ls hP1 hD1 hS1 hl kr)
end G
