section Make
variable {l : Launch} {D : va_G} {cyf : Nat → ClassId}
abbrev rmC (d C S : Nat) : Room := { frames := d, cells := C, slots := S, locals := 36 * d }
def PcC (D : va_G) (cyf : Nat → ClassId) (h : Nat) (e0 : va_E) (sz : Nat) : Array Value → State → Prop := va_Pc [.ref h] (fun U => U.heap.size = sz ∧ va_P D vwCl [(h, e0)] U.heap ∧ va_K D vwCl (tysC cyf) U ∧ va_D (fun _ => True) [(h, e0)] ∧ XC cyf U)
abbrev QcC (D : va_G) (h : Nat) (e0 : va_E) (sz : Nat) (Φ : va_W → Prop) : Array Value → State → Outcome → State → Prop := va_Qv Φ (fun wn t => va_P D vwCl wn t.heap ∧ va_D (va_A [(h, e0)] sz) wn) (va_A [(h, e0)] sz)
theorem PcC_blind (h : Nat) (e0 : va_E) (sz : Nat) : FrameBlind (PcC D cyf h e0 sz) := by
  intro a U g mk hq
  obtain ⟨q0, q1, qP, qK, qD, qX⟩ := hq
  exact ⟨q0, q1, qP, va_K.moved (u := U) (U := U.calling g mk a) (Vm.Alike.refl U.vm) qK, qD, qX.blind (U := U.calling g mk a) rfl⟩
theorem met_C {y : MethodName} {cc : ByteArray} {nL d C S h : Nat} {e0 : va_E} {Φ : va_W → Prop} (hy : plainName y.cls = true) (hyn : y.name = "<init>") (hnL : 1 ≤ nL) (hG : GG l D cyf (y.cls, cc, nL, d) C S Φ 0 [(0, .ref h)] [] [(h, e0)] 0 0) (sz : Nat) : Met l y (.code y cc nL none :: lwG) (rmC d C S) (PcC D cyf h e0 sz) (QcC D h e0 sz Φ) C S (va_A [(h, e0)] sz) := by
  refine Met.ofW (cc := cc) (maxL := nL) (ret := none) hy rfl ?_
  intro p e s m args below meth c s₁ B hml hv
  obtain ⟨rfl, hsz, hP, hK, hD0, hX⟩ := hv
  have hts0 := atoms_spec (ws := .code y cc nL none :: lwG) B.pre
  have hts : ∀ w ∈ lwG, w.before [Value.ref h].toArray s = true := fun w hw => hts0 w (List.mem_cons_of_mem _ hw)
  have hown : s.vm.findClass y.cls = some m.cls := findClass_of_methodNamed B.named
  have hlocks := B.notSynchronized
  have hin : meth.name = "<init>" := ((name_of_methodNamed B.named B.method).1).trans hyn
  subst hsz
  have hD := hD0.self (sz := s.heap.size)
  generalize hAe : va_A [(h, e0)] s.heap.size = A at hD ⊢
  have hA : ∀ q : Nat, s.heap.size ≤ q → A q := fun q h => by rw [← hAe]; exact Or.inr h
  have hl := lv_entry [Value.ref h] (n := nL) (by show 1 ≤ nL; exact hnL)
  rw [lg_entry_eq]
  refine hG p e (rmC d C S) s m [Value.ref h].toArray below meth c A _ ⟨B.exec, B.bytes, hml, hown, hts, ⟨Nat.le_refl _, Nat.le_refl _, Nat.le_refl _, Nat.le_refl _⟩, hX, hK, hA, hin⟩ s.heap [] _ hP hD va_S.rf hl ?_
  intro H' locs' pc' ls' ws' hΦ hP' hD' hS' hd'
  exact W.vret B.exec B.bytes B.returns (fun t ht hW => ⟨⟨ws', rfl, hΦ, by rw [ht]; exact hP', by rw [hAe]; exact hD'⟩, by rw [hAe]; exact hS'.F ht⟩) hS'.2.2 hd' (hlocks := hlocks)
/-- what is called may be reached: openly, or as a nest mate's -/
def lkOk (own : String) (index : Nat) (y : MethodName) : Prop := Cond.methodLink own index y ∈ lwG ∨ (own, index, y) ∈ nests
/-- all that the tables say of a constructor and its class -/
def cOk (y : MethodName) (cc : ByteArray) (nL N : Nat) : Prop := Cond.code y cc nL none ∈ lwG ∧ Cond.initialized y.cls ∈ lwG ∧ plainName y.cls = true ∧ (y.cls ≠ "java/lang/invoke/MethodHandle" ∧ y.cls ≠ "java/lang/invoke/VarHandle") ∧ y.name = "<init>" ∧ Cond.instanceMethod y ∈ lwG ∧ Cond.instantiable y.cls N ∈ lwG ∧ (parseMethodDescriptor y.desc).map (fun d => d.parameters.length) = some 0
theorem e_make {p : Program} {e : Env} {R : Room} {s : State} {m : MethodId} {args : Array Value} {below : List Frame} {meth : Method} {c : Code} {H H0 : Heap} {locs : List Loc} {cells slots : Nat} {Q : State → Prop} {own : String} {code0 : ByteArray} {nL0 : Nat} {A : Nat → Prop} {ws : va_W} {pc : Nat} {ls : Array Slot} {lv : List (Nat × Value)} {rest : List Value} {y : MethodName} {cc : ByteArray} {nL d C S ci N i1 i2 : Nat} {T : u_T} {ty0 : Nat → FieldType} {fs : List Value} {Φ : Nat → va_W → Prop}
    (hx : p.tables.exec = Jvm.exec) (hb : c.code = code0) (hml : c.maxLocals = nL0) (hown : s.vm.findClass own = some m.cls) (hts : ∀ w ∈ lwG, w.before args s = true) (hX : XC cyf s) (hK : va_K D vwCl (tysC cyf) s) (hP : va_P D vwCl ws H) (hD : va_D A ws) (hS : va_S A H0 H locs) (hA : ∀ q, H0.size ≤ q → A q) (hl : lv_has ls nL0 lv)
    (hy : cOk y cc nL N) (hlk : lkOk own i2 y) (hcl : Cond.classLink own i1 y.cls ∈ lwG) (hc : vwCl[ci]? = some (y.cls, T, N)) (hin : ∀ w ∈ u_ws y.cls T N, w ∈ lwG) (hty : ∀ k, k < N → parseFieldDescriptor (T k).2.2.1 = some (ty0 k)) (hfs : ∀ j, j < N → defaultValue (ty0 j) = vp_V fs j) (hnL : 1 ≤ nL ∧ nL ≤ 17) (hcat : (rest.map fun v => v.category).sum ≤ 6)
    (hfr : d + 1 ≤ R.frames) (hlc : 36 * (d + 1) ≤ R.locals) (hce : cells + 1 + C ≤ R.cells) (hsl : slots + N + S ≤ R.slots) (hG : ∀ h, GG l D cyf (y.cls, cc, nL, d) C S (Φ h) 0 [(0, .ref h)] [] [(h, .inr (ci, fs))] 0 0)
    (hd1 : decode code0 pc = .ok (.new i1, 3)) (hd2 : decode code0 (pc + 3) = .ok (.dup, 1)) (hd3 : decode code0 (pc + 4) = .ok (.invokespecial i2, 3))
    (kk : ∀ (q : Nat) (wn : va_W) (H1 : Heap) (locs1 : List Loc), Φ q wn → va_P D vwCl (ws ++ wn) H1 → va_D A (ws ++ wn) → va_S A H0 H1 locs1 → W p l e R s m args below meth c H1 locs1 (cells + 1 + C) (slots + N + S) Q (F0 m (pc + 7) ls (.ref q :: rest))) : W p l e R s m args below meth c H locs cells slots Q (F0 m pc ls rest) := by
  obtain ⟨y1, y2, y3, y4, y5, y6, y7, y8⟩ := hy
  refine va_new hx hb hts hin ty0 hty hown (hts _ hcl) (hts _ y7) (hts _ y2) hK hP hD hS hA hc hfs (by omega) (by omega) hd1 (fun q H1 hP1 hD1 hS1 => ?_)
  refine lv_dup hx hb hd2 rfl ?_
  have hw : (ws ++ [(q, (Sum.inr (ci, fs) : va_E))])[ws.length]? = some (q, .inr (ci, fs)) := by rw [List.getElem?_append_right (Nat.le_refl _), Nat.sub_self]; rfl
  have hPc : va_P D vwCl [(q, .inr (ci, fs))] H1 := fun k x hx => by
    have hz : k < 1 := (List.getElem?_eq_some_iff.mp hx).1
    rw [show k = 0 by omega] at hx
    cases hx
    exact hP1 _ _ hw
  have hFc : ∀ z, va_A [(q, (Sum.inr (ci, fs) : va_E))] H1.size z → A z := by
    rintro z (⟨k, e, hz⟩ | hz)
    · have h1 : k < 1 := (List.getElem?_eq_some_iff.mp hz).1
      rw [show k = 0 by omega] at hz
      cases hz
      exact hD1.2 _ _ hw
    · exact hA z (Nat.le_trans hS1.1 hz)
  have hDc : va_D (fun _ => True) [(q, (Sum.inr (ci, fs) : va_E))] := ⟨fun i j a b hi hj _ => by
      have h1 : i < 1 := (List.getElem?_eq_some_iff.mp hi).1
      have h2 : j < 1 := (List.getElem?_eq_some_iff.mp hj).1
      omega, fun _ _ _ => trivial⟩
  have hM := met_C (l := l) y3 y5 hnL.1 (hG q) H1.size
  have hp : PreS s H1 (PcC D cyf q (.inr (ci, fs)) H1.size) [.ref q] := ⟨PcC_blind _ _ _, fun U hU hWm => ⟨rfl, by rw [hU], by rw [hU]; exact hPc, va_K.moved hWm.alike hK, hDc, hX.warm hWm⟩⟩
  have hcat' : (([Value.ref q] ++ rest).map fun v => v.category).sum ≤ 8 := by
    show (1 + (rest.map fun v => v.category).sum) ≤ 8
    omega
  have run : va_Run p l e R s m args below meth c H1 locs (cells + 1) (slots + N) C S (F0 m (pc + 4) ls (.ref q :: .ref q :: rest)) (.ref q :: rest) (QcC D q (.inr (ci, fs)) H1.size (Φ q) (Value.ref q :: []).toArray) (va_A [(q, .inr (ci, fs))] H1.size) := by
    rcases hlk with hlk | hlk
    · exact va_runI (As := []) (rest := .ref q :: rest) (g := F0 m (pc + 4) ls (.ref q :: .ref q :: rest)) ⟨hx, hb, hml, hown, hts⟩ hM (cwI 0 hts (lw_in y1) rfl rfl rfl (hts _ y2) (hts _ hlk) (hts _ y6) y5 ⟨y4.1, y4.2, y8⟩ ⟨hfr, by show 8 + (nL + 11) + 36 * d ≤ R.locals; omega⟩) hp rfl rfl hl.1 rfl (lv_room hcat') hd3 ⟨hce, hsl⟩
    · exact va_runIN (As := []) (rest := .ref q :: rest) (g := F0 m (pc + 4) ls (.ref q :: .ref q :: rest)) ⟨hx, hb, hml, hown, hts⟩ hM ⟨va_cnB 0 hts (lw_in y1) rfl rfl rfl (hX.2.2 _ hlk) (hts _ y2) ⟨y4.1, y4.2, y8⟩ ⟨hfr, by show 8 + (nL + 11) + 36 * d ≤ R.locals; omega⟩, y5, hts _ y6⟩ hp rfl rfl hl.1 rfl (lv_room hcat') hd3 ⟨hce, hsl⟩
  refine va_callv run hS1 (fun z _ h9 => hFc z h9) hFc (fun wn t H2 locs2 ht hvm hΦ hB hz2 hk2 hS2 => ?_)
  obtain ⟨hP2, hD2⟩ := hB
  rw [ht] at hP2
  have hold : ∀ (k : Nat) (x : Nat × va_E), ws[k]? = some x → ¬ va_A [(q, (Sum.inr (ci, fs) : va_E))] H1.size x.1 ∧ x.1 < H1.size := fun k x hx => by
    have hk1 : (ws ++ [(q, (Sum.inr (ci, fs) : va_E))])[k]? = some x := by rw [List.getElem?_append_left (List.getElem?_eq_some_iff.mp hx).1]; exact hx
    have hlt : x.1 < H1.size := (hP1 k x hk1).lt
    refine ⟨?_, hlt⟩
    rintro (⟨j, e, hz⟩ | hz)
    · have h1 : j < 1 := (List.getElem?_eq_some_iff.mp hz).1
      rw [show j = 0 by omega] at hz
      have hz' : (q, (Sum.inr (ci, fs) : va_E)) = (x.1, e) := Option.some.inj hz
      have := hD1.1 k ws.length x (q, .inr (ci, fs)) hk1 hw (congrArg Prod.fst hz').symm
      have h2 := (List.getElem?_eq_some_iff.mp hx).1
      omega
    · omega
  have hPw : va_P D vwCl ws H1 := fun k x hx => hP1 k x (by rw [List.getElem?_append_left (List.getElem?_eq_some_iff.mp hx).1]; exact hx)
  have hDw : va_D A ws := hD
  refine kk q wn H2 locs2 hΦ ((hPw.kept (fun k x hx => hk2 x.1 (hold k x hx).2 (hold k x hx).1)).app hP2) (hDw.app (hD2.weaken (fun _ x _ h9 => hFc x.1 h9)) (fun i j a b hi hj hab => (hold i a hi).1 (by rw [hab]; exact hD2.2 j b hj))) hS2
theorem g_make {mi : Ki} {C S : Nat} {Ψ : va_W → Prop} {pc : Nat} {lv : List (Nat × Value)} {rest : List Value} {ws : va_W} {cu su : Nat} {y : MethodName} {cc : ByteArray} {nL d C' S' ci N i1 i2 : Nat} {T : u_T} {ty0 : Nat → FieldType} {fs : List Value} {Φ : Nat → va_W → Prop}
    (hG : ∀ h, GG l D cyf (y.cls, cc, nL, d) C' S' (Φ h) 0 [(0, .ref h)] [] [(h, .inr (ci, fs))] 0 0) (hy : cOk y cc nL N) (hlk : lkOk mi.1 i2 y) (hcl : Cond.classLink mi.1 i1 y.cls ∈ lwG) (hc : vwCl[ci]? = some (y.cls, T, N)) (hin : ∀ w ∈ u_ws y.cls T N, w ∈ lwG) (hty : ∀ k, k < N → parseFieldDescriptor (T k).2.2.1 = some (ty0 k)) (hfs : ∀ j, j < N → defaultValue (ty0 j) = vp_V fs j) (hnL : 1 ≤ nL ∧ nL ≤ 17) (hcat : (rest.map fun v => v.category).sum ≤ 6) (hroom : d + 1 ≤ mi.2.2.2) (cu' su' : Nat) (hcu : cu + 1 + C' = cu') (hsu : su + N + S' = su') (hC : cu' ≤ C) (hSl : su' ≤ S)
    (hd1 : decode mi.2.1 pc = .ok (.new i1, 3)) (hd2 : decode mi.2.1 (pc + 3) = .ok (.dup, 1)) (hd3 : decode mi.2.1 (pc + 4) = .ok (.invokespecial i2, 3)) (h : ∀ q wn, Φ q wn → GG l D cyf mi C S Ψ (pc + 7) lv (.ref q :: rest) (ws ++ wn) cu' su') : GG l D cyf mi C S Ψ pc lv rest ws cu su := by
  intro p e Rm s m args below meth c A Q K H locs ls hP hD hS hl kr
  have hrm := K.2.2.2.2.2.1
  subst hcu hsu
  exact e_make K.1 K.2.1 K.2.2.1 K.2.2.2.1 K.2.2.2.2.1 K.2.2.2.2.2.2.1 K.2.2.2.2.2.2.2.1 hP hD hS K.2.2.2.2.2.2.2.2.1 hl hy hlk hcl hc hin hty hfs hnL hcat (Nat.le_trans hroom hrm.1) (by omega) (Nat.le_trans hC hrm.2.2.1) (Nat.le_trans hSl hrm.2.2.2) hG hd1 hd2 hd3 (fun q wn H1 locs1 hΦ hP1 hD1 hS1 => h q wn hΦ p e Rm s m args below meth c A Q K H1 locs1 ls hP1 hD1 hS1 hl kr)
theorem g_ws {mi : Ki} {C S : Nat} {Ψ : va_W → Prop} {pc : Nat} {lv : List (Nat × Value)} {st : List Value} {ws : va_W} {cu su : Nat} (ws' : va_W) (hws : ws = ws') (h : GG l D cyf mi C S Ψ pc lv st ws' cu su) : GG l D cyf mi C S Ψ pc lv st ws cu su := hws ▸ h
theorem g_cong {mi : Ki} {C S : Nat} {Ψ : va_W → Prop} {pc : Nat} {lv : List (Nat × Value)} {st : List Value} {ws : va_W} {cu su a : Nat} (q0 : Nat) {cA : ClassId} {e0 e1 : vp_A} (ws' : va_W) (ha : ws[q0]? = some (a, .inl (cA, e0))) (he : vp_cell cA e0 = vp_cell cA e1) (hws : ws.set q0 (a, .inl (cA, e1)) = ws') (h : GG l D cyf mi C S Ψ pc lv st ws' cu su) : GG l D cyf mi C S Ψ pc lv st ws cu su := by
  intro p e Rm s m args below meth c A Q K H locs ls hP hD hS hl kr
  subst hws
  exact h p e Rm s m args below meth c A Q K H locs ls (hP.set hD ha (by show H[a]? = some (vp_cell cA e1); rw [← he]; exact hP q0 _ ha) (fun _ _ => rfl)) (hD.set ha) hS hl kr
end Make
