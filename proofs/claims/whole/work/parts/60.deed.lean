/-! deeds, on both sides -/
def ext (D : Nat → Scr) (nd : Nat) (c : Scr) : Nat → Scr := fun d => if d = nd + 1 then c else D d
theorem ext_new (D : Nat → Scr) (nd : Nat) (c : Scr) : ext D nd c (nd + 1) = c := if_pos rfl
theorem ext_old {D : Nat → Scr} {nd d : Nat} {c : Scr} (h : d ≤ nd) : ext D nd c d = D d := if_neg (by omega)
def cdR (t i _ _ : Nat) : Prop := i = 0 ∧ (t = 7 ∨ t = 9 ∨ t = 10 ∨ t = 11)
def mdR (t i _ k : Nat) : Prop := (t = 22 ∧ (i = 14 ∨ i = 15)) ∨ (t = 21 ∧ k = 16)
section Deed
variable {N n nd : Nat} {σ : Sg} {D : Nat → Scr} {c : Scr}
theorem cH_ext {τ : Sg} {c' : Scr} {w a b d : Int32} (h : cH σ 0 0 n nd D) (hS : isScr τ 0 n c') (hf : Fr (scrR 0) σ τ) (hu : undo1 n w a b d c' (D nd)) : cH (noteS τ 0 nd w a b d) 0 0 n (nd + 1) (ext D nd c') ∧ Fq cdR σ (noteS τ 0 nd w a b d) := by
  have f2 : Fq (rgN 0 nd) τ (noteS τ 0 nd w a b d) := noteS_fr
  have f1 : Fq cdR σ τ := hf.q (fun t i j k z => ⟨z.2, by rcases z.1 with z | z <;> simp [z]⟩)
  obtain ⟨a0, a1, a2, a3, a4⟩ := noteS_at (σ := τ) (q := 0) (nd := nd) (w := w) (a := a) (b := b) (d := d)
  refine ⟨⟨?_, a4, fun e he => ?_⟩, f1.tr f2 (fun _ _ _ _ z => z) (fun t i j k z => ⟨z.1, by rcases z.2 with z | z <;> simp [z.1]⟩)⟩
  · rw [ext_new]
    exact hS.frq f2 (fun j k z => by rcases z.2 with z | z <;> exact absurd z.1 (by decide)) (fun j k z => by rcases z.2 with z | z <;> exact absurd z.1 (by decide))
  · by_cases hen : e = nd
    · subst hen
      rw [a0, a1, a2, a3, ext_new, ext_old (Nat.le_refl _)]
      exact hu
    · have old : ∀ j, rI (noteS τ 0 nd w a b d) 11 0 j e = rI σ 11 0 j e := fun j => ((f2 11 0 j e (fun z => by rcases z.2 with z | z; exact hen z.2.2; exact absurd z.1 (by decide))).1).trans ((hf 11 0 j (fun z => by rcases z.1 with z | z <;> exact absurd z (by decide)) e).1)
      rw [old, old, old, old, ext_old (by omega), ext_old (by omega)]
      exact h.2.2 e (by omega)
/-- the class' reorder -/
theorem cl_reorder {i to_ : Nat} (h : cH σ 0 0 n nd D) (ok : okS n (D nd)) (hd : nd ≤ 40) (hi : i < n) (ht : to_ < n) (hN : 12 < N) :
    (D nd i 5 = to_ → f_X7_reorder N (nI i) (nI to_) σ = some (-4, σ)) ∧ (D nd i 5 ≠ to_ → nd = 40 → f_X7_reorder N (nI i) (nI to_) σ = some (-2, σ)) ∧
    (D nd i 5 ≠ to_ → nd < 40 → ∃ υ, f_X7_reorder N (nI i) (nI to_) σ = some (nI (D nd i 5), υ) ∧ cH υ 0 0 n (nd + 1) (ext D nd (plc (D nd) i to_)) ∧ Fq cdR σ υ) := by
  have hn := ok.1
  have hp := (ok.2.1 i hi).2.1
  have hin : 0 ≤ (nI i).toInt ∧ (nI i).toInt < (n : Nat) := by rw [nI_toInt (by omega)]; omega
  have c0 : f_X7_reorder N (nI i) (nI to_) σ = f_X7_reorder N (nI i) (nI to_) σ := rfl
  conv at c0 =>
    rhs
    rw [f_X7_reorder, sp_has h.1 hn, Option.bind_some, b2n_z, decide_eq_true hin, if_pos rfl, gi (show i < 7 by omega) (by decide), nI_clamp (show i < 2 ^ 31 by omega)]
  simp only [h.1.f hi (show 5 < 7 by decide)] at c0
  refine ⟨fun e => ?_, fun e e40 => ?_, fun e e40 => ?_⟩
  · rw [c0, ieq_t e]
  · rw [c0, ieq_f e (by omega) (by omega), n1, sp_room h.2.1 hd (by decide), Option.bind_some, b2n_z, decide_eq_false (by omega), if_neg (by decide)]
  · obtain ⟨τ, e1, h1, h2⟩ := sp_placeAt (N := N) h.1 ok hi ht (by omega)
    have h4 : rI τ 10 0 0 4 = nI nd := ((h2 10 0 0 (fun z => by rcases z.1 with z | z <;> exact absurd z (by decide)) 4).1).trans h.2.1
    have hu : undo1 n 0 (nI i) (nI (D nd i 5)) 0 (plc (D nd) i to_) (D nd) := ⟨i, hi, rfl, Or.inl ⟨rfl, D nd i 5, hp, rfl, plc_back ok hi ht⟩⟩
    obtain ⟨g1, g2⟩ := cH_ext h h1 h2 hu
    refine ⟨_, ?_, g1, g2⟩
    rw [c0, ieq_f e (by omega) (by omega), n1, sp_room h.2.1 hd (by decide), Option.bind_some, b2n_z, decide_eq_true (by omega), if_pos rfl, e1, Option.bind_some, sp_note h4 e40]
    rfl
def mvS (c : Scr) (i l t : Nat) : Scr := fun j => if j = i then up (up (c i) 1 l) 2 t else c j
theorem nI_addI {a : Nat} {x : Int32} (ha : a < 1000) (hx : -100 ≤ x.toInt ∧ x.toInt ≤ 100) (h : 0 ≤ (a : Int) + x.toInt) : nI a + x = nI ((a : Int) + x.toInt).toNat ∧ nI ((a : Int) + x.toInt).toNat - x = nI a := by
  have ta : (nI a).toInt = a := nI_toInt (by omega)
  have tb : (nI ((a : Int) + x.toInt).toNat).toInt = (a : Int) + x.toInt := by rw [nI_toInt (by omega)]; omega
  constructor
  · rw [fa_eq, fb_addI (by rw [ta]; omega) (by rw [ta]; omega), ta, tb]
  · rw [fa_eq, fb_subI (by rw [tb]; omega) (by rw [tb]; omega), ta, tb]; omega
theorem up_f (p : Nat → Nat) (l t f : Nat) : up (up p 1 l) 2 t f = if f = 2 then t else if f = 1 then l else p f := rfl
theorem okS_mv {i l t : Nat} (ok : okS n c) (hi : i < n) (hl : l + c i 3 ≤ 12) (ht : t + c i 4 ≤ 8) : okS n (mvS c i l t) := by
  have h5 : ∀ j f, f ≠ 1 → f ≠ 2 → mvS c i l t j f = c j f := fun j f h1 h2 => by
    unfold mvS
    by_cases e : j = i
    · rw [if_pos e, up_f, if_neg h2, if_neg h1, e]
    · rw [if_neg e]
  refine ⟨ok.1, fun j hj => ⟨?_, ?_, ?_⟩, fun j k hj hk h => ?_⟩
  · have ob := (ok.2.1 j hj).1
    unfold okB at ob ⊢
    rw [h5 j 0 (by decide) (by decide), h5 j 3 (by decide) (by decide), h5 j 4 (by decide) (by decide)]
    by_cases e : j = i
    · subst e
      have e1 : mvS c j l t j 1 = l := by unfold mvS; rw [if_pos rfl]; rfl
      have e2 : mvS c j l t j 2 = t := by unfold mvS; rw [if_pos rfl]; rfl
      rw [e1, e2]; omega
    · have e1 : mvS c i l t j 1 = c j 1 := by unfold mvS; rw [if_neg e]
      have e2 : mvS c i l t j 2 = c j 2 := by unfold mvS; rw [if_neg e]
      rw [e1, e2]; exact ob
  · rw [h5 j 5 (by decide) (by decide)]; exact (ok.2.1 j hj).2.1
  · rw [h5 j 6 (by decide) (by decide)]; exact (ok.2.1 j hj).2.2
  · rw [h5 j 5 (by decide) (by decide), h5 k 5 (by decide) (by decide)] at h
    exact ok.2.2 j k hj hk h
/-- whether a move stays on the screen -/
abbrev onS (c : Scr) (i : Nat) (x y : Int) : Prop := (0 ≤ (c i 1 : Int) + x ∧ (c i 1 : Int) + x + (c i 3 : Int) ≤ 12) ∧ (0 ≤ (c i 2 : Int) + y ∧ (c i 2 : Int) + y + (c i 4 : Int) ≤ 8)
theorem sp_isNear (p : Int32) : f_X7_isNear N p σ = some (nI (b2n (decide (-3 ≤ p.toInt ∧ p.toInt ≤ 3))), σ) := by
  unfold f_X7_isNear
  have z3 : ((-3 : Int32)).toInt = -3 := by decide
  have e1 : (p < (-3 : Int32)) ↔ p.toInt < -3 := by rw [fa_lt, z3]
  have e2 : ((3 : Int32) < p) ↔ 3 < p.toInt := fa_lt 3 p
  simp only [e1, e2]
  by_cases a1 : p.toInt < -3
  · rw [if_pos a1, decide_eq_false (by omega)]; rfl
  · by_cases a2 : 3 < p.toInt
    · rw [if_neg a1, if_pos a2, decide_eq_false (by omega)]; rfl
    · rw [if_neg a1, if_neg a2, decide_eq_true (by omega)]; rfl
theorem eq0 (x : Int32) : (x = 0) ↔ x.toInt = 0 := fa_eq x 0
/-- the class' move -/
theorem cl_move {i : Nat} {x y : Int32} (h : cH σ 0 0 n nd D) (ok : okS n (D nd)) (hd : nd ≤ 40) (hi : i < n) (hx : -3 ≤ x.toInt ∧ x.toInt ≤ 3) (hy : -3 ≤ y.toInt ∧ y.toInt ≤ 3) (hN : 12 < N) :
    ((x.toInt = 0 ∧ y.toInt = 0) → f_X7_move N (nI i) x y σ = some (-1, σ)) ∧
    (¬ (x.toInt = 0 ∧ y.toInt = 0) → ¬ onS (D nd) i x.toInt y.toInt → f_X7_move N (nI i) x y σ = some (-4, σ)) ∧
    (¬ (x.toInt = 0 ∧ y.toInt = 0) → onS (D nd) i x.toInt y.toInt → nd = 40 → f_X7_move N (nI i) x y σ = some (-2, σ)) ∧
    (¬ (x.toInt = 0 ∧ y.toInt = 0) → onS (D nd) i x.toInt y.toInt → nd < 40 → ∃ υ, f_X7_move N (nI i) x y σ = some (nI (((D nd i 2 : Int) + y.toInt).toNat * 12 + ((D nd i 1 : Int) + x.toInt).toNat), υ) ∧ cH υ 0 0 n (nd + 1) (ext D nd (mvS (D nd) i ((D nd i 1 : Int) + x.toInt).toNat ((D nd i 2 : Int) + y.toInt).toNat)) ∧ Fq cdR σ υ) := by
  have hn := ok.1
  have hob := (ok.2.1 i hi).1
  obtain ⟨o0, o1, o2, o3, o4⟩ := hob
  have hin : 0 ≤ (nI i).toInt ∧ (nI i).toInt < (n : Nat) := by rw [nI_toInt (by omega)]; omega
  have c0 : f_X7_move N (nI i) x y σ = f_X7_move N (nI i) x y σ := rfl
  conv at c0 =>
    rhs
    rw [f_X7_move, sp_has h.1 hn, Option.bind_some, b2n_z, decide_eq_true hin, if_pos rfl, sp_isNear, Option.bind_some, b2n_z, decide_eq_true hx, if_pos rfl, sp_isNear, Option.bind_some, b2n_z, decide_eq_true hy, if_pos rfl]
  simp only [gi (show i < 7 by omega) (show 7 < 2147483648 by decide), nI_clamp (show i < 2 ^ 31 by omega), h.1.f hi (show 1 < 7 by decide), h.1.f hi (show 2 < 7 by decide)] at c0
  have t1 : (nI (D nd i 1) + x).toInt = (D nd i 1 : Int) + x.toInt := by
    have : (nI (D nd i 1)).toInt = D nd i 1 := nI_toInt (by omega)
    rw [fb_addI (by rw [this]; omega) (by rw [this]; omega), this]
  have t2 : (nI (D nd i 2) + y).toInt = (D nd i 2 : Int) + y.toInt := by
    have : (nI (D nd i 2)).toInt = D nd i 2 := nI_toInt (by omega)
    rw [fb_addI (by rw [this]; omega) (by rw [this]; omega), this]
  have fit := sp_fitsAt N 0 i (h.1.2 i hi) ⟨o0, o1, o2, o3, o4⟩ (x := nI (D nd i 1) + x) (y := nI (D nd i 2) + y) (by rw [t1]; omega) (by rw [t2]; omega)
  rw [t1, t2] at fit
  have go : ¬ (x.toInt = 0 ∧ y.toInt = 0) → f_X7_move N (nI i) x y σ = (if decide ((0 ≤ (D nd i 1 : Int) + x.toInt ∧ (D nd i 1 : Int) + x.toInt + (D nd i 3 : Nat) ≤ 12) ∧ (0 ≤ (D nd i 2 : Int) + y.toInt ∧ (D nd i 2 : Int) + y.toInt + (D nd i 4 : Nat) ≤ 8)) then ((f_X1_hasRoomFor N 0 (1 : Int32) σ).bind (fun w5 => if w5.1 = 0 then (some ((-2 : Int32), w5.2)) else ((f_X2_lieAt N 0 i ((rI w5.2 9 0 i 1) + x) ((rI w5.2 9 0 i 2) + y) w5.2).bind (fun w6 => (f_X1_note N 0 (1 : Int32) (nI i) x y w6).bind (fun w7 => some (((rI w7 9 0 i 2) * (12 : Int32)) + (rI w7 9 0 i 1), w7)))))) else some (-4, σ)) := by
    intro hne
    rw [c0, fit]
    simp only [Option.bind_some, b2n_z]
    by_cases hx0 : x.toInt = 0
    · rw [if_pos ((eq0 x).mpr hx0), if_neg (fun z => hne ⟨hx0, (eq0 y).mp z⟩)]
    · rw [if_neg (fun z => hx0 ((eq0 x).mp z))]
  refine ⟨fun e => ?_, fun hne hon => ?_, fun hne hon e40 => ?_, fun hne hon e40 => ?_⟩
  · rw [c0, if_pos ((eq0 x).mpr e.1), if_pos ((eq0 y).mpr e.2)]
  · rw [go hne, decide_eq_false hon, if_neg (by decide)]
  · rw [go hne, decide_eq_true hon, if_pos rfl, n1, sp_room h.2.1 hd (by decide), Option.bind_some, b2n_z, decide_eq_false (by omega), if_neg (by decide)]
  · obtain ⟨⟨q1, q2⟩, q3, q4⟩ := hon
    obtain ⟨a1, a2⟩ := nI_addI (a := D nd i 1) (x := x) (by omega) (by omega) q1
    obtain ⟨b1, b2⟩ := nI_addI (a := D nd i 2) (x := y) (by omega) (by omega) q3
    generalize hl : ((D nd i 1 : Int) + x.toInt).toNat = l at *
    generalize ht : ((D nd i 2 : Int) + y.toInt).toNat = t at *
    have okm := okS_mv (c := D nd) (i := i) (l := l) (t := t) ok hi (by omega) (by omega)
    have okb : okB (up (up (D nd i) 1 l) 2 t) := by
      have := (okm.2.1 i hi).1
      unfold mvS at this
      rw [if_pos rfl] at this
      exact this
    obtain ⟨τ, e1, h1, h2⟩ := sp_lieAt N 0 i (h.1.2 i hi) okb hN
    have hSm : isScr τ 0 n (mvS (D nd) i l t) := isScr_pane h.1 h1 h2
    have h4 : rI τ 10 0 0 4 = nI nd := ((h2 10 0 0 (fun z => absurd z.1 (by decide)) 4).1).trans h.2.1
    have h2' : Fr (scrR 0) σ τ := h2.mono (fun t a b z => ⟨Or.inr z.1, z.2.1⟩)
    have mi1 : mvS (D nd) i l t i 1 = l := by unfold mvS; rw [if_pos rfl]; rfl
    have mi2 : mvS (D nd) i l t i 2 = t := by unfold mvS; rw [if_pos rfl]; rfl
    have hu : undo1 n 1 (nI i) x y (mvS (D nd) i l t) (D nd) := by
      refine ⟨i, hi, rfl, Or.inr (Or.inl ⟨rfl, by rw [mi1]; exact a2, by rw [mi2]; exact b2, fun j hj f hf => ?_⟩)⟩
      dsimp only
      by_cases e : j = i
      · subst e
        rw [if_pos rfl, up_f]
        unfold mvS
        rw [if_pos rfl, up_f]
        by_cases f2 : f = 2
        · rw [if_pos f2, f2]
        · by_cases f1 : f = 1
          · rw [if_neg f2, if_pos f1, f1]
          · rw [if_neg f2, if_neg f1, if_neg f2, if_neg f1]
      · rw [if_neg e]
        unfold mvS
        rw [if_neg e]
    obtain ⟨g1, g2⟩ := cH_ext h hSm h2' hu
    refine ⟨_, ?_, g1, g2⟩
    have hS2 := g1.1
    rw [ext_new] at hS2
    have r1 := hS2.f hi (show 1 < 7 by decide)
    have r2 := hS2.f hi (show 2 < 7 by decide)
    rw [mi1] at r1
    rw [mi2] at r2
    rw [go hne, decide_eq_true ⟨⟨q1, q2⟩, q3, q4⟩, if_pos rfl, n1, sp_room h.2.1 hd (by decide), Option.bind_some, b2n_z, decide_eq_true (by omega), if_pos rfl]
    simp only [h.1.f hi (show 1 < 7 by decide), h.1.f hi (show 2 < 7 by decide), a1, b1, e1, Option.bind_some]
    rw [sp_note h4 e40, Option.bind_some]
    simp only [n1] at r1 r2 ⊢
    rw [r1, r2, n12, pk_mul, nI_add]
theorem okS_flp {i : Nat} (ok : okS n c) (hi : i < n) : okS n (flp c i) := by
  have h5 : ∀ j f, f ≠ 6 → flp c i j f = c j f := fun j f h => by unfold flp sets; rw [if_neg (fun z => h z.2)]
  refine ⟨ok.1, fun j hj => ⟨?_, ?_, ?_⟩, fun j k hj hk h => ?_⟩
  · have ob := (ok.2.1 j hj).1
    unfold okB at ob ⊢
    rw [h5 j 0 (by decide), h5 j 1 (by decide), h5 j 2 (by decide), h5 j 3 (by decide), h5 j 4 (by decide)]
    exact ob
  · rw [h5 j 5 (by decide)]; exact (ok.2.1 j hj).2.1
  · have := (ok.2.1 j hj).2.2
    unfold flp sets
    split <;> omega
  · rw [h5 j 5 (by decide), h5 k 5 (by decide)] at h
    exact ok.2.2 j k hj hk h
theorem flp_back {i : Nat} (ok : okS n c) (hi : i < n) : eqS n (flp (flp c i) i) c := by
  intro j hj f hf
  have := (ok.2.1 i hi).2.2
  unfold flp sets
  by_cases e : j = i ∧ f = 6
  · rw [if_pos e, e.1, e.2]
    simp
    omega
  · rw [if_neg e, if_neg e]
/-- the class' shut -/
theorem cl_shut {i : Nat} (h : cH σ 0 0 n nd D) (ok : okS n (D nd)) (hd : nd ≤ 40) (hi : i < n) (hN : 12 < N) :
    (nd = 40 → f_X7_shut N (nI i) σ = some (-2, σ)) ∧
    (nd < 40 → ∃ υ, f_X7_shut N (nI i) σ = some (nI (fb_ct (opn (flp (D nd) i)) n), υ) ∧ cH υ 0 0 n (nd + 1) (ext D nd (flp (D nd) i)) ∧ Fq cdR σ υ) := by
  have hn := ok.1
  have ho := (ok.2.1 i hi).2.2
  have hin : 0 ≤ (nI i).toInt ∧ (nI i).toInt < (n : Nat) := by rw [nI_toInt (by omega)]; omega
  refine ⟨fun e => ?_, fun e => ?_⟩
  · unfold f_X7_shut
    rw [sp_has h.1 hn, Option.bind_some, b2n_z, decide_eq_true hin, if_pos rfl, n1, sp_room h.2.1 hd (by decide), Option.bind_some, b2n_z, decide_eq_false (by omega), if_neg (by decide)]
  · have okf := okS_flp ok hi
    have hSf : isScr (uI σ 9 0 i 6 (nI (1 - D nd i 6))) 0 n (flp (D nd) i) := isScr_open h.1
    have hf : Fr (scrR 0) σ (uI σ 9 0 i 6 (nI (1 - D nd i 6))) := Fr.rf.uI ⟨Or.inr rfl, rfl⟩
    have h4 : rI (uI σ 9 0 i 6 (nI (1 - D nd i 6))) 10 0 0 4 = nI nd := by rw [rI_uI, if_neg (by simp)]; exact h.2.1
    have hu : undo1 n 2 (nI i) 0 0 (flp (D nd) i) (D nd) := ⟨i, hi, rfl, Or.inr (Or.inr (Or.inl ⟨rfl, flp_back ok hi⟩))⟩
    obtain ⟨g1, g2⟩ := cH_ext h hSf hf hu
    refine ⟨_, ?_, g1, g2⟩
    have hS2 := g1.1
    rw [ext_new] at hS2
    unfold f_X7_shut
    rw [sp_has h.1 hn, Option.bind_some, b2n_z, decide_eq_true hin, if_pos rfl, n1, sp_room h.2.1 hd (by decide), Option.bind_some, b2n_z, decide_eq_true (by omega), if_pos rfl, gi (show i < 7 by omega) (by decide), gi (show i < 7 by omega) (by decide), nI_clamp (by omega)]
    dsimp only
    rw [h.1.o ok hi, b2n_z]
    rcases (by omega : D nd i 6 = 0 ∨ D nd i 6 = 1) with e6 | e6
    · have eo : opn (D nd) i = false := by unfold opn; rw [e6]; rfl
      rw [eo, if_neg (by decide)]
      rw [e6] at h4 hS2 ⊢
      rw [sp_note h4 e, Option.bind_some]
      rw [sp_howManyOpen hS2 okf (by omega)]
      rfl
    · have eo : opn (D nd) i = true := by unfold opn; rw [e6]; rfl
      rw [eo, if_pos rfl]
      rw [e6] at h4 hS2 ⊢
      rw [n0, show nI 0 = nI (1 - 1) from rfl, sp_note h4 e, Option.bind_some]
      rw [show nI (1 - 1) = (0 : Int32) from rfl] at hS2 ⊢
      rw [sp_howManyOpen hS2 okf (by omega)]
      rfl
end Deed
