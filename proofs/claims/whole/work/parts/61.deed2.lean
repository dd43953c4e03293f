section Deed2
variable {N n nd : Nat} {σ : Sg} {D : Nat → Scr} {c : Scr}
/-- the reference notes how it was -/
theorem sp_notes (h : mH σ n nd D) (oks : ∀ d, d ≤ nd → okS n (D d)) (hd : nd < 40) (hN : 22 < N) :
    ∃ τ, f_X8_notes N σ = some τ ∧ (∀ d, d < nd + 1 → isMod (fun k => rI τ 22 15 0 (22 * d + k)) n (D d)) ∧ rI τ 21 0 0 16 = nI (nd + 1) ∧ Fq (fun t i _ k => (t = 22 ∧ i = 15) ∨ (t = 21 ∧ k = 16)) σ τ := by
  unfold f_X8_notes
  obtain ⟨τ, e, h1, h2⟩ := up_rel (fun m v τ => L_X8_notes_2 N (fun _ σ_1 => some (uI σ_1 21 0 0 16 ((rI σ_1 21 0 0 16) + (1 : Int32)))) m v τ) (fun _ τ => some (uI τ 21 0 0 16 ((rI τ 21 0 0 16) + (1 : Int32)))) (fun j τ => (∀ k, k < j → rI τ 22 15 0 (22 * nd + k) = rI σ 22 14 0 k) ∧ Fq (fun t i j k => t = 22 ∧ i = 15 ∧ j = 0 ∧ 22 * nd ≤ k) σ τ) 22
    (fun m τ h => by
      show L_X8_notes_2 N _ (m + 1) _ _ = _
      rw [L_X8_notes_2_s, n22, ile_t (Nat.le_refl _) (by decide)])
    (fun m j τ hj h1 => by
      have h16 : rI τ 21 0 0 16 = nI nd := ((h1.2 21 0 0 16 (by omega)).1).trans h.2.1
      refine ⟨uI τ 22 15 0 (22 * nd + j) (rI τ 22 14 0 j), ?_, fun k hk => ?_, h1.2.uI ⟨rfl, rfl, rfl, by omega⟩⟩
      · show L_X8_notes_2 N _ (m + 1) _ _ = L_X8_notes_2 N _ m _ _
        rw [L_X8_notes_2_s, h16, n22, ile_f hj (by decide), pk_mul, nI_add, gi hj (by decide), gi (by omega) (by decide), nI_clamp (by omega), nI_clamp (by omega), nI_1]
      · rw [rI_uI]
        by_cases e : k = j
        · subst e
          rw [if_pos ⟨rfl, rfl, rfl, rfl⟩]
          exact (h1.2 22 14 0 k (by omega)).1
        · rw [if_neg (fun z => e (by omega))]
          exact h1.1 k (by omega))
    22 0 σ N (by omega) ⟨fun k hk => by omega, Fq.rf⟩ (by omega)
  have h16 : rI τ 21 0 0 16 = nI nd := ((h2 21 0 0 16 (by omega)).1).trans h.2.1
  refine ⟨uI τ 21 0 0 16 (nI (nd + 1)), ?_, fun d hd1 => ?_, by rw [rI_uI, if_pos ⟨rfl, rfl, rfl, rfl⟩], (h2.mono (fun t i j k z => Or.inl ⟨z.1, z.2.1⟩)).uI (Or.inr ⟨rfl, rfl⟩)⟩
  · refine Eq.trans e ?_
    rw [h16, nI_1]
  · have r0 : ∀ k, rI (uI τ 21 0 0 16 (nI (nd + 1))) 22 15 0 k = rI τ 22 15 0 k := fun k => by rw [rI_uI, if_neg (by simp)]
    by_cases e : d = nd
    · subst e
      exact h.1.cong (fun k hk => by rw [r0]; exact h1 k hk) (oks d (Nat.le_refl _))
    · exact (h.2.2 d (by omega)).cong (fun k hk => by rw [r0]; exact (h2 22 15 0 (22 * d + k) (by omega)).1) (oks d (by omega))
theorem mH_ext {τ υ : Sg} {c' : Scr} (h1 : ∀ d, d < nd + 1 → isMod (fun k => rI τ 22 15 0 (22 * d + k)) n (D d)) (h2 : rI τ 21 0 0 16 = nI (nd + 1)) (f : Fq (fun t i _ _ => t = 22 ∧ i = 14) τ υ) (hm : isMod (fun k => rI υ 22 14 0 k) n c') : mH υ n (nd + 1) (ext D nd c') := by
  refine ⟨by rw [ext_new]; exact hm, ((f 21 0 0 16 (by omega)).1).trans h2, fun d hd => ?_⟩
  rw [ext_old (by omega)]
  exact isMod_fr (h1 d hd) (fun k => (f 22 15 0 (22 * d + k) (by omega)).1)
theorem md_tr {τ υ : Sg} (f1 : Fq (fun t i _ k => (t = 22 ∧ i = 15) ∨ (t = 21 ∧ k = 16)) σ τ) (f2 : Fq (fun t i _ _ => t = 22 ∧ i = 14) τ υ) : Fq mdR σ υ :=
  f1.tr f2 (fun t i j k z => by unfold mdR; omega) (fun t i j k z => by unfold mdR; omega)
theorem mo_comes {i to_ : Nat} (h : mH σ n nd D) (oks : ∀ d, d ≤ nd → okS n (D d)) (hd : nd < 40) (hi : i < n) (ht : to_ < n) (hN : 22 < N) :
    ∃ τ υ, f_X8_notes N σ = some τ ∧ isMod (fun k => rI τ 22 14 0 k) n (D nd) ∧ (∀ k, rI τ 21 0 0 10 = rI σ 21 0 0 10 ∧ rI τ 22 12 0 k = rI σ 22 12 0 k ∧ rI τ 22 13 0 k = rI σ 22 13 0 k) ∧ f_X8_comesTo N 14 (nI (D nd i 5)) (nI to_) τ = some υ ∧ mH υ n (nd + 1) (ext D nd (plc (D nd) i to_)) ∧ Fq mdR σ υ := by
  have ok := oks nd (Nat.le_refl _)
  have hn := ok.1
  have hp := (ok.2.1 i hi).2.1
  obtain ⟨τ, e, h1, h2, f1⟩ := sp_notes h oks hd hN
  obtain ⟨υ, e2, h3, f2⟩ := sp_comesTo (N := N) (σ := τ) (ai := 14) (fr := D nd i 5) (to_ := to_) rfl (by omega) (by omega) (by omega)
  have ms : isMod (fun k => rI τ 22 14 0 k) n (D nd) := isMod_fr h.1 (fun k => (f1 22 14 0 k (by omega)).1)
  have f2' : Fq (fun t i _ _ => t = 22 ∧ i = 14) τ υ := f2.mono (fun t i j k z => ⟨z.1, z.2.1⟩)
  refine ⟨τ, υ, e, ms, fun k => ⟨(f1 21 0 0 10 (by omega)).1, (f1 22 12 0 k (by omega)).1, (f1 22 13 0 k (by omega)).1⟩, e2, mH_ext h1 h2 f2' (og_mod (g := fun k => rI τ 22 14 0 k) ms ok hi ht h3 (fun k hk hr => (f2 22 14 0 k (by omega)).1)), md_tr f1 f2'⟩
theorem mo_mv {i l t : Nat} {τ : Sg} (hm : isMod (fun k => rI τ 22 14 0 k) n c) (ok : okS n c) (hi : i < n) : isMod (fun k => rI (uI (uI τ 22 14 0 i (nI l)) 22 14 0 (7 + i) (nI t)) 22 14 0 k) n (mvS c i l t) ∧ Fq (fun t i _ _ => t = 22 ∧ i = 14) τ (uI (uI τ 22 14 0 i (nI l)) 22 14 0 (7 + i) (nI t)) := by
  have hn := ok.1
  refine ⟨⟨fun j hj => ?_, ?_⟩, (Fq.rf.uI ⟨rfl, rfl⟩).uI ⟨rfl, rfl⟩⟩
  · obtain ⟨a, b, d⟩ := hm.1 j hj
    have hpj := (ok.2.1 j hj).2.1
    dsimp only at a b d ⊢
    by_cases e : j = i
    · subst e
      have e1 : mvS c j l t j 1 = l := by unfold mvS; rw [if_pos rfl]; rfl
      have e2 : mvS c j l t j 2 = t := by unfold mvS; rw [if_pos rfl]; rfl
      have e5 : mvS c j l t j 5 = c j 5 := by unfold mvS; rw [if_pos rfl]; rfl
      rw [e1, e2, e5]
      refine ⟨?_, ?_, ?_⟩
      · rw [rI_uI, if_neg (by omega), rI_uI, if_pos ⟨rfl, rfl, rfl, rfl⟩]
      · rw [rI_uI, if_pos ⟨rfl, rfl, rfl, rfl⟩]
      · rw [rI_uI, if_neg (by omega), rI_uI, if_neg (by omega)]; exact d
    · have e1 : ∀ f, mvS c i l t j f = c j f := fun f => by unfold mvS; rw [if_neg e]
      rw [e1, e1, e1]
      refine ⟨?_, ?_, ?_⟩
      · rw [rI_uI, if_neg (by omega), rI_uI, if_neg (by omega)]; exact a
      · rw [rI_uI, if_neg (by omega), rI_uI, if_neg (by omega)]; exact b
      · rw [rI_uI, if_neg (by omega), rI_uI, if_neg (by omega)]; exact d
  · dsimp only
    rw [rI_uI, if_neg (by omega), rI_uI, if_neg (by omega)]
    have : msk (opn (mvS c i l t)) n = msk (opn c) n := msk_cong (fun j _ => by
      unfold opn mvS
      by_cases e : j = i
      · rw [if_pos e, e]; rfl
      · rw [if_neg e])
    rw [this]; exact hm.2
theorem msk_flip {p : Nat → Bool} {m i : Nat} (hi : i < m) : msk p m ^^^ 2 ^ i = msk (fun j => if j = i then !p j else p j) m :=
  msk_ext (Nat.xor_lt_two_pow (msk_lt p m) (Nat.pow_lt_pow_right (by decide) hi)) (fun j hj => by
    rw [Nat.testBit_xor, msk_bit, Nat.testBit_two_pow]
    by_cases e : j = i
    · subst e
      rw [if_pos rfl]
      simp [hj]
    · rw [if_neg e, decide_eq_false (show ¬ i = j by omega)]
      simp [hj])
theorem flp_open {i : Nat} (ok : okS n c) (hi : i < n) : nI (msk (opn c) n) ^^^ ((1 : Int32) <<< (nI i &&& 31)) = nI (msk (opn (flp c i)) n) := by
  have hn := ok.1
  have ho := (ok.2.1 i hi).2.2
  rw [I_1 i (by omega), fb_xorI, msk_flip hi]
  congr 1
  refine msk_cong (fun j hj => ?_)
  unfold opn flp sets
  by_cases e : j = i
  · subst e
    rw [if_pos rfl, if_pos ⟨rfl, rfl⟩]
    rcases (by omega : c j 6 = 0 ∨ c j 6 = 1) with e6 | e6 <;> rw [e6] <;> rfl
  · rw [if_neg e, if_neg (fun z => e z.1)]
theorem mo_flp {i : Nat} {τ : Sg} {v : Int32} (hm : isMod (fun k => rI τ 22 14 0 k) n c) (ok : okS n c) (hi : i < n) (hv : v = nI (msk (opn (flp c i)) n)) : isMod (fun k => rI (uI τ 22 14 0 21 v) 22 14 0 k) n (flp c i) ∧ Fq (fun t i _ _ => t = 22 ∧ i = 14) τ (uI τ 22 14 0 21 v) := by
  have hn := ok.1
  refine ⟨⟨fun j hj => ?_, ?_⟩, Fq.rf.uI ⟨rfl, rfl⟩⟩
  · obtain ⟨a, b, d⟩ := hm.1 j hj
    have hpj := (ok.2.1 j hj).2.1
    have h5 : ∀ f, f ≠ 6 → flp c i j f = c j f := fun f h => by unfold flp sets; rw [if_neg (fun z => h z.2)]
    dsimp only at a b d ⊢
    rw [h5 1 (by decide), h5 2 (by decide), h5 5 (by decide)]
    refine ⟨?_, ?_, ?_⟩
    · rw [rI_uI, if_neg (by omega)]; exact a
    · rw [rI_uI, if_neg (by omega)]; exact b
    · rw [rI_uI, if_neg (by omega)]; exact d
  · dsimp only
    rw [rI_uI, if_pos ⟨rfl, rfl, rfl, rfl⟩, hv]
theorem sp_isOn {i : Nat} {x y : Int32} (hS : mS σ n c) (ok : okS n c) (hi : i < n) (hx : -100 ≤ x.toInt ∧ x.toInt ≤ 100) (hy : -100 ≤ y.toInt ∧ y.toInt ≤ 100) : f_X8_isOn N (nI i) x y σ = some (nI (b2n (decide (onS c i x.toInt y.toInt))), σ) := by
  have hn := ok.1
  obtain ⟨o0, o1, o2, o3, o4⟩ := (ok.2.1 i hi).1
  obtain ⟨m0, m1, m2, m3⟩ := hS
  have q1 : rI σ 22 14 0 i = nI (c i 1) := (m2 i hi).1
  have q2 : rI σ 22 14 0 (7 + i) = nI (c i 2) := (m2 i hi).2.1
  have z0 : (0 : Int32).toInt = 0 := by decide
  have t1 : (nI (c i 1) + x).toInt = (c i 1 : Int) + x.toInt := by
    have : (nI (c i 1)).toInt = c i 1 := nI_toInt (by omega)
    rw [fb_addI (by rw [this]; omega) (by rw [this]; omega), this]
  have t2 : (nI (c i 2) + y).toInt = (c i 2 : Int) + y.toInt := by
    have : (nI (c i 2)).toInt = c i 2 := nI_toInt (by omega)
    rw [fb_addI (by rw [this]; omega) (by rw [this]; omega), this]
  have u1 : ((12 : Int32) - nI (c i 3)).toInt = 12 - (c i 3 : Int) := by rw [n12, pk_sub_toInt (by decide) (by omega)]; rfl
  have u2 : ((8 : Int32) - nI (c i 4)).toInt = 8 - (c i 4 : Int) := by rw [n8, pk_sub_toInt (by decide) (by omega)]; rfl
  unfold f_X8_isOn
  rw [z_add, gi (by omega) (by decide), gi (by omega) (by decide), nI_clamp (by omega), q1, (m1 i hi).2.1, sp_in, Option.bind_some, b2n_z, t1, u1, z0]
  by_cases a1 : 0 ≤ (c i 1 : Int) + x.toInt ∧ (c i 1 : Int) + x.toInt ≤ 12 - (c i 3 : Int)
  · rw [decide_eq_true a1, if_pos rfl, n7, nI_add, gi (by omega) (by decide), gi (by omega) (by decide), nI_clamp (by omega)]
    dsimp only
    rw [q2, (m1 i hi).2.2, sp_in, Option.bind_some, b2n_z, t2, u2, z0]
    by_cases a2 : 0 ≤ (c i 2 : Int) + y.toInt ∧ (c i 2 : Int) + y.toInt ≤ 8 - (c i 4 : Int)
    · rw [decide_eq_true a2, if_pos rfl, decide_eq_true (show onS c i x.toInt y.toInt from ⟨⟨a1.1, by omega⟩, a2.1, by omega⟩)]; rfl
    · rw [decide_eq_false a2, if_neg (by decide), decide_eq_false (show ¬ onS c i x.toInt y.toInt from fun z => a2 ⟨z.2.1, by have := z.2.2; omega⟩)]; rfl
  · rw [decide_eq_false a1, if_neg (by decide), decide_eq_false (show ¬ onS c i x.toInt y.toInt from fun z => a1 ⟨z.1.1, by have := z.1.2; omega⟩)]; rfl
/-! both sides together -/
theorem sameK_plc {i to_ : Nat} : sameK n (plc c i to_) c := fun j _ => by unfold plc; simp
theorem sameK_mv {i l t : Nat} : sameK n (mvS c i l t) c := fun j _ => by
  unfold mvS
  by_cases e : j = i
  · rw [if_pos e, up_f, up_f, up_f, e]; simp
  · rw [if_neg e]; simp
theorem sameK_flp {i : Nat} : sameK n (flp c i) c := fun j _ => by unfold flp sets; simp
theorem sameK.tr {a b d : Scr} (h : sameK n a b) (h' : sameK n b d) : sameK n a d := fun i hi => ⟨(h i hi).1.trans (h' i hi).1, (h i hi).2.1.trans (h' i hi).2.1, (h i hi).2.2.trans (h' i hi).2.2⟩
theorem sameK.sy {a b : Scr} (h : sameK n a b) : sameK n b a := fun i hi => ⟨(h i hi).1.symm, (h i hi).2.1.symm, (h i hi).2.2.symm⟩
theorem sameK.rf {a : Scr} : sameK n a a := fun _ _ => ⟨rfl, rfl, rfl⟩
def mdS (t i j k : Nat) : Prop := mdR t i j k ∨ scR t i j k
def cmR (t i j k : Nat) : Prop := cdR t i j k ∨ mdS t i j k
theorem okH_ext {c0 c' : Scr} (h : okH n nd D c0) (hnd : nd < 40) (okc : okS n c') (sk : sameK n c' c0) : okH n (nd + 1) (ext D nd c') c' := by
  refine ⟨by omega, fun d hd => ?_⟩
  by_cases e : d = nd + 1
  · subst e; rw [ext_new]; exact ⟨okc, sameK.rf⟩
  · rw [ext_old (by omega)]
    exact ⟨(h.2 d (by omega)).1, (h.2 d (by omega)).2.tr sk.sy⟩
theorem keptOK_k {c0 c' : Scr} {k : Nat} (h : keptOK σ n c0 k) (sk : sameK n c' c0) : keptOK σ n c' k := by
  rcases h with h | ⟨nd, D, h1, h2, h3⟩
  · exact Or.inl h
  · exact Or.inr ⟨nd, D, ⟨h1.1, fun d hd => ⟨(h1.2 d hd).1, (h1.2 d hd).2.tr sk.sy⟩⟩, h2, h3⟩
/-- the kept ones, and the kinds, stay as they are when deeds are done -/
theorem iScr_new {τ : Sg} {nd' : Nat} {D' : Nat → Scr} (hs : iScr σ n nd D) (f : Fq cmR σ τ) (ho : okH n nd' D' (D' nd')) (sk : sameK n (D' nd') (D nd)) (hc : cH τ 0 0 n nd' D') (hm : mH τ n nd' D') : iScr τ n nd' D' := by
  obtain ⟨h0, h1, h2, h3, h4, h5⟩ := hs
  refine ⟨h0, ho, hc, hm, ⟨((f 21 0 0 10 (by unfold cmR cdR mdS mdR scR; omega)).1).trans h4.1, fun i hi => ?_⟩, fun k hk => keptOK_k (keptOK_fr f (h5 k hk) (fun j l => by unfold cmR cdR mdS mdR scR; omega) (fun j l => by unfold cmR cdR mdS mdR scR; omega) (by unfold cmR cdR mdS mdR scR; omega) (fun j l => by unfold cmR cdR mdS mdR scR; omega) (fun l _ => by unfold cmR cdR mdS mdR scR; omega) (fun l _ => by unfold cmR cdR mdS mdR scR; omega) (by unfold cmR cdR mdS mdR scR; omega)) sk⟩
  · obtain ⟨a, b, d⟩ := h4.2 i hi
    obtain ⟨a', b', d'⟩ := sk i hi
    rw [a', b', d']
    exact ⟨((f 22 11 0 i (by unfold cmR cdR mdS mdR scR; omega)).1).trans a, ((f 22 12 0 i (by unfold cmR cdR mdS mdR scR; omega)).1).trans b, ((f 22 13 0 i (by unfold cmR cdR mdS mdR scR; omega)).1).trans d⟩
theorem Inv_deed {τ : Sg} {nd' : Nat} {D' : Nat → Scr} (hI : Inv σ) (f : Fq cmR σ τ) (h : iScr τ n nd' D') : Inv τ := by
  refine Inv_scr hI (f.mono (fun t i j k z => ?_)) h
  unfold cmR cdR mdS mdR at z
  rcases z with z | z | z
  · exact Or.inr (by unfold fScr; omega)
  · exact Or.inr (by unfold fScr; omega)
  · exact Or.inl z
def ccR (t i j k : Nat) : Prop := cdR t i j k ∨ scR t i j k
theorem mH_cd {τ : Sg} (h : mH σ n nd D) (f : Fq cdR σ τ) : mH (th0 τ) n nd D :=
  mH_fr (R := ccR) (f.tr th0_fr (fun _ _ _ _ z => Or.inl z) (fun _ _ _ _ z => Or.inr z)) h (fun k => by unfold ccR cdR scR; omega) (fun k => by unfold ccR cdR scR; omega) (by unfold ccR cdR scR; omega)
theorem mS_cd {τ : Sg} (h : iScr σ n nd D) (f : Fq cdR σ τ) : mS (th0 τ) n (D nd) := by
  have f' : Fq ccR σ (th0 τ) := f.tr th0_fr (fun _ _ _ _ z => Or.inl z) (fun _ _ _ _ z => Or.inr z)
  have hk : mK (th0 τ) n (D nd) := mK_fr f' h.2.2.2.2.1 (by unfold ccR cdR scR; omega) (fun k => by unfold ccR cdR scR; omega) (fun k => by unfold ccR cdR scR; omega) (fun k => by unfold ccR cdR scR; omega)
  exact ⟨hk.1, hk.2, (mH_cd h.2.2.2.1 f).1⟩
theorem cH_md {τ : Sg} {nd' : Nat} {D' : Nat → Scr} (h : cH σ 0 0 n nd' D') (f : Fq mdS σ τ) : cH τ 0 0 n nd' D' :=
  cH_fr f h (fun j k => by unfold mdS mdR scR; omega) (fun j k => by unfold mdS mdR scR; omega) (by unfold mdS mdR scR; omega) (fun j k => by unfold mdS mdR scR; omega)
theorem fq_cm {τ υ : Sg} (f1 : Fq cdR σ τ) (f2 : Fq mdR (th0 τ) υ) : Fq cmR σ υ ∧ Fq mdS τ υ := by
  have g : Fq mdS τ υ := th0_fr.tr f2 (fun _ _ _ _ z => Or.inr z) (fun _ _ _ _ z => Or.inl z)
  exact ⟨f1.tr g (fun _ _ _ _ z => Or.inl z) (fun _ _ _ _ z => Or.inr z), g⟩
/-- a deed done on both sides -/
theorem Inv_step {σ1 σ2 : Sg} {c' : Scr} (hI : Inv σ) (hs : iScr σ n nd D) (hnd : nd < 40) (okc : okS n c') (sk : sameK n c' (D nd)) (hc : cH σ1 0 0 n (nd + 1) (ext D nd c')) (f1 : Fq cdR σ σ1) (hm : mH σ2 n (nd + 1) (ext D nd c')) (f2 : Fq mdR (th0 σ1) σ2) : Inv σ2 := by
  obtain ⟨g1, g2⟩ := fq_cm f1 f2
  refine Inv_deed hI g1 (iScr_new hs g1 ?_ ?_ (cH_md hc g2) hm)
  · rw [ext_new]; exact okH_ext hs.2.1 hnd okc sk
  · rw [ext_new]; exact sk
theorem iScr.oks (h : iScr σ n nd D) : ∀ d, d ≤ nd → okS n (D d) := fun d hd => (h.2.1.2 d hd).1
theorem mo_shifts {i to_ : Nat} (hS : mS σ n (D nd)) (h : mH σ n nd D) (oks : ∀ d, d ≤ nd → okS n (D d)) (hd : nd ≤ 40) (hi : i < n) (ht : to_ < n) (hN : 22 < N) :
    (D nd i 5 = to_ → f_X8_shifts N (nI i) (nI to_) σ = some (-4, σ)) ∧ (D nd i 5 ≠ to_ → nd = 40 → f_X8_shifts N (nI i) (nI to_) σ = some (-2, σ)) ∧
    (D nd i 5 ≠ to_ → nd < 40 → ∃ υ, f_X8_shifts N (nI i) (nI to_) σ = some (nI (D nd i 5), υ) ∧ mH υ n (nd + 1) (ext D nd (plc (D nd) i to_)) ∧ Fq mdR σ υ) := by
  have ok := oks nd (Nat.le_refl _)
  have hn := ok.1
  have hp := (ok.2.1 i hi).2.1
  have hin : 0 ≤ (nI i).toInt ∧ (nI i).toInt < (n : Nat) := by rw [nI_toInt (by omega)]; omega
  have c0 : f_X8_shifts N (nI i) (nI to_) σ = f_X8_shifts N (nI i) (nI to_) σ := rfl
  conv at c0 =>
    rhs
    rw [f_X8_shifts, sp_isPane hS.1 hn, Option.bind_some, b2n_z, decide_eq_true hin, if_pos rfl, sp_placeOf hS.2.2 ok hi (show 7 < N by omega), Option.bind_some]
  dsimp only at c0
  rw [h.2.1] at c0
  refine ⟨fun e => ?_, fun e e40 => ?_, fun e e40 => ?_⟩
  · rw [c0, ieq_t e]
  · rw [c0, ieq_f e (by omega) (by omega), n40, ieq_t e40]
  · obtain ⟨τ, υ, x1, -, -, x2, x3, x4⟩ := mo_comes h oks e40 hi ht hN
    refine ⟨υ, ?_, x3, x4⟩
    rw [c0, ieq_f e (by omega) (by omega), n40, ieq_f (by omega) (by omega) (by decide), x1, Option.bind_some, x2]
    rfl
end Deed2
