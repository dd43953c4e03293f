section Order2
variable {N n nd : Nat} {σ : Sg} {D : Nat → Scr} {c : Scr}
def rwF (r : Nat) (t i j k : Nat) : Prop := (t = 22 ∧ i = 7 ∧ k = r) ∨ (t = 22 ∧ i = 6 ∧ 40 * r ≤ k ∧ k < 40 * r + 40)
def oR (r : Nat) (t i j k : Nat) : Prop := scR t i j k ∨ rwF r t i j k
theorem mo_o96 {r : Nat} {p : Nat → Nat} (K : Int32 → Sg → Option (Int32 × Sg)) (ha : arr σ n p) (hn : n ≤ 7) (hr : r < 6) (a2 : Int32) (hN : 100 < N) :
    ∃ v υ, L_X8_order_96 N K (nI r) a2 N 0 σ = K v υ ∧ (∀ k, k < n → rI υ 22 6 0 (40 * r + k) = nI (p k)) ∧ Fq (fun t i j k => t = 22 ∧ i = 6 ∧ j = 0 ∧ 40 * r ≤ k ∧ k < 40 * r + 40) σ υ := by
  obtain ⟨υ, e, h1, h2⟩ := up_rel (fun q v τ => L_X8_order_96 N K (nI r) a2 q v τ) K
    (fun j τ => (∀ k, k < j → rI τ 22 6 0 (40 * r + k) = nI (p k)) ∧ Fq (fun t i j k => t = 22 ∧ i = 6 ∧ j = 0 ∧ 40 * r ≤ k ∧ k < 40 * r + 40) σ τ) n
    (fun q τ h => by
      show L_X8_order_96 N _ _ _ (q + 1) _ _ = _
      rw [L_X8_order_96_s, (h.2 21 0 0 10 (by omega)).1, ha.1, ile_t (Nat.le_refl _) (by omega)])
    (fun q j τ hj h => by
      refine ⟨uI τ 22 6 0 (40 * r + j) (nI (p j)), ?_, fun k hk => ?_, h.2.uI ⟨rfl, rfl, rfl, by omega, by omega⟩⟩
      · show L_X8_order_96 N _ _ _ (q + 1) _ _ = L_X8_order_96 N _ _ _ q _ _
        rw [L_X8_order_96_s, (h.2 21 0 0 10 (by omega)).1, ha.1, ile_f hj (by omega), n14, n40, pk_mul, nI_add, nI_add, gi (by omega) (by decide), gi (by omega) (by decide), nI_clamp (by omega), nI_clamp (by omega), (h.2 22 21 0 (14 + j) (by omega)).1, (ha.2 j hj).2, nI_1]
      · rw [rI_uI]
        by_cases e : k = j
        · subst e; rw [if_pos ⟨rfl, rfl, rfl, rfl⟩]
        · rw [if_neg (fun z => e (by omega))]; exact h.1 k (by omega))
    n 0 σ N (by omega) ⟨fun k hk => by omega, Fq.rf⟩ (by omega)
  exact ⟨_, υ, e, h1, h2⟩
/-- what is found so far -/
def ovx' (τ : Sg) (n r : Nat) (v : Int32) : Option (Nat × List Nat) → Prop
  | none => v = -1
  | some t => v = nI t.1 ∧ t.1 ≤ 7 ∧ (∀ k, k < n → rI τ 22 6 0 (40 * r + k) = nI (gtl t.2 k)) ∧ rI τ 22 7 0 r = nI n
def oJ (τ : Sg) (n : Nat) (c : Scr) (a : List Nat) : Prop := arr τ n (gtl a) ∧ (∃ c', sp5 c' c ∧ mW τ n c') ∧ mC τ n c
theorem ovx_fr {τ υ : Sg} {r : Nat} {v : Int32} {s : Option (Nat × List Nat)} (h : ovx' τ n r v s) (h6 : ∀ k, rI υ 22 6 0 k = rI τ 22 6 0 k) (h7 : ∀ k, rI υ 22 7 0 k = rI τ 22 7 0 k) : ovx' υ n r v s := by
  cases s with
  | none => exact h
  | some t => exact ⟨h.1, h.2.1, fun k hk => (h6 _).trans (h.2.2.1 k hk), (h7 _).trans h.2.2.2⟩
theorem mW_q {R : Nat → Nat → Nat → Nat → Prop} {τ : Sg} (f : Fq R σ τ) (hW : mW σ n c) (h1 : ¬ R 21 0 0 10) (h2 : ∀ i k, (i = 12 ∨ i = 13 ∨ i = 20 ∨ i = 21) → ¬ R 22 i 0 k) : mW τ n c := by
  refine ⟨((f 21 0 0 10 h1).1).trans hW.1, fun i hi => ?_, isMod_fr hW.2.2 (fun k => (f 22 21 0 k (h2 21 k (by omega))).1)⟩
  obtain ⟨a, b, d⟩ := hW.2.1 i hi
  exact ⟨((f 22 20 0 i (h2 20 i (by omega))).1).trans a, ((f 22 12 0 i (h2 12 i (by omega))).1).trans b, ((f 22 13 0 i (h2 13 i (by omega))).1).trans d⟩
theorem mC_q {R : Nat → Nat → Nat → Nat → Prop} {τ : Sg} (f : Fq R σ τ) (hC : mC σ n c) (h : ∀ i k, ¬ R 23 i 0 k) : mC τ n c := fun i hi => ⟨((f 23 22 0 i (h _ _)).2).trans (hC i hi).1, ((f 23 23 0 i (h _ _)).2).trans (hC i hi).2⟩
theorem mW_arr2 {τ : Sg} {c' : Scr} {b : List Nat} (w : mW σ n c') (s5 : sp5 c' c) (g2 : Fq r14 σ τ) (hpb : b.Perm (List.range n)) (hab : arr τ n (gtl b)) : mW τ n (cpl c b) := by
  obtain ⟨w0, w1, w2, w3⟩ := w
  have hnn : n ≤ 7 ∨ 7 < n := by omega
  refine ⟨((g2 21 0 0 10 (by unfold r14; omega)).1).trans w0, fun i hi => ?_, fun i hi => ?_, ?_⟩
  · obtain ⟨x, y, z⟩ := w1 i hi
    rw [s5 i 0 (by decide)] at x
    rw [s5 i 3 (by decide)] at y
    rw [s5 i 4 (by decide)] at z
    exact ⟨((g2 22 20 0 i (by unfold r14; omega)).1).trans x, ((g2 22 12 0 i (by unfold r14; omega)).1).trans y, ((g2 22 13 0 i (by unfold r14; omega)).1).trans z⟩
  · obtain ⟨x, y, -⟩ := w2 i hi
    obtain ⟨p1, p2⟩ := pm_at hpb hi
    have hi7 : i < 7 := by rw [← p2]; exact (hab.2 _ p1).1
    dsimp only at x y
    rw [s5 i 1 (by decide)] at x
    rw [s5 i 2 (by decide)] at y
    refine ⟨((g2 22 21 0 i (by unfold r14; omega)).1).trans x, ((g2 22 21 0 (7 + i) (by unfold r14; omega)).1).trans y, ?_⟩
    dsimp only
    rw [cpl_5, (hab.2 _ p1).2, p2]
  · dsimp only at w3
    rw [msk_cong (fun j _ => s5.op j)] at w3
    have e4 : msk (opn (cpl c b)) n = msk (opn c) n := msk_cong (fun j _ => (cpl_s c b).op j)
    rw [e4]
    exact ((g2 22 21 0 21 (by unfold r14; omega)).1).trans w3
/-- one order is looked at -/
theorem mo_look {r q : Nat} {a : List Nat} {s : Option (Nat × List Nat)} {v2 : Int32} (K : Int32 → Int32 → Sg → Option (Int32 × Sg)) (ok : okS n c) (hn2 : 2 ≤ n) (hr : r < 6) (hp : a.Perm (List.range n)) {τ : Sg} (hJ : oJ τ n c a) (hv : ovx' τ n r v2 s) (hF : Fq (oR r) σ τ) (hN : 100 < N) :
    ∃ v3 ω, L_X8_order_62 N K (nI r) (q + 1) v2 1 τ = (f_X8_nextOrder N ω).bind (fun w => L_X8_order_62 N K (nI r) q v3 w.1 w.2) ∧ oJ ω n c a ∧ ovx' ω n r v3 (cmb s (some (vlo n c a, a))) ∧ Fq (oR r) σ ω := by
  have hn := ok.1
  obtain ⟨ha, ⟨c', s5, hW⟩, hC⟩ := hJ
  have hW2 := mW_arr hW s5 hp ha
  have okl := cpl_ok hp ok
  obtain ⟨ψ, e1, v1, f1⟩ := sp_seeing (N := N) hW2 (mC_5 hC (cpl_s c a)) okl (by omega)
  have hWψ := rgV_mW f1 hW2
  have hCψ := rgV_mC f1 hC
  have ms : f_X8_manySeen N ψ = some (nI (vlo n c a), ψ) := mo_manySeen hWψ.1 v1 hn (by omega)
  have haψ : arr ψ n (gtl a) := ⟨hWψ.1, fun k hk => ⟨(ha.2 k hk).1, ((f1 22 21 0 (by unfold rgV; omega) _).1).trans (ha.2 k hk).2⟩⟩
  have fψ : Fq (oR r) σ ψ := hF.tr (f1.q (R2 := fun t i j _ => rgV t i j) (fun _ _ _ _ z => z)) (fun _ _ _ _ z => z) (fun t i j k z => Or.inl (by unfold rgV at z; unfold scR; omega))
  have hle : vlo n c a ≤ 7 := Nat.le_trans (fb_ct_le _ _) hn
  have hvψ : ovx' ψ n r v2 s := ovx_fr hv (fun k => (f1 22 6 0 (by unfold rgV; omega) k).1) (fun k => (f1 22 7 0 (by unfold rgV; omega) k).1)
  have c0 : L_X8_order_62 N K (nI r) (q + 1) v2 1 τ = (if nI (vlo n c a) ≤ v2 then ((f_X8_nextOrder N ψ).bind (fun w7 => L_X8_order_62 N K (nI r) q v2 w7.1 w7.2)) else (L_X8_order_96 N (fun v4_9 σ_9 => (f_X8_nextOrder N σ_9).bind (fun w10 => L_X8_order_62 N K (nI r) q (nI (vlo n c a)) w10.1 w10.2)) (nI r) (nI (vlo n c a)) N (0 : Int32) (uI ψ 22 7 0 r (nI n)))) := by
    rw [L_X8_order_62_s, if_neg (by decide), e1, Option.bind_some, ms, Option.bind_some]
    dsimp only
    rw [ms, Option.bind_some, gi hr (by decide), nI_clamp (by omega)]
    dsimp only
    rw [hWψ.1]
  have better : ¬ nI (vlo n c a) ≤ v2 → cmb s (some (vlo n c a, a)) = some (vlo n c a, a) → ∃ v3 ω, L_X8_order_62 N K (nI r) (q + 1) v2 1 τ = (f_X8_nextOrder N ω).bind (fun w => L_X8_order_62 N K (nI r) q v3 w.1 w.2) ∧ oJ ω n c a ∧ ovx' ω n r v3 (cmb s (some (vlo n c a, a))) ∧ Fq (oR r) σ ω := by
    intro h1 h2
    obtain ⟨v, ω, g1, g2, g3⟩ := mo_o96 (N := N) (σ := uI ψ 22 7 0 r (nI n)) (p := gtl a) (fun v4_9 σ_9 => (f_X8_nextOrder N σ_9).bind (fun w10 => L_X8_order_62 N K (nI r) q (nI (vlo n c a)) w10.1 w10.2)) haψ hn hr (nI (vlo n c a)) hN
    have f0 : Fq (rwF r) ψ (uI ψ 22 7 0 r (nI n)) := Fq.rf.uI (Or.inl ⟨rfl, rfl, rfl⟩)
    have f2 : Fq (rwF r) ψ ω := f0.tr g3 (fun _ _ _ _ z => z) (fun t i j k z => Or.inr ⟨z.1, z.2.1, z.2.2.2.1, z.2.2.2.2⟩)
    refine ⟨nI (vlo n c a), ω, by rw [c0, if_neg h1, g1], ⟨⟨((f2 21 0 0 10 (by unfold rwF; omega)).1).trans haψ.1, fun k hk => ⟨(haψ.2 k hk).1, ((f2 22 21 0 _ (by unfold rwF; omega)).1).trans (haψ.2 k hk).2⟩⟩, ⟨cpl c a, cpl_s c a, mW_q f2 hWψ (by unfold rwF; omega) (fun i k h => by unfold rwF; omega)⟩, mC_q f2 hCψ (fun i k => by unfold rwF; omega)⟩, ?_, fψ.tr f2 (fun _ _ _ _ z => z) (fun _ _ _ _ z => Or.inr z)⟩
    rw [h2]
    refine ⟨rfl, hle, g2, ?_⟩
    rw [(g3 22 7 0 r (by omega)).1, rI_uI, if_pos ⟨rfl, rfl, rfl, rfl⟩]
  cases s with
  | none =>
    have hv' : v2 = -1 := hv
    exact better (by rw [hv']; intro z; exact absurd (ile_m1 (α := Nat) (a := vlo n c a) (by omega) 0 1) (by rw [if_pos z]; decide)) rfl
  | some t =>
    have hvk := hvψ
    obtain ⟨t1, t2, -, -⟩ := hvψ
    by_cases hl : vlo n c a ≤ t.1
    · have e : cmb (some t) (some (vlo n c a, a)) = some t := if_pos hl
      refine ⟨v2, ψ, ?_, ⟨haψ, ⟨cpl c a, cpl_s c a, hWψ⟩, hCψ⟩, by rw [e]; exact hvk, fψ⟩
      rw [c0, t1, ile_t hl (by omega)]
    · refine better (by rw [t1]; exact nI_ge (by omega) (by omega)) (if_neg hl)
theorem mo_o62 {r : Nat} (K : Int32 → Int32 → Sg → Option (Int32 × Sg)) (ok : okS n c) (hn2 : 2 ≤ n) (hr : r < 6) (hN : 100 < N) : ∀ (R : List (List Nat)) (a : List Nat) (s : Option (Nat × List Nat)) (v2 : Int32) (τ : Sg) (q : Nat), chk n a R = true → a.Perm (List.range n) → (∀ b, b ∈ R → b.Perm (List.range n)) → oJ τ n c a → ovx' τ n r v2 s → Fq (oR r) σ τ → R.length + 2 ≤ q →
    ∃ v3 w ω, L_X8_order_62 N K (nI r) q v2 1 τ = K v3 w ω ∧ ovx' ω n r v3 (cmb s (fst1 (vlo n c) (a :: R))) ∧ Fq (oR r) σ ω := by
  have hn := ok.1
  intro R
  induction R with
  | nil =>
    intro a s v2 τ q hc hp _ hJ hv hF hq
    obtain ⟨q, rfl⟩ : ∃ e, q = e + 2 := ⟨q - 2, by simp at hq; omega⟩
    obtain ⟨v3, ω, e, j1, j2, j3⟩ := mo_look (N := N) (q := q + 1) K ok hn2 hr hp hJ hv hF hN
    obtain ⟨k1, -⟩ := sp_next (N := N) j1.1 hn hn2 hN
    have hz : pvt (gtl a) (n - 1) = 0 := Nat.eq_of_beq_eq_true hc
    refine ⟨v3, 0, ω, ?_, ?_, j3⟩
    · rw [e, k1 hz, Option.bind_some]
      dsimp only
      rw [L_X8_order_62_s, if_pos rfl]
    · show ovx' ω n r v3 (cmb s (cmb (some (vlo n c a, a)) none))
      rw [cmb_n]; exact j2
  | cons b R ih =>
    intro a s v2 τ q hc hp hR hJ hv hF hq
    obtain ⟨q, rfl⟩ : ∃ e, q = e + 1 := ⟨q - 1, by omega⟩
    obtain ⟨v3, ω, e, j1, j2, j3⟩ := mo_look (N := N) (q := q) K ok hn2 hr hp hJ hv hF hN
    obtain ⟨-, k2⟩ := sp_next (N := N) j1.1 hn hn2 hN
    have hc' : (!(Nat.beq (pvt (gtl a) (n - 1)) 0) && (eql ((List.range n).map (nxt n (gtl a))) b && chk n b R)) = true := hc
    rw [Bool.and_eq_true, Bool.and_eq_true] at hc'
    obtain ⟨x1, x2, x3⟩ := hc'
    have hnz : pvt (gtl a) (n - 1) ≠ 0 := fun z => by rw [z] at x1; exact absurd x1 (by decide)
    obtain ⟨ω2, e2, g1, g2⟩ := k2 hnz
    have eb := eql_eq x2
    have hpb := hR b List.mem_cons_self
    have hab : arr ω2 n (gtl b) := ⟨g1.1, fun k hk => by
      have e3 : gtl b k = nxt n (gtl a) k := by
        rw [← eb]
        show List.getD _ k 0 = _
        rw [List.getD_eq_getElem?_getD, List.getElem?_map, List.getElem?_range hk]; rfl
      rw [e3]; exact g1.2 k hk⟩
    have hWx : mW ω2 n (cpl c b) ∧ mC ω2 n c := by
      obtain ⟨-, ⟨c', s5, w⟩, cc⟩ := j1
      exact ⟨mW_arr2 w s5 g2 hpb hab, mC_q g2 cc (fun i k => by unfold r14; omega)⟩
    obtain ⟨v4, w4, ω4, z1, z2, z3⟩ := ih b (cmb s (some (vlo n c a, a))) v3 ω2 q x3 hpb (fun y hy => hR y (List.mem_cons_of_mem _ hy)) ⟨hab, ⟨cpl c b, cpl_s c b, hWx.1⟩, hWx.2⟩ (ovx_fr j2 (fun k => (g2 22 6 0 k (by unfold r14; omega)).1) (fun k => (g2 22 7 0 k (by unfold r14; omega)).1)) (j3.tr g2 (fun _ _ _ _ z => z) (fun t i j k z => Or.inl (by unfold r14 at z; unfold scR; omega))) (by simp at hq ⊢; omega)
    refine ⟨v4, w4, ω4, ?_, ?_, z3⟩
    · rw [e, e2, Option.bind_some]; exact z1
    · rw [cmb_as] at z2; exact z2
theorem mo_o34 (K : Int32 → Sg → Option (Int32 × Sg)) (h0 : rI σ 21 0 0 10 = nI n) (hn : n ≤ 7) (a1 : Int32) (hN : 100 < N) :
    ∃ v υ, L_X8_order_34 N K a1 N 0 σ = K v υ ∧ arr υ n (gtl (List.range n)) ∧ Fq r14 σ υ := by
  obtain ⟨υ, e, h1, h2⟩ := up_rel (fun q v τ => L_X8_order_34 N K a1 q v τ) K
    (fun j τ => (∀ k, k < j → rI τ 22 21 0 (14 + k) = nI k) ∧ Fq r14 σ τ) n
    (fun q τ h => by
      show L_X8_order_34 N _ _ (q + 1) _ _ = _
      rw [L_X8_order_34_s, (h.2 21 0 0 10 (by unfold r14; omega)).1, h0, ile_t (Nat.le_refl _) (by omega)])
    (fun q j τ hj h => by
      refine ⟨uI τ 22 21 0 (14 + j) (nI j), ?_, fun k hk => ?_, h.2.uI ⟨rfl, rfl, rfl, by omega, by omega⟩⟩
      · show L_X8_order_34 N _ _ (q + 1) _ _ = L_X8_order_34 N _ _ q _ _
        rw [L_X8_order_34_s, (h.2 21 0 0 10 (by unfold r14; omega)).1, h0, ile_f hj (by omega), n14, nI_add, gi (by omega) (by decide), nI_clamp (by omega), nI_1]
      · rw [rI_uI]
        by_cases e : k = j
        · subst e; rw [if_pos ⟨rfl, rfl, rfl, rfl⟩]
        · rw [if_neg (fun z => e (by omega))]; exact h.1 k (by omega))
    n 0 σ N (by omega) ⟨fun k hk => by omega, Fq.rf⟩ (by omega)
  refine ⟨_, υ, e, ⟨((h2 21 0 0 10 (by unfold r14; omega)).1).trans h0, fun k hk => ?_⟩, h2⟩
  have e3 : gtl (List.range n) k = k := by
    show List.getD _ k 0 = _
    rw [List.getD_eq_getElem?_getD, List.getElem?_range hk]; rfl
  rw [e3]
  exact ⟨by omega, h1 k hk⟩
def fcl : Nat → Nat
  | 0 => 1
  | m + 1 => (m + 1) * fcl m
theorem lxP_len : ∀ (m : Nat) (l : List Nat), l.length = m → (lxP m l).length = fcl m
  | 0, _, _ => rfl
  | m + 1, l, hl => by
    have key : ∀ w : List Nat, (∀ v, v ∈ w → v ∈ l) → (w.flatMap (fun v => (lxP m (l.erase v)).map (fun r => v :: r))).length = w.length * fcl m := by
      intro w
      induction w with
      | nil => intro _; show 0 = 0 * _; omega
      | cons v w ih =>
        intro h
        have hle : (l.erase v).length = m := by rw [List.length_erase_of_mem (h v List.mem_cons_self), hl]; rfl
        rw [List.flatMap_cons, List.length_append, List.length_map, lxP_len m _ hle, ih (fun x hx => h x (List.mem_cons_of_mem _ hx)), List.length_cons, Nat.add_mul, Nat.one_mul, Nat.add_comm]
    have := key l (fun _ h => h)
    rw [hl] at this
    exact this
theorem chk_all : ∀ n, 2 ≤ n → n ≤ 7 → chk0 n (lxP n (List.range n)) = true := by
  intro n h1 h2
  rcases (show n = 2 ∨ n = 3 ∨ n = 4 ∨ n = 5 ∨ n = 6 ∨ n = 7 by omega) with rfl | rfl | rfl | rfl | rfl | rfl
  · exact chk_2
  · exact chk_3
  · exact chk_4
  · exact chk_5
  · exact chk_6
  · exact chk_7
theorem fcl_le (hn : n ≤ 7) : fcl n ≤ 5040 := by
  rcases (show n = 0 ∨ n = 1 ∨ n = 2 ∨ n = 3 ∨ n = 4 ∨ n = 5 ∨ n = 6 ∨ n = 7 by omega) with rfl | rfl | rfl | rfl | rfl | rfl | rfl | rfl <;> decide
theorem mo_order {r : Nat} (K : Int32 → Int32 → Sg → Option (Int32 × Sg)) (ok : okS n c) (hn2 : 2 ≤ n) (hr : r < 6) {τ : Sg} (hJ : oJ τ n c (List.range n)) (hF : Fq (oR r) σ τ) (hN : 6000 < N) :
    ∃ t w ω, bs n c n (List.range n) = some t ∧ L_X8_order_62 N K (nI r) N (-1) 1 τ = K (nI t.1) w ω ∧ (∀ k, k < n → rI ω 22 6 0 (40 * r + k) = nI (gtl t.2 k)) ∧ rI ω 22 7 0 r = nI n ∧ Fq (oR r) σ ω := by
  have hn := ok.1
  have hc := chk_all n hn2 hn
  have hl := lxP_len n (List.range n) List.length_range
  have hf := fcl_le hn
  have hp := lxP_perm n (List.range n) List.length_range
  have hb := bs_is (n := n) (c := c) n (List.range n) List.length_range
  generalize lxP n (List.range n) = L at *
  cases L with
  | nil => cases hc
  | cons a R =>
    have hc' : (eql a (List.range n) && chk n a R) = true := hc
    rw [Bool.and_eq_true] at hc'
    have ea := eql_eq hc'.1
    subst ea
    obtain ⟨v3, w, ω, e, h1, h2⟩ := mo_o62 (N := N) (σ := σ) K ok hn2 hr (by omega) R (List.range n) none (-1) τ N hc'.2 (List.Perm.refl _) (fun b hb => hp b (List.mem_cons_of_mem _ hb)) hJ rfl hF (by rw [List.length_cons] at hl; omega)
    obtain ⟨t, x1, -, -⟩ := bs_some (n := n) (c := c) n (List.range n) List.length_range
    have e2 : cmb none (fst1 (vlo n c) (List.range n :: R)) = some t := by
      show fst1 (vlo n c) (List.range n :: R) = some t
      rw [fst1_cong (g := pvl n c) (fun b hb => vlo_pvl (hp b hb) ok), ← hb]; exact x1
    rw [e2] at h1
    obtain ⟨k1, k2, k3, k4⟩ := h1
    exact ⟨t, w, ω, x1, by rw [e, k1], k3, k4, h2⟩
theorem st_order (p0 : Int32) (hN : 6000 < N) : StepI (f_X7_order N p0) (f_X8_order N p0) := by
  intro σ hI
  obtain ⟨n, nd, D, hs⟩ := hI.2.2.2.2.2
  have ok := hs.ok
  have hn := ok.1
  have hs2 : iScr (th0 σ) n nd D := hs.q (tl_sc th0_fr)
  by_cases hr : 0 ≤ p0.toInt ∧ p0.toInt < (6 : Nat)
  · obtain ⟨r, hr6, rfl⟩ := in_nI hr (by decide)
    rcases hs.1 with rfl | hn2
    · refine ⟨-4, σ, th0 σ, ?_, ?_, Inv_th0 hI⟩
      · unfold f_X7_order
        rw [sp_isRow7, Option.bind_some, b2n_z, decide_eq_true hr, if_pos rfl, hs.scr.1, iz_t rfl]
      · unfold f_X8_order
        rw [← th0, sp_isRow8, Option.bind_some, b2n_z, decide_eq_true hr, if_pos rfl, hs2.mS.1, iz_t rfl]
    · obtain ⟨τ0, e0, -, f0⟩ := sp_fill (N := N) (σ := σ) (t := 3) (i := r) (j := 0) (an := 40) (v := 0) (by decide) (by omega)
      have q1 : Fq (rgR r) σ (uI τ0 2 r 0 1 (nI n)) := (f0.mono (fun t i j k z => by unfold rgR; omega)).uI (by unfold rgR; omega)
      have hS1 : isScr (uI τ0 2 r 0 1 (nI n)) 0 n (D nd) := hs.scr.frq q1 (fun j k => by unfold rgR scR fTold; omega) (fun j k => by unfold rgR scR fTold; omega)
      have h15 : rI (uI τ0 2 r 0 1 (nI n)) 15 0 0 0 = 0 := ((q1 15 0 0 0 (by unfold rgR scR fTold; omega)).1).trans hI.2.2.2.1.2.2
      obtain ⟨τ, t, b1, e1, r1, f1⟩ := cl_into (N := N) hS1 ok hn2 hr6 h15 (by omega)
      have q2 : Fq (rgR r) σ τ := q1.tr f1 (fun _ _ _ _ z => z) (fun t i j k z => by unfold ofR at z; unfold rgR scR; omega)
      have q3 : Fq (rgR r) σ (th0 τ) := q2.tr th0_fr (fun _ _ _ _ z => z) (fun t i j k z => Or.inl z)
      have hm : mS (th0 τ) n (D nd) := (iScr_fr q3 hs (fun t i j k ha hb => by simp only [fScr, rgR, scR, fTold] at ha hb; omega)).mS
      obtain ⟨τ1, a1, w1, g1⟩ := sp_asNow (N := N) (by omega) hm ok
      obtain ⟨τ2, a2, w2, cc2, g2⟩ := sp_coveringAll (N := N) w1 ok (by omega)
      have fA : Fr rgA (th0 τ) τ2 := g1.tr g2 (fun _ _ _ z => rgW_A z) (fun _ _ _ z => rgC_A z)
      obtain ⟨v3, τ3, a3, h3, f3⟩ := mo_o34 (N := N) (n := n) (fun v2_4 σ_4 => L_X8_order_62 N (fun v2_11 v3_11 σ_11 => some (v2_11, σ_11)) (nI r) N (-1 : Int32) (1 : Int32) σ_4) w2.1 hn (nI r) (by omega)
      have q4 : Fq (oR r) (th0 τ) τ3 := (fA.q (fun _ _ _ _ z => Or.inl (rgA_sc z))).tr f3 (fun _ _ _ _ z => z) (fun t i j k z => Or.inl (by unfold r14 at z; unfold scR; omega))
      obtain ⟨t', w, ω, b2, e2, r2, s2, f4⟩ := mo_order (N := N) (σ := th0 τ) (r := r) (fun v2_11 v3_11 σ_11 => some (v2_11, σ_11)) ok hn2 hr6 ⟨h3, ⟨cpl (D nd) (List.range n), cpl_s _ _, mW_arr2 w2 (fun _ _ _ => rfl) f3 (List.Perm.refl _) h3⟩, mC_q f3 cc2 (fun i k => by unfold r14; omega)⟩ q4 hN
      rw [b1] at b2
      cases b2
      have q5 : Fq (rgR r) σ ω := q3.tr f4 (fun _ _ _ _ z => z) (fun t i j k z => z.elim (fun z => Or.inl z) (fun z => Or.inr (Or.inr (Or.inr z))))
      refine ⟨nI t.1, τ, ω, ?_, ?_, Inv_row1 (r := r) hI q5 hr6 (Or.inr ⟨n, by omega, ?_, s2, fun k hk => ?_⟩) ?_⟩
      · unfold f_X7_order f_X3_renew
        rw [sp_isRow7, Option.bind_some, b2n_z, decide_eq_true hr, if_pos rfl, hs.scr.1, iz_f (by omega) (by omega), gi hr6 (by decide), nI_clamp (by omega)]
        simp only [e0, Option.bind_some]
        rw [gi hr6 (by decide), e1, Option.bind_some]
      · unfold f_X8_order
        rw [← th0, sp_isRow8, Option.bind_some, b2n_z, decide_eq_true hr, if_pos rfl, hm.1, iz_f (by omega) (by omega)]
        dsimp only
        rw [a1, Option.bind_some, a2, Option.bind_some, a3, e2]
      · rw [(f4 2 r 0 1 (by unfold oR scR rwF; omega)).1, (th0_fr 2 r 0 1 (by unfold scR; omega)).1, (f1 2 r 0 1 (by unfold ofR; omega)).1, rI_uI, if_pos ⟨rfl, rfl, rfl, rfl⟩]
      · rw [(f4 3 r 0 k (by unfold oR scR rwF; omega)).1, (th0_fr 3 r 0 k (by unfold scR; omega)).1, r1 k hk, r2 k hk]
      · exact iTold_fr (R := fun t i j k => rgR r t i j k ∧ ¬ fTold t i j k) (fun t i j k hz => by
          by_cases ht : fTold t i j k
          · have n1' : ¬ scR t i j k := by unfold fTold at ht; unfold scR; omega
            have x1 := f4 t i j k (by unfold fTold at ht; unfold oR rwF scR; omega)
            have x2 := th0_fr (σ := τ) t i j k n1'
            have x3 := f1 t i j k (by unfold fTold at ht; unfold ofR; omega)
            have x4 := f0 t i j k (by unfold fTold at ht; omega)
            have x5 : rI (uI τ0 2 r 0 1 (nI n)) t i j k = rI τ0 t i j k ∧ rL (uI τ0 2 r 0 1 (nI n)) t i j k = rL τ0 t i j k := ⟨by rw [rI_uI, if_neg (by unfold fTold at ht; omega)], rfl⟩
            exact ⟨x1.1.trans (x2.1.trans (x3.1.trans (x5.1.trans x4.1))), x1.2.trans (x2.2.trans (x3.2.trans (x5.2.trans x4.2)))⟩
          · exact q5 t i j k (fun z => hz ⟨z, ht⟩)) hI.2.2.1 (fun t i j k h z => z.2 h)
  · refine ⟨-1, σ, th0 σ, ?_, ?_, Inv_th0 hI⟩
    · unfold f_X7_order
      rw [sp_isRow7, Option.bind_some, b2n_z, decide_eq_false hr]; rfl
    · unfold f_X8_order
      rw [← th0, sp_isRow8, Option.bind_some, b2n_z, decide_eq_false hr]; rfl
end Order2
