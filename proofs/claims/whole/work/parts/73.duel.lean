section Duel
variable {N n nd : Nat} {σ : Sg} {D : Nat → Scr} {c : Scr}
theorem p128 (hn : n ≤ 7) : 2 ^ n ≤ 128 := by
  have : 2 ^ n ≤ 2 ^ 7 := Nat.pow_le_pow_right (by decide) hn
  omega
/-- the cells that a pane shows with those of a set over it -/
def g0 (n : Nat) (c : Scr) (i m : Nat) : Nat := if opn c i then fb_ct (vo (ovr c m i) n c i) 96 else 0
theorem g0_le (n : Nat) (c : Scr) (i m : Nat) : g0 n c i m ≤ 96 := by
  unfold g0; split
  · exact fb_ct_le _ _
  · omega
def aft (n : Nat) (c : Scr) (i : Nat) : Nat := msk (fun j => decide (c i 5 < c j 5)) n
theorem aft_lt (hn : n ≤ 7) (c : Scr) (i : Nat) : aft n c i < 2 ^ n ∧ 2 ^ n ≤ 128 := ⟨msk_lt _ _, p128 hn⟩
theorem g0_now {i : Nat} (ok : okS n c) (hi : i < n) : g0 n c i (aft n c i) = fb_ct (vis n c i) 96 := by
  unfold g0 aft
  cases ho : opn c i with
  | false => exact (fb_ct_zero.mpr (fun x _ => by unfold vis; rw [ho]; rfl)).symm
  | true =>
    rw [if_pos rfl]
    refine fb_ct_cong (fun x _ => ?_)
    unfold vis
    rw [ho, Bool.true_and]
    exact vo_cong (fun j hj => ovr_after ok hi hj) i x
/-- the same but for the places -/
def sp5 (a b : Scr) : Prop := ∀ j f, f ≠ 5 → a j f = b j f
theorem sp5.op {a b : Scr} (h : sp5 a b) (j : Nat) : opn a j = opn b j := by unfold opn; rw [h j 6 (by decide)]
theorem sp5.cv {a b : Scr} (h : sp5 a b) (j x : Nat) : cvr (a j) x = cvr (b j) x := cvr_cong (fun f hf => h j f (by omega)) x
theorem sp5.g {a b : Scr} (h : sp5 a b) (i m : Nat) : g0 n a i m = g0 n b i m := by
  unfold g0
  rw [h.op]
  have : ∀ x, vo (ovr a m i) n a i x = vo (ovr b m i) n b i x := fun x => by
    unfold vo
    rw [h.cv, anyb_cong (fun j _ => by rw [h.op, h.cv, show ovr a m i j = ovr b m i j by unfold ovr; rw [h j 0 (by decide), h i 0 (by decide)]])]
  rw [fb_ct_cong (fun x _ => this x)]
theorem leaf {i : Nat} {c' : Scr} (ok : okS n c') (h : sp5 c' c) (hi : i < n) : fb_ct (vis n c' i) 96 = g0 n c i (aft n c' i) := by rw [← g0_now ok hi, h.g]
theorem sp5_plc {c' : Scr} (h : sp5 c' c) (i t : Nat) : sp5 (plc c' i t) c := fun j f hf => by unfold plc; rw [if_neg hf]; exact h j f hf
/-- the set that is over it, after a pane is raised -/
def upS (i S j : Nat) : Nat := if j = i then 0 else S ||| 2 ^ j
theorem aft_plc {i j : Nat} (ok : okS n c) (hi : i < n) (hj : j < n) : aft n (plc c j (n - 1)) i = upS i (aft n c i) j := by
  have p5 : ∀ k, plc c j (n - 1) k 5 = if k = j then n - 1 else shp (c j 5) (n - 1) (c k 5) := fun k => rfl
  have hcj := (ok.2.1 j hj).2.1
  have hci := (ok.2.1 i hi).2.1
  unfold upS
  by_cases e : j = i
  · subst e
    rw [if_pos rfl]
    refine msk_zero.mpr (fun k hk => decide_eq_false (fun z => ?_))
    rw [p5, p5, if_pos rfl] at z
    by_cases e2 : k = j
    · rw [if_pos e2] at z; omega
    · rw [if_neg e2] at z
      have := shp_lt (n := n) (a := c j 5) (b := n - 1) (q := c k 5) hcj (by omega) (ok.2.1 k hk).2.1 (fun z => e2 (ok.2.2 k j hk hj z))
      omega
  · rw [if_neg e]
    unfold aft
    rw [msk_add hj]
    refine msk_cong (fun k hk => ?_)
    have hck := (ok.2.1 k hk).2.1
    have hne : c i 5 ≠ c j 5 := fun z => e (ok.2.2 i j hi hj z).symm
    rw [p5, p5, if_neg (fun z => e z.symm)]
    have h1 := shp_lt (n := n) (a := c j 5) (b := n - 1) (q := c i 5) hcj (by omega) hci hne
    by_cases e2 : k = j
    · rw [if_pos e2, decide_eq_true e2, Bool.or_true]
      exact decide_eq_true (by omega)
    · have hne2 : c k 5 ≠ c j 5 := fun z => e2 (ok.2.2 k j hk hj z)
      rw [if_neg e2, decide_eq_false e2, Bool.or_false]
      have : (shp (c j 5) (n - 1) (c i 5) < shp (c j 5) (n - 1) (c k 5)) ↔ c i 5 < c k 5 := by
        unfold shp
        repeat' split
        all_goals omega
      by_cases e3 : c i 5 < c k 5
      · rw [decide_eq_true e3]; exact decide_eq_true (this.mpr e3)
      · rw [decide_eq_false e3]; exact decide_eq_false (fun z => e3 (this.mp z))
/-- the best for one who wants most, or least -/
def bet (b : Bool) (a x : Nat) : Nat := if b then (if a < x then x else a) else (if x < a then x else a)
def optV (b : Bool) (f : Nat → Nat) : Nat → Nat
  | 0 => f 0
  | m + 1 => bet b (optV b f m) (f (m + 1))
def okO (b : Bool) (x v : Nat) : Prop := if b then x ≤ v else v ≤ x
theorem bet_c (b : Bool) (a x : Nat) : (bet b a x = a ∨ bet b a x = x) ∧ okO b a (bet b a x) ∧ okO b x (bet b a x) := by
  unfold bet okO
  cases b <;> simp <;> split <;> omega
theorem okO_tr {b : Bool} {x y z : Nat} (h : okO b x y) (h2 : okO b y z) : okO b x z := by
  unfold okO at *
  cases b <;> simp at * <;> omega
theorem okO_rf (b : Bool) (x : Nat) : okO b x x := by unfold okO; cases b <;> simp
theorem optV_is (b : Bool) (f : Nat → Nat) : ∀ m, (∃ j, j ≤ m ∧ optV b f m = f j) ∧ ∀ j, j ≤ m → okO b (f j) (optV b f m)
  | 0 => ⟨⟨0, Nat.le_refl _, rfl⟩, fun j hj => by rw [show j = 0 by omega]; exact okO_rf b _⟩
  | m + 1 => by
    obtain ⟨⟨j, hj, e⟩, h⟩ := optV_is b f m
    obtain ⟨h1, h2, h3⟩ := bet_c b (optV b f m) (f (m + 1))
    refine ⟨?_, fun k hk => ?_⟩
    · rcases h1 with h1 | h1
      · exact ⟨j, by omega, by show bet b _ _ = _; rw [h1, e]⟩
      · exact ⟨m + 1, Nat.le_refl _, h1⟩
    · by_cases e2 : k = m + 1
      · subst e2; exact h3
      · exact okO_tr (h k (by omega)) h2
theorem optV_one {b : Bool} {f : Nat → Nat} {m v : Nat} (h1 : ∃ j, j ≤ m ∧ v = f j) (h2 : ∀ j, j ≤ m → okO b (f j) v) : optV b f m = v := by
  obtain ⟨⟨j, hj, e⟩, h⟩ := optV_is b f m
  obtain ⟨k, hk, e2⟩ := h1
  have a := h2 j hj
  have d := h k hk
  rw [← e] at a
  rw [← e2] at d
  unfold okO at a d
  cases b <;> simp at a d <;> omega
theorem optV_cong {b : Bool} {f g : Nat → Nat} : ∀ {m : Nat}, (∀ j, j ≤ m → f j = g j) → optV b f m = optV b g m
  | 0, h => h 0 (Nat.le_refl _)
  | m + 1, h => by
    show bet b _ _ = bet b _ _
    rw [optV_cong (fun j hj => h j (by omega)), h (m + 1) (Nat.le_refl _)]
/-- what comes of it, with d turns left -/
def dU (n : Nat) (c : Scr) (i T : Nat) : Nat → Nat → Nat
  | 0, S => g0 n c i S
  | d + 1, S => optV (decide ((T - 1 - d) % 2 = 0)) (fun j => dU n c i T d (upS i S j)) (n - 1)
theorem dU_s (n : Nat) (c : Scr) (i T d S : Nat) : dU n c i T (d + 1) S = optV (decide ((T - 1 - d) % 2 = 0)) (fun j => dU n c i T d (upS i S j)) (n - 1) := rfl
theorem dU_le (n : Nat) (c : Scr) (i T : Nat) : ∀ d S, dU n c i T d S ≤ 96
  | 0, S => g0_le _ _ _ _
  | d + 1, S => by
    rw [dU_s]
    obtain ⟨⟨j, -, e⟩, -⟩ := optV_is (decide ((T - 1 - d) % 2 = 0)) (fun j => dU n c i T d (upS i S j)) (n - 1)
    rw [e]; exact dU_le n c i T d _
theorem or_lt {S j : Nat} (hn : n ≤ 7) (hS : S < 2 ^ n) (hj : j < n) : S ||| 2 ^ j < 2 ^ n ∧ S ≤ S ||| 2 ^ j := ⟨Nat.or_lt_two_pow hS (Nat.pow_lt_pow_right (by decide) hj), Nat.left_le_or⟩
theorem cl_after {i S d T : Nat} (b : Bool) (hb : b = decide ((T - 1 - d) % 2 = 0)) (hn : n ≤ 7) (hi : i < n) (hS : S < 2 ^ n) (h : ∀ x, S ≤ x → x < 2 ^ n → rI σ 17 0 0 x = nI (dU n c i T d x)) (hN : 100 < N) :
    f_X6_afterTurn N (nI n) (nI i) (nI S) (nI (b2n b)) (nI (dU n c i T d 0)) σ = some (nI (dU n c i T (d + 1) S), σ) := by
  have h128 : 2 ^ n ≤ 128 := p128 hn
  unfold f_X6_afterTurn
  obtain ⟨a, e, v, rfl, ⟨j, hj, e1⟩, e2, e3⟩ := up_rel (fun q v7 v6 => L_X6_afterTurn_7 N (fun v6_1 _ => some (v6_1, σ)) (nI n) (nI i) (nI S) (nI (b2n b)) σ q v6 v7) (fun _ v6 => some (v6, σ))
    (fun k a => ∃ v, a = nI v ∧ (∃ j, j ≤ n - 1 ∧ v = dU n c i T d (upS i S j)) ∧ okO b (dU n c i T d 0) v ∧ ∀ j, j < k → okO b (dU n c i T d (upS i S j)) v) n
    (fun q a h => by
      show L_X6_afterTurn_7 N _ _ _ _ _ _ (q + 1) _ _ = _
      rw [L_X6_afterTurn_7_s, ile_t (Nat.le_refl _) (by omega)])
    (fun q k a hk h' => by
      obtain ⟨v, rfl, ⟨j, hj, e1⟩, e2, e3⟩ := h'
      show ∃ s', L_X6_afterTurn_7 N (fun v6_1 _ => some (v6_1, σ)) (nI n) (nI i) (nI S) (nI (b2n b)) σ (q + 1) (nI v) (nI k) = L_X6_afterTurn_7 N (fun v6_1 _ => some (v6_1, σ)) (nI n) (nI i) (nI S) (nI (b2n b)) σ q s' (nI (k + 1)) ∧ _
      rw [L_X6_afterTurn_7_s, ile_f hk (by omega), nI_1]
      have hv : v ≤ 96 := by rw [e1]; exact dU_le _ _ _ _ _ _
      by_cases ek : k = i
      · subst ek
        rw [ieq_t rfl]
        refine ⟨nI v, rfl, v, rfl, ⟨j, hj, e1⟩, e2, fun j' hj' => ?_⟩
        by_cases e4 : j' = k
        · subst e4; unfold upS; rw [if_pos rfl]; exact e2
        · exact e3 j' (by omega)
      · have hu : upS i S k = S ||| 2 ^ k := if_neg ek
        obtain ⟨l1, l2⟩ := or_lt hn hS hk
        have hx := dU_le n c i T d (S ||| 2 ^ k)
        obtain ⟨b1, b2, b3⟩ := bet_c b v (dU n c i T d (upS i S k))
        rw [ieq_f ek (by omega) (by omega), I_1 k (by omega), fa_or, gi (by omega) (by decide), nI_clamp (by omega), h _ l2 l1]
        refine ⟨nI (bet b v (dU n c i T d (upS i S k))), ?_, _, rfl, ?_, okO_tr e2 b2, fun j' hj' => ?_⟩
        · rw [hu]
          unfold bet
          cases b with
          | false =>
            rw [if_neg Bool.false_ne_true, show nI (b2n false) = (0 : Int32) from rfl, if_pos rfl]
            by_cases hl : dU n c i T d (S ||| 2 ^ k) < v
            · rw [ilt_t hl (by omega), if_pos hl]
            · rw [ilt_f (by omega) (by omega), if_neg hl]
          | true =>
            rw [if_pos (show true = true from rfl), show nI (b2n true) = nI 1 from rfl, iz_f (by decide) (by decide)]
            by_cases hl : v < dU n c i T d (S ||| 2 ^ k)
            · rw [ilt_t hl (by omega), if_pos hl]
            · rw [ilt_f (by omega) (by omega), if_neg hl]
        · rcases b1 with b1 | b1
          · exact ⟨j, hj, by rw [b1, e1]⟩
          · exact ⟨k, by omega, b1⟩
        · by_cases e4 : j' = k
          · subst e4; exact b3
          · exact okO_tr (e3 j' (by omega)) b2)
    n 0 (nI (dU n c i T d 0)) N (by omega) ⟨_, rfl, ⟨i, by omega, by unfold upS; rw [if_pos rfl]⟩, okO_rf _ _, fun j hj => by omega⟩ (by omega)
  have : dU n c i T (d + 1) S = v := by
    rw [dU_s, ← hb]
    exact optV_one ⟨j, hj, e1⟩ (fun j hj => e3 j (by omega))
  rw [this]; exact e
def rg7 : Nat → Nat → Nat → Prop := fun t _ _ => t = 17
theorem cl_d59 {i d T : Nat} (K : Int32 → Sg → Option (Int32 × Sg)) (hn : n ≤ 7) (hi : i < n) (hd : d < T) (hT : T ≤ 4) (hN : 200 < N) {τ : Sg} (hF : Fr rg7 σ τ) (hz : rI τ 7 0 0 1 = nI n) (h : ∀ x, x < 2 ^ n → rI τ 17 0 0 x = nI (dU n c i T d x)) :
    ∃ v υ, L_X6_cellsInTheEnd_59 N K 0 (nI i) (nI (2 ^ n)) (nI (T - 1 - d)) (nI (dU n c i T d 0)) N 0 τ = K v υ ∧ Fr rg7 σ υ ∧ rI υ 7 0 0 1 = nI n ∧ ∀ x, x < 2 ^ n → rI υ 17 0 0 x = nI (dU n c i T (d + 1) x) := by
  have h128 : 2 ^ n ≤ 128 := p128 hn
  obtain ⟨υ, e, h1, h2, h3⟩ := up_rel (fun q v τ => L_X6_cellsInTheEnd_59 N K 0 (nI i) (nI (2 ^ n)) (nI (T - 1 - d)) (nI (dU n c i T d 0)) q v τ) K
    (fun S τ => Fr rg7 σ τ ∧ rI τ 7 0 0 1 = nI n ∧ ∀ x, x < 2 ^ n → rI τ 17 0 0 x = nI (if x < S then dU n c i T (d + 1) x else dU n c i T d x)) (2 ^ n)
    (fun q τ h => by
      show L_X6_cellsInTheEnd_59 N _ _ _ _ _ _ (q + 1) _ _ = _
      rw [L_X6_cellsInTheEnd_59_s, ile_t (Nat.le_refl _) (by omega)])
    (fun q S τ hS h' => by
      obtain ⟨h1, h2, h3⟩ := h'
      have old : ∀ x, S ≤ x → x < 2 ^ n → rI τ 17 0 0 x = nI (dU n c i T d x) := fun x hx hx2 => by rw [h3 x hx2, if_neg (by omega)]
      refine ⟨uI τ 17 0 0 S (nI (dU n c i T (d + 1) S)), ?_, h1.uI rfl, h2, fun x hx => ?_⟩
      · show L_X6_cellsInTheEnd_59 N K 0 (nI i) (nI (2 ^ n)) (nI (T - 1 - d)) (nI (dU n c i T d 0)) (q + 1) (nI S) τ = L_X6_cellsInTheEnd_59 N K 0 (nI i) (nI (2 ^ n)) (nI (T - 1 - d)) (nI (dU n c i T d 0)) q (nI (S + 1)) _
        rw [L_X6_cellsInTheEnd_59_s, ile_f hS (by omega), h2, n2, pk_rem (by omega) (by decide) (by decide), nI_1]
        by_cases hp : (T - 1 - d) % 2 = 0
        · rw [iz_t hp, show (1 : Int32) = nI (b2n true) from rfl, cl_after true (decide_eq_true hp).symm hn hi hS old (by omega), Option.bind_some, gi (by omega) (by decide), nI_clamp (by omega)]
        · rw [iz_f hp (by omega), show (0 : Int32) = nI (b2n false) from rfl, cl_after false (decide_eq_false hp).symm hn hi hS old (by omega), Option.bind_some, gi (by omega) (by decide), nI_clamp (by omega)]
      · rw [rI_uI]
        by_cases e : x = S
        · subst e; rw [if_pos ⟨rfl, rfl, rfl, rfl⟩, if_pos (by omega)]
        · rw [if_neg (fun z => e z.2.2.2), h3 x hx]
          by_cases e2 : x < S
          · rw [if_pos e2, if_pos (by omega)]
          · rw [if_neg e2, if_neg (by omega)])
    (2 ^ n) 0 τ N (by omega) ⟨hF, hz, fun x hx => by rw [if_neg (by omega)]; exact h x hx⟩ (by omega)
  exact ⟨_, υ, e, h1, h2, fun x hx => by rw [h3 x hx, if_pos hx]⟩
theorem cl_duel {i T : Nat} (hS : isScr σ 0 n c) (ok : okS n c) (hi : i < n) (hT : T ≤ 4) (hN : 200 < N) : ∃ τ, f_X6_cellsInTheEnd N 0 (nI i) (nI T) σ = some (nI (dU n c i T T (aft n c i)), τ) ∧ Fr rg7 σ τ := by
  have hn := ok.1
  have h128 : 2 ^ n ≤ 128 := p128 hn
  have hA := (aft_lt hn c i).1
  unfold f_X6_cellsInTheEnd
  rw [hS.1, I_1 n (by omega)]
  generalize hK : (fun (v5_2 : Int32) σ_2 => L_X6_cellsInTheEnd_43 N (fun v5_6 σ_6 => (f_X4_after N 0 (nI i) σ_6).bind (fun w7 => gd (ib w7.1 128) (some (rI w7.2 17 0 0 w7.1.toNatClampNeg, w7.2)))) 0 (nI i) (nI (2 ^ n)) N (nI T - (1 : Int32)) σ_2) = K
  obtain ⟨τ, e, h1, h2⟩ := up_rel (fun q v τ => L_X6_cellsInTheEnd_11 N K 0 (nI i) (nI T) (nI (2 ^ n)) q v τ) K
    (fun S τ => Fr rg7 σ τ ∧ ∀ x, x < S → rI τ 17 0 0 x = nI (g0 n c i x)) (2 ^ n)
    (fun q τ h => by
      show L_X6_cellsInTheEnd_11 N _ _ _ _ _ (q + 1) _ _ = _
      rw [L_X6_cellsInTheEnd_11_s, ile_t (Nat.le_refl _) (by omega)])
    (fun q S τ hS1 h' => by
      obtain ⟨h1, h2⟩ := h'
      have hS' : isScr τ 0 n c := hS.fr h1 (by unfold rg7; decide) (fun j _ => by unfold rg7; decide)
      refine ⟨uI τ 17 0 0 S (nI (g0 n c i S)), ?_, h1.uI rfl, fun x hx => ?_⟩
      · show L_X6_cellsInTheEnd_11 N K 0 (nI i) (nI T) (nI (2 ^ n)) (q + 1) (nI S) τ = L_X6_cellsInTheEnd_11 N K 0 (nI i) (nI T) (nI (2 ^ n)) q (nI (S + 1)) _
        rw [L_X6_cellsInTheEnd_11_s, ile_f hS1 (by omega), sp_shown hS' ok hi (by omega) (by omega), Option.bind_some, gi (by omega) (by decide), nI_clamp (by omega), nI_1]
        rfl
      · rw [rI_uI]
        by_cases e : x = S
        · subst e; rw [if_pos ⟨rfl, rfl, rfl, rfl⟩]
        · rw [if_neg (fun z => e z.2.2.2)]; exact h2 x (by omega))
    (2 ^ n) 0 σ N (by omega) ⟨Fr.rf, fun x hx => by omega⟩ (by omega)
  have e' : L_X6_cellsInTheEnd_11 N K 0 (nI i) (nI T) (nI (2 ^ n)) N 0 σ = _ := e
  rw [e', ← hK]
  dsimp only
  refine lp_gen (fun q (s : Int32 × Sg) => L_X6_cellsInTheEnd_43 N (fun v5_6 σ_6 => (f_X4_after N 0 (nI i) σ_6).bind (fun w7 => gd (ib w7.1 128) (some (rI w7.2 17 0 0 w7.1.toNatClampNeg, w7.2)))) 0 (nI i) (nI (2 ^ n)) q s.1 s.2)
    (fun k s => k ≤ T ∧ s.1 = nI k - 1 ∧ Fr rg7 σ s.2 ∧ ∀ x, x < 2 ^ n → rI s.2 17 0 0 x = nI (dU n c i T (T - k) x))
    (fun o => ∃ τ, o = some (nI (dU n c i T T (aft n c i)), τ) ∧ Fr rg7 σ τ) ?_ N T (nI T - 1, τ) ⟨Nat.le_refl _, rfl, h1, fun x hx => by rw [Nat.sub_self]; exact h2 x hx⟩ (by omega)
  rintro q k ⟨v, τ⟩ ⟨hk, hv, hF, ht⟩
  dsimp only at hv hF ht ⊢
  subst hv
  rw [L_X6_cellsInTheEnd_43_s]
  have hS' : isScr τ 0 n c := hS.fr hF (by unfold rg7; decide) (fun j _ => by unfold rg7; decide)
  rcases Nat.eq_zero_or_pos k with rfl | hk0
  · right
    refine ⟨τ, ?_, hF⟩
    rw [if_pos (by decide), sp_after hS' ok hi (by omega), Option.bind_some]
    show gd (ib (nI (aft n c i)) 128) (some (rI τ 17 0 0 (nI (aft n c i)).toNatClampNeg, τ)) = _
    rw [gi (by omega) (by decide), nI_clamp (by omega), ht _ hA, Nat.sub_zero]
  · left
    obtain ⟨e, rfl⟩ : ∃ e, k = e + 1 := ⟨k - 1, by omega⟩
    have ev : nI (e + 1) - 1 = nI e := by rw [n1, pk_sub (by omega)]; rfl
    have h0 : rI τ 17 0 0 0 = nI (dU n c i T (T - (e + 1)) 0) := ht 0 (Nat.pow_pos (by decide))
    obtain ⟨v', υ, e3, f3, z3, t3⟩ := cl_d59 (N := N) (σ := σ) (d := T - (e + 1)) (fun v7_5 σ_5 => L_X6_cellsInTheEnd_43 N (fun v5_6 σ_6 => (f_X4_after N 0 (nI i) σ_6).bind (fun w7 => gd (ib w7.1 128) (some (rI w7.2 17 0 0 w7.1.toNatClampNeg, w7.2)))) 0 (nI i) (nI (2 ^ n)) q (nI e - 1) σ_5) hn hi (by omega) hT hN hF hS'.1 ht
    rw [show T - 1 - (T - (e + 1)) = e by omega] at e3
    refine ⟨(nI e - 1, υ), e, by omega, ?_, by omega, rfl, f3, fun x hx => by rw [t3 x hx, show T - (e + 1) + 1 = T - e by omega]⟩
    rw [ev, if_neg (show ¬ nI e < 0 by rw [n0]; exact nI_nlt (by omega) (by omega)), m1_sub, show gd (ib (0 : Int32) 128) = fun (o : Option (Int32 × Sg)) => o from funext (fun o => gi (a := 0) (by decide) (by decide) o), cl0, h0]
    exact e3
end Duel
