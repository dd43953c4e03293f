section Test
variable {N n nd : Nat} {σ : Sg} {D : Nat → Scr} {c : Scr}
/-- the greatest of the first -/
def mxN (f : Nat → Nat) : Nat → Nat
  | 0 => 0
  | m + 1 => if mxN f m < f m then f m else mxN f m
theorem mxN_s (f : Nat → Nat) (m : Nat) : mxN f (m + 1) = if mxN f m < f m then f m else mxN f m := rfl
theorem mxN_le {f : Nat → Nat} {B : Nat} : ∀ {m : Nat}, (∀ k, k < m → f k ≤ B) → mxN f m ≤ B
  | 0, _ => Nat.zero_le _
  | m + 1, h => by
    rw [mxN_s]
    split
    · exact h m (by omega)
    · exact mxN_le (fun k hk => h k (by omega))
theorem le_mxN {f : Nat → Nat} : ∀ {m k : Nat}, k < m → f k ≤ mxN f m
  | m + 1, k, h => by
    rw [mxN_s]
    by_cases e : k = m
    · subst e; split <;> omega
    · have := le_mxN (f := f) (show k < m by omega)
      split <;> omega
def wn (n : Nat) (c : Scr) (i k x : Nat) : Nat := (whoI n (sets c i 0 k) x n + 1).toNatClampNeg
theorem m1_p1 : (-1 : Int32) + 1 = nI 0 := by decide
theorem wn_ok {i k : Nat} (ok : okS n c) (hi : i < n) (hk : k < 6) (x : Nat) : whoI n (sets c i 0 k) x n + 1 = nI (wn n c i k x) ∧ wn n c i k x < 8 ∧ ((wn n c i k x = 0 ∧ whoI n (sets c i 0 k) x n = -1) ∨ ∃ w, wn n c i k x = w + 1 ∧ w < n ∧ whoI n (sets c i 0 k) x n = nI w) := by
  have hn := ok.1
  unfold wn
  rcases whoI_cases (okS_kind ok hi hk) x with ⟨w, hw, -, e⟩ | ⟨-, e⟩
  · rw [e, nI_1, nI_clamp (by omega)]
    exact ⟨rfl, by omega, Or.inr ⟨w, rfl, hw, rfl⟩⟩
  · rw [e, m1_p1, nI_clamp (by omega)]
    exact ⟨rfl, by omega, Or.inl ⟨rfl, rfl⟩⟩
theorem wn_eq {i k e : Nat} (ok : okS n c) (hi : i < n) (hk : k < 6) (he : e < 6) (x : Nat) : (whoI n (sets c i 0 k) x n = whoI n (sets c i 0 e) x n) ↔ wn n c i k x = wn n c i e x := by
  have hn := ok.1
  constructor
  · intro h; unfold wn; rw [h]
  · intro h
    obtain ⟨-, -, h1⟩ := wn_ok ok hi hk x
    obtain ⟨-, -, h2⟩ := wn_ok ok hi he x
    rcases h1 with ⟨a1, b1⟩ | ⟨w, a1, -, b1⟩
    · rcases h2 with ⟨a2, b2⟩ | ⟨w', a2, -, b2⟩
      · rw [b1, b2]
      · omega
    · rcases h2 with ⟨a2, b2⟩ | ⟨w', a2, -, b2⟩
      · omega
      · rw [b1, b2, show w = w' by omega]
/-- how many of the kinds would show the same -/
def cnt (n : Nat) (c : Scr) (i : Nat) (P : Nat → Bool) (w x k : Nat) : Nat := fb_ct (fun e => P e && decide (wn n c i e x = w)) k
def gpt (n : Nat) (c : Scr) (i : Nat) (P : Nat → Bool) (x : Nat) : Nat := mxN (fun w => cnt n c i P w x 6) 8
def gpm (n : Nat) (c : Scr) (i : Nat) (P : Nat → Bool) (x k : Nat) : Nat := if P k then cnt n c i P (wn n c i k x) x 6 else 0
theorem gpt_le (n : Nat) (c : Scr) (i : Nat) (P : Nat → Bool) (x : Nat) : gpt n c i P x ≤ 6 := mxN_le (fun k _ => fb_ct_le _ _)
theorem gpt_eq {i : Nat} (ok : okS n c) (hi : i < n) (P : Nat → Bool) (x : Nat) : mxN (gpm n c i P x) 6 = gpt n c i P x := by
  apply Nat.le_antisymm
  · refine mxN_le (fun k hk => ?_)
    unfold gpm
    split
    · exact le_mxN (f := fun w => cnt n c i P w x 6) (wn_ok ok hi hk x).2.1
    · exact Nat.zero_le _
  · refine mxN_le (fun w hw => ?_)
    rcases Nat.eq_zero_or_pos (cnt n c i P w x 6) with h0 | h0
    · rw [h0]; exact Nat.zero_le _
    · obtain ⟨k, hk, hp⟩ := fb_ct_pos.mp h0
      rw [Bool.and_eq_true, decide_eq_true_eq] at hp
      have := le_mxN (f := gpm n c i P x) hk
      unfold gpm at this
      rw [if_pos hp.1, hp.2] at this
      exact this
def rgP : Nat → Nat → Nat → Prop := fun t i j => t = 19 ∨ scrR 1 t i j
theorem cl_p67 {i k : Nat} {P : Nat → Bool} (K : Int32 → Sg → Option Sg) (ok : okS n c) (hi : i < n) (hk : k < 6) (hP : P k = true) (hN : 100 < N) (a1 a2 a3 : Int32) {τ : Sg} (hT : isScr τ 1 n (sets c i 0 k)) (hF : Fr rgP σ τ) (hc : ∀ w x, w < 8 → x < 96 → rI τ 19 w 0 x = nI (cnt n c i P w x k)) :
    ∃ v υ, L_X7_sortIntoParts_67 N K a1 a2 a3 N 0 τ = K v υ ∧ isScr υ 1 n (sets c i 0 k) ∧ Fr rgP σ υ ∧ ∀ w x, w < 8 → x < 96 → rI υ 19 w 0 x = nI (cnt n c i P w x (k + 1)) := by
  have hn := ok.1
  obtain ⟨υ, e, h1, h2, h3⟩ := up_rel (fun q v τ => L_X7_sortIntoParts_67 N K a1 a2 a3 q v τ) K
    (fun j τ => isScr τ 1 n (sets c i 0 k) ∧ Fr rgP σ τ ∧ ∀ w x, w < 8 → x < 96 → rI τ 19 w 0 x = nI (cnt n c i P w x (if x < j then k + 1 else k))) 96
    (fun q τ h => by
      show L_X7_sortIntoParts_67 N _ _ _ _ (q + 1) _ _ = _
      rw [L_X7_sortIntoParts_67_s, n96, ile_t (Nat.le_refl _) (by decide)])
    (fun q j τ hj h => by
      obtain ⟨h1, h2, h3⟩ := h
      obtain ⟨w1, w2, -⟩ := wn_ok ok hi hk j
      refine ⟨uI τ 19 (wn n c i k j) 0 j (rI τ 19 (wn n c i k j) 0 j + 1), ?_, h1, h2.uI (Or.inl rfl), fun w x hw hx => ?_⟩
      · show L_X7_sortIntoParts_67 N K a1 a2 a3 (q + 1) (nI j) τ = L_X7_sortIntoParts_67 N K a1 a2 a3 q (nI (j + 1)) _
        rw [L_X7_sortIntoParts_67_s, n96, ile_f hj (by decide), sp_whoAt h1 (okS_kind ok hi hk) hj (by omega), Option.bind_some]
        dsimp only
        rw [w1, gi w2 (by decide), gi hj (by decide), gi hj (by decide), nI_clamp (by omega), nI_clamp (by omega), nI_1]
      · rw [rI_uI]
        by_cases e : w = wn n c i k j ∧ x = j
        · obtain ⟨rfl, rfl⟩ := e
          rw [if_pos ⟨rfl, rfl, rfl, rfl⟩, h3 _ _ hw hx, if_neg (by omega), if_pos (by omega)]
          exact ct_t (p := fun e => P e && decide (wn n c i e x = wn n c i k x)) (j := k) (by rw [hP, decide_eq_true rfl]; rfl)
        · rw [if_neg (fun z => e ⟨z.2.1, z.2.2.2⟩), h3 _ _ hw hx]
          by_cases e2 : x = j
          · subst e2
            rw [if_neg (by omega), if_pos (by omega)]
            exact (ct_f (p := fun e => P e && decide (wn n c i e x = w)) (j := k) (by rw [hP, decide_eq_false (fun z => e ⟨z.symm, rfl⟩)]; rfl)).symm
          · by_cases e3 : x < j
            · rw [if_pos e3, if_pos (by omega)]
            · rw [if_neg e3, if_neg (by omega)])
    96 0 τ N (by omega) ⟨hT, hF, fun w x hw hx => by rw [if_neg (by omega)]; exact hc w x hw hx⟩ (by omega)
  exact ⟨_, υ, e, h1, h2, fun w x hw hx => by rw [h3 w x hw hx, if_pos hx]⟩
theorem cl_sort {i : Nat} {P : Nat → Bool} (hS : isScr σ 0 n c) (ok : okS n c) (hi : i < n) (hN : 100 < N) :
    ∃ τ, f_X7_sortIntoParts N (nI i) (nI (msk P 6)) σ = some τ ∧ Fr rgP σ τ ∧ ∀ w x, w < 8 → x < 96 → rI τ 19 w 0 x = nI (cnt n c i P w x 6) := by
  have hn := ok.1
  unfold f_X7_sortIntoParts
  obtain ⟨τ1, e1, f1, z1⟩ := up_rel (fun q v τ => L_X7_sortIntoParts_2 N (fun v3_2 σ_2 => (f_X4_become N 1 0 σ_2).bind (fun w3 => L_X7_sortIntoParts_37 N (fun v3_7 σ_7 => some (σ_7)) (nI i) (nI (msk P 6)) N (0 : Int32) w3)) (nI i) (nI (msk P 6)) q v τ)
    (fun v3_2 σ_2 => (f_X4_become N 1 0 σ_2).bind (fun w3 => L_X7_sortIntoParts_37 N (fun v3_7 σ_7 => some (σ_7)) (nI i) (nI (msk P 6)) N (0 : Int32) w3))
    (fun j τ => Fr (fun t _ _ => t = 19) σ τ ∧ ∀ w x, w < j → x < 96 → rI τ 19 w 0 x = 0) 8
    (fun q τ h => by
      show L_X7_sortIntoParts_2 N _ _ _ (q + 1) _ _ = _
      rw [L_X7_sortIntoParts_2_s, n7, ilt_t (by decide) (by decide)])
    (fun q j τ hj h => by
      obtain ⟨h1, h2⟩ := h
      obtain ⟨υ, e, g1, g2⟩ := sp_fill (N := N) (σ := τ) (t := 19) (i := j) (j := 0) (an := 96) (v := 0) (by decide) (by omega)
      refine ⟨υ, ?_, fun t a b hn k => ?_, fun w x hw hx => ?_⟩
      · show L_X7_sortIntoParts_2 N _ _ _ (q + 1) _ _ = L_X7_sortIntoParts_2 N _ _ _ q _ _
        rw [L_X7_sortIntoParts_2_s, n7, ilt_f (by omega) (by omega), gi hj (by decide), nI_clamp (by omega), e, Option.bind_some, nI_1]
      · have := g2 t a b k (fun z => hn z.1)
        exact ⟨this.1.trans (h1 t a b hn k).1, this.2.trans (h1 t a b hn k).2⟩
      · by_cases e : w = j
        · subst e; exact g1 x hx
        · rw [(g2 19 w 0 x (fun z => e z.2.1)).1]; exact h2 w x (by omega) hx)
    8 0 σ N (by omega) ⟨Fr.rf, fun w x hw _ => by omega⟩ (by omega)
  have e1' : L_X7_sortIntoParts_2 N (fun v3_2 σ_2 => (f_X4_become N 1 0 σ_2).bind (fun w3 => L_X7_sortIntoParts_37 N (fun v3_7 σ_7 => some (σ_7)) (nI i) (nI (msk P 6)) N (0 : Int32) w3)) (nI i) (nI (msk P 6)) N 0 σ = _ := e1
  rw [e1']
  have hS1 : isScr τ1 0 n c := hS.fr f1 (by decide) (fun j _ => by decide)
  obtain ⟨τ2, e2, s2, f2⟩ := sp_become (N := N) (s := 1) (s' := 0) (by decide) hS1 ok (by omega)
  rw [e2, Option.bind_some]
  have fP : Fr rgP σ τ2 := f1.tr f2 (fun _ _ _ z => Or.inl z) (fun _ _ _ z => Or.inr z)
  obtain ⟨τ3, e3, ⟨p, s3⟩, f3, z3⟩ := up_rel (fun q v τ => L_X7_sortIntoParts_37 N (fun v3_7 σ_7 => some (σ_7)) (nI i) (nI (msk P 6)) q v τ) (fun _ σ_7 => some σ_7)
    (fun k τ => (∃ p, isScr τ 1 n (sets c i 0 p)) ∧ Fr rgP σ τ ∧ ∀ w x, w < 8 → x < 96 → rI τ 19 w 0 x = nI (cnt n c i P w x k)) 6
    (fun q τ h => by
      show L_X7_sortIntoParts_37 N _ _ _ (q + 1) _ _ = _
      rw [L_X7_sortIntoParts_37_s, n6, ile_t (Nat.le_refl _) (by decide)])
    (fun q k τ hk h => by
      obtain ⟨⟨p, h1⟩, h2, h3⟩ := h
      show ∃ s', L_X7_sortIntoParts_37 N (fun v3_7 σ_7 => some (σ_7)) (nI i) (nI (msk P 6)) (q + 1) (nI k) τ = L_X7_sortIntoParts_37 N (fun v3_7 σ_7 => some (σ_7)) (nI i) (nI (msk P 6)) q (nI (k + 1)) s' ∧ _
      rw [L_X7_sortIntoParts_37_s, n6, ile_f hk (by decide), I_bitM P (by decide) hk, nI_1]
      by_cases hP : P k = true
      · obtain ⟨υ, a1, a2, a3⟩ := cl_turn (k := k) h1 ok hi hk hN
        rw [hP, if_pos rfl, iz_f (by decide) (by decide), gi (by omega) (by decide), nI_clamp (by omega), a1, Option.bind_some]
        obtain ⟨v, ω, b1, b2, b3, b4⟩ := cl_p67 (N := N) (σ := σ) (P := P) (fun _ σ_6 => L_X7_sortIntoParts_37 N (fun v3_7 σ_7 => some (σ_7)) (nI i) (nI (msk P 6)) q (nI (k + 1)) σ_6) ok hi hk hP hN (nI i) (nI (msk P 6)) (nI k) a2 (h2.tr a3 (fun _ _ _ z => z) (fun _ _ _ z => Or.inr z)) (fun w x hw hx => by rw [(a3 19 w 0 (fun z => by unfold scrR at z; omega) x).1]; exact h3 w x hw hx)
        exact ⟨ω, b1, ⟨k, b2⟩, b3, b4⟩
      · have hP' : P k = false := by simpa using hP
        rw [hP', if_neg Bool.false_ne_true, iz_t rfl]
        exact ⟨τ, rfl, ⟨p, h1⟩, h2, fun w x hw hx => by
          rw [h3 w x hw hx]
          exact (ct_f (p := fun e => P e && decide (wn n c i e x = w)) (j := k) (by rw [hP']; rfl)).symm⟩)
    6 0 τ2 N (by omega) ⟨⟨c i 0, by rw [sets_same]; exact s2⟩, fP, fun w x hw hx => by
      rw [(f2 19 w 0 (fun z => by unfold scrR at z; omega) x).1, z1 w x hw hx]; rfl⟩ (by omega)
  exact ⟨τ3, e3, f3, z3⟩
theorem cl_great {i x : Nat} {P : Nat → Bool} (hx : x < 96) (h : ∀ w x, w < 8 → x < 96 → rI σ 19 w 0 x = nI (cnt n c i P w x 6)) (hN : 100 < N) : f_X7_greatestPart N (nI x) σ = some (nI (gpt n c i P x), σ) := by
  unfold f_X7_greatestPart
  refine up_eq (fun q v a => L_X7_greatestPart_4 N (fun v2_1 _ => some (v2_1, σ)) (nI x) σ q a v) (fun _ a => some (a, σ)) (fun j => nI (mxN (fun w => cnt n c i P w x 6) j)) 0 8 ?_ ?_ N (by omega) (by omega)
  · intro q
    show L_X7_greatestPart_4 N _ (nI x) σ (q + 1) _ _ = _
    rw [L_X7_greatestPart_4_s, n7, ilt_t (by decide) (by decide)]
  · intro q j _ hj
    show L_X7_greatestPart_4 N _ (nI x) σ (q + 1) _ _ = L_X7_greatestPart_4 N _ (nI x) σ q _ _
    have b1 : mxN (fun w => cnt n c i P w x 6) j ≤ 6 := mxN_le (fun k _ => fb_ct_le _ _)
    have b2 : cnt n c i P j x 6 ≤ 6 := fb_ct_le _ _
    rw [L_X7_greatestPart_4_s, n7, ilt_f (by omega) (by omega), gi hj (by decide), gi hx (by decide), nI_clamp (by omega), nI_clamp (by omega), h j x hj hx, nI_1, mxN_s]
    by_cases hl : mxN (fun w => cnt n c i P w x 6) j < cnt n c i P j x 6
    · rw [ilt_t hl (by omega), if_pos hl]
    · rw [ilt_f (by omega) (by omega), if_neg hl]
/-- the first cell with the least of them -/
def lsx (f : Nat → Nat) : Nat → Nat × Nat
  | 0 => (f 0, 0)
  | m + 1 => if (lsx f m).1 ≤ f (m + 1) then lsx f m else (f (m + 1), m + 1)
theorem lsx_s (f : Nat → Nat) (m : Nat) : lsx f (m + 1) = if (lsx f m).1 ≤ f (m + 1) then lsx f m else (f (m + 1), m + 1) := rfl
theorem lsx_b {f : Nat → Nat} {B : Nat} (h : ∀ x, f x ≤ B) : ∀ m, (lsx f m).1 ≤ B
  | 0 => h 0
  | m + 1 => by
    rw [lsx_s]
    split
    · exact lsx_b h m
    · exact h _
theorem cl_test {i : Nat} {P : Nat → Bool} (K : Int32 → Int32 → Int32 → Sg → Option (Int32 × Sg)) (h : ∀ w x, w < 8 → x < 96 → rI σ 19 w 0 x = nI (cnt n c i P w x 6)) (hN : 100 < N) :
    ∃ v, L_X7_test_54 N K N (nI (gpt n c i P 0)) 0 1 σ = K (nI (lsx (gpt n c i P) 95).1) (nI (lsx (gpt n c i P) 95).2) v σ := by
  obtain ⟨⟨a, b⟩, e, -, h1, h2⟩ := up_rel (fun q v (s : Int32 × Int32) => L_X7_test_54 N K q s.1 s.2 v σ) (fun v s => K s.1 s.2 v σ) (fun j s => 1 ≤ j ∧ s.1 = nI (lsx (gpt n c i P) (j - 1)).1 ∧ s.2 = nI (lsx (gpt n c i P) (j - 1)).2) 96
    (fun q s h => by
      show L_X7_test_54 N _ (q + 1) _ _ _ _ = _
      rw [L_X7_test_54_s, n96, ile_t (Nat.le_refl _) (by decide)])
    (fun q j s hj h' => by
      obtain ⟨h0, h1, h2⟩ := h'
      obtain ⟨m, rfl⟩ : ∃ m, j = m + 1 := ⟨j - 1, by omega⟩
      show ∃ s' : Int32 × Int32, L_X7_test_54 N K (q + 1) s.1 s.2 (nI (m + 1)) σ = L_X7_test_54 N K q s'.1 s'.2 (nI (m + 1 + 1)) σ ∧ _
      have b1 := lsx_b (gpt_le n c i P) m
      have b2 := gpt_le n c i P (m + 1)
      rw [Nat.add_sub_cancel] at h1 h2
      rw [L_X7_test_54_s, n96, ile_f hj (by decide), cl_great hj h hN, Option.bind_some, nI_1, h1, h2, Nat.add_sub_cancel, lsx_s]
      dsimp only
      by_cases hl : (lsx (gpt n c i P) m).1 ≤ gpt n c i P (m + 1)
      · rw [ile_t hl (by omega), if_pos hl]
        exact ⟨(_, _), rfl, by omega, rfl, rfl⟩
      · rw [ile_f (by omega) (by omega), if_neg hl]
        exact ⟨(_, _), rfl, by omega, rfl, rfl⟩)
    95 1 (nI (gpt n c i P 0), (0 : Int32)) N (by omega) ⟨Nat.le_refl _, rfl, rfl⟩ (by omega)
  exact ⟨_, by rw [← h1, ← h2]; exact e⟩
def rgX : Nat → Nat → Nat → Prop := fun t i j => rgA t i j ∨ (t = 22 ∧ i = 32 ∧ j = 0)
theorem mo_t64 {i k : Nat} (K : Int32 → Sg → Option (Int32 × Sg)) (ok : okS n c) (hi : i < n) (hk : k < 6) (hN : 100 < N) (a1 a4 : Int32) {τ : Sg} (hW : mW τ n (sets c i 0 k)) (hC : mC τ n (sets c i 0 k)) (hV : mV τ n (sets c i 0 k)) (hF : Fr rgX σ τ) (hc : ∀ e x, e < k → x < 96 → rI τ 22 32 0 (96 * e + x) = whoI n (sets c i 0 e) x n) :
    ∃ v υ, L_X8_test_64 N K a1 a4 (nI k) N 0 τ = K v υ ∧ mW υ n (sets c i 0 k) ∧ mC υ n (sets c i 0 k) ∧ Fr rgX σ υ ∧ ∀ e x, e < k + 1 → x < 96 → rI υ 22 32 0 (96 * e + x) = whoI n (sets c i 0 e) x n := by
  have hn := ok.1
  obtain ⟨υ, e, h1, h2, h3, h4, h5⟩ := up_rel (fun q v τ => L_X8_test_64 N K a1 a4 (nI k) q v τ) K
    (fun j τ => mW τ n (sets c i 0 k) ∧ mC τ n (sets c i 0 k) ∧ mV τ n (sets c i 0 k) ∧ Fr rgX σ τ ∧ ∀ e x, x < 96 → (e < k ∨ (e = k ∧ x < j)) → rI τ 22 32 0 (96 * e + x) = whoI n (sets c i 0 e) x n) 96
    (fun q τ h => by
      show L_X8_test_64 N _ _ _ _ (q + 1) _ _ = _
      rw [L_X8_test_64_s, n96, ile_t (Nat.le_refl _) (by decide)])
    (fun q j τ hj h => by
      obtain ⟨h1, h2, h3, h4, h5⟩ := h
      refine ⟨uI τ 22 32 0 (96 * k + j) (whoI n (sets c i 0 k) j n), ?_, h1, h2, h3, h4.uI (Or.inr ⟨rfl, rfl, rfl⟩), fun e x hx he => ?_⟩
      · show L_X8_test_64 N K a1 a4 (nI k) (q + 1) (nI j) τ = L_X8_test_64 N K a1 a4 (nI k) q (nI (j + 1)) _
        rw [L_X8_test_64_s, n96, ile_f hj (by decide), mo_whoAt h1.1 h3 hn hj (by omega), Option.bind_some, pk_mul, nI_add, gi (by omega) (by decide), nI_clamp (by omega), nI_1]
      · rw [rI_uI]
        by_cases e2 : e = k ∧ x = j
        · obtain ⟨rfl, rfl⟩ := e2
          rw [if_pos ⟨rfl, rfl, rfl, rfl⟩]
        · rw [if_neg (fun z => e2 (by omega))]
          exact h5 e x hx (by omega))
    96 0 τ N (by omega) ⟨hW, hC, hV, hF, fun e x hx he => hc e x (by omega) hx⟩ (by omega)
  exact ⟨_, υ, e, h1, h2, h4, fun e x he hx => h5 e x hx (by omega)⟩
theorem mo_t37 {i p : Nat} (K : Int32 → Sg → Option (Int32 × Sg)) (ok : okS n c) (hi : i < n) (hN : 100 < N) (a4 : Int32) (hW : mW σ n (sets c i 0 p)) (hC : mC σ n (sets c i 0 p)) :
    ∃ v υ, L_X8_test_37 N K (nI i) a4 N 0 σ = K v υ ∧ Fr rgX σ υ ∧ ∀ e x, e < 6 → x < 96 → rI υ 22 32 0 (96 * e + x) = whoI n (sets c i 0 e) x n := by
  have hn := ok.1
  obtain ⟨υ, e, -, h4, h5⟩ := up_rel (fun q v τ => L_X8_test_37 N K (nI i) a4 q v τ) K
    (fun k τ => (∃ p, mW τ n (sets c i 0 p) ∧ mC τ n (sets c i 0 p)) ∧ Fr rgX σ τ ∧ ∀ e x, e < k → x < 96 → rI τ 22 32 0 (96 * e + x) = whoI n (sets c i 0 e) x n) 6
    (fun q τ h => by
      show L_X8_test_37 N _ _ _ (q + 1) _ _ = _
      rw [L_X8_test_37_s, n6, ile_t (Nat.le_refl _) (by decide)])
    (fun q k τ hk h => by
      obtain ⟨⟨p, w, cc⟩, h4, h5⟩ := h
      show ∃ s', L_X8_test_37 N K (nI i) a4 (q + 1) (nI k) τ = L_X8_test_37 N K (nI i) a4 q (nI (k + 1)) s' ∧ _
      obtain ⟨υ, e3, t1, t2, t3⟩ := mo_turn (k := k) w cc ok hi hk hN
      obtain ⟨ψ, e4, v4, f4⟩ := sp_seeing (N := N) t1 t2 (okS_kind ok hi hk) (by omega)
      have f5 : Fr rgA τ ψ := frA_tr t3 (f4.mono (fun _ _ _ z => rgV_A z))
      have f6 : Fr rgX σ ψ := h4.tr f5 (fun _ _ _ z => z) (fun _ _ _ z => Or.inl z)
      obtain ⟨v, ω, b1, b2, b3, b4, b5⟩ := mo_t64 (N := N) (σ := σ) (fun _ σ_6 => L_X8_test_37 N K (nI i) a4 q (nI (k + 1)) σ_6) ok hi hk hN (nI i) a4 (rgV_mW f4 t1) (rgV_mC f4 t2) v4 f6 (fun e x he hx => by rw [(f5 22 32 0 (fun z => by unfold rgA at z; omega) _).1]; exact h5 e x he hx)
      refine ⟨ω, ?_, ⟨k, b2, b3⟩, b4, b5⟩
      rw [L_X8_test_37_s, n6, ile_f hk (by decide), gi (by omega) (by decide), nI_clamp (by omega), e3, Option.bind_some, e4, Option.bind_some, nI_1]
      exact b1)
    6 0 σ N (by omega) ⟨⟨p, hW, hC⟩, Fr.rf, fun e x he _ => by omega⟩ (by omega)
  exact ⟨_, υ, e, h4, h5⟩
theorem mo_t139 {i k x : Nat} {P : Nat → Bool} (K : Int32 → Int32 → Sg → Option (Int32 × Sg)) (ok : okS n c) (hi : i < n) (hk : k < 6) (hx : x < 96) (hN : 100 < N) (a5 a6 a8 : Int32) (h : ∀ e x, e < 6 → x < 96 → rI σ 22 32 0 (96 * e + x) = whoI n (sets c i 0 e) x n) :
    ∃ v, L_X8_test_139 N K (nI (msk P 6)) a5 a6 (nI x) a8 (nI k) N 0 0 σ = K (nI (gpm n c i P x k)) v σ := by
  have e := up_eq (fun q v a => L_X8_test_139 N K (nI (msk P 6)) a5 a6 (nI x) a8 (nI k) q a v σ) (fun v a => K a v σ) (fun j => nI (if P k then cnt n c i P (wn n c i k x) x j else 0)) 0 6
    (fun q => by
      show L_X8_test_139 N _ _ _ _ _ _ _ (q + 1) _ _ _ = _
      rw [L_X8_test_139_s, n6, ile_t (Nat.le_refl _) (by decide)])
    (fun q j _ hj => by
      show L_X8_test_139 N _ _ _ _ _ _ _ (q + 1) _ _ _ = L_X8_test_139 N _ _ _ _ _ _ _ q _ _ _
      rw [L_X8_test_139_s, n6, ile_f hj (by decide), has_bit hk (by decide), Option.bind_some, b2n_z, nI_1]
      by_cases hP : P k = true
      · rw [hP, if_pos rfl, if_pos rfl, if_pos rfl]
        dsimp only
        rw [has_bit hj (by decide), Option.bind_some, b2n_z]
        by_cases hQ : P j = true
        · rw [hQ, if_pos rfl, n96, pk_mul, nI_add, gi (by omega) (by decide), pk_mul, nI_add, gi (by omega) (by decide), nI_clamp (by omega), nI_clamp (by omega)]
          dsimp only
          rw [h k x hk hx, h j x hj hx]
          by_cases hw : wn n c i k x = wn n c i j x
          · rw [if_pos ((wn_eq ok hi hk hj x).mpr hw)]
            unfold cnt
            rw [ct_t (p := fun e => P e && decide (wn n c i e x = wn n c i k x)) (j := j) (by rw [hQ, decide_eq_true hw.symm]; rfl)]
          · rw [if_neg (fun z => hw ((wn_eq ok hi hk hj x).mp z))]
            unfold cnt
            rw [ct_f0 (p := fun e => P e && decide (wn n c i e x = wn n c i k x)) (j := j) (by rw [hQ, decide_eq_false (fun z => hw z.symm)]; rfl)]
        · have hQ' : P j = false := by simpa using hQ
          rw [hQ', if_neg (by decide)]
          unfold cnt
          rw [ct_f0 (p := fun e => P e && decide (wn n c i e x = wn n c i k x)) (j := j) (by rw [hQ']; rfl)]
      · have hP' : P k = false := by simpa using hP
        rw [hP', if_neg (by decide), if_neg (by decide), if_neg (by decide)]
        rfl) N (by omega) (by omega)
  refine ⟨nI 6, ?_⟩
  have e0 : nI (if P k then cnt n c i P (wn n c i k x) x 0 else 0) = 0 := by split <;> rfl
  rw [e0] at e
  exact e
theorem mo_t126 {i x : Nat} {P : Nat → Bool} (K : Int32 → Int32 → Sg → Option (Int32 × Sg)) (ok : okS n c) (hi : i < n) (hx : x < 96) (hN : 100 < N) (a5 a6 : Int32) (h : ∀ e x, e < 6 → x < 96 → rI σ 22 32 0 (96 * e + x) = whoI n (sets c i 0 e) x n) :
    ∃ v, L_X8_test_126 N K (nI (msk P 6)) a5 a6 (nI x) N 0 0 σ = K (nI (gpt n c i P x)) v σ := by
  have e := up_eq (fun q v a => L_X8_test_126 N K (nI (msk P 6)) a5 a6 (nI x) q a v σ) (fun v a => K a v σ) (fun j => nI (mxN (gpm n c i P x) j)) 0 6
    (fun q => by
      show L_X8_test_126 N _ _ _ _ _ (q + 1) _ _ _ = _
      rw [L_X8_test_126_s, n6, ile_t (Nat.le_refl _) (by decide)])
    (fun q j _ hj => by
      show L_X8_test_126 N _ _ _ _ _ (q + 1) _ _ _ = L_X8_test_126 N _ _ _ _ _ q _ _ _
      have b1 : mxN (gpm n c i P x) j ≤ 6 := mxN_le (fun k _ => by unfold gpm; split; exact fb_ct_le _ _; omega)
      have b2 : gpm n c i P x j ≤ 6 := by unfold gpm; split; exact fb_ct_le _ _; omega
      obtain ⟨v, e⟩ := mo_t139 (N := N) (σ := σ) (P := P) (k := j) (fun v10_10 v11_10 σ_10 => if v10_10 ≤ nI (mxN (gpm n c i P x) j) then (L_X8_test_126 N K (nI (msk P 6)) a5 a6 (nI x) q (nI (mxN (gpm n c i P x) j)) (nI (j + 1)) σ_10) else (L_X8_test_126 N K (nI (msk P 6)) a5 a6 (nI x) q v10_10 (nI (j + 1)) σ_10)) ok hi hj hx hN a5 a6 (nI (mxN (gpm n c i P x) j)) h
      rw [L_X8_test_126_s, n6, ile_f hj (by decide), nI_1, e, mxN_s]
      by_cases hl : mxN (gpm n c i P x) j < gpm n c i P x j
      · rw [ile_f hl (by omega), if_pos hl]
      · rw [ile_t (by omega) (by omega), if_neg hl]) N (by omega) (by omega)
  exact ⟨nI 6, by rw [← gpt_eq ok hi]; exact e⟩
theorem mo_t113 {i : Nat} {P : Nat → Bool} (K : Int32 → Int32 → Int32 → Sg → Option (Int32 × Sg)) (ok : okS n c) (hi : i < n) (hN : 100 < N) (h : ∀ e x, e < 6 → x < 96 → rI σ 22 32 0 (96 * e + x) = whoI n (sets c i 0 e) x n) :
    ∃ v, L_X8_test_113 N K (nI (msk P 6)) N (-9) 99 0 σ = K (nI (lsx (gpt n c i P) 95).2) (nI (lsx (gpt n c i P) 95).1) v σ := by
  obtain ⟨⟨a, b⟩, e, h1⟩ := up_rel (fun q v (s : Int32 × Int32) => L_X8_test_113 N K (nI (msk P 6)) q s.1 s.2 v σ) (fun v s => K s.1 s.2 v σ) (fun j s => (j = 0 ∧ s.2 = nI 99) ∨ (1 ≤ j ∧ s.2 = nI (lsx (gpt n c i P) (j - 1)).1 ∧ s.1 = nI (lsx (gpt n c i P) (j - 1)).2)) 96
    (fun q s h => by
      show L_X8_test_113 N _ _ (q + 1) _ _ _ _ = _
      rw [L_X8_test_113_s, n96, ile_t (Nat.le_refl _) (by decide)])
    (fun q j s hj h' => by
      show ∃ s' : Int32 × Int32, L_X8_test_113 N K (nI (msk P 6)) (q + 1) s.1 s.2 (nI j) σ = L_X8_test_113 N K (nI (msk P 6)) q s'.1 s'.2 (nI (j + 1)) σ ∧ _
      have b2 := gpt_le n c i P j
      obtain ⟨v, e⟩ := mo_t126 (N := N) (σ := σ) (P := P) (x := j) (fun v8_11 v9_11 σ_11 => if s.2 ≤ v8_11 then (L_X8_test_113 N K (nI (msk P 6)) q s.1 s.2 (nI (j + 1)) σ_11) else (L_X8_test_113 N K (nI (msk P 6)) q (nI j) v8_11 (nI (j + 1)) σ_11)) ok hi hj hN s.1 s.2 h
      rw [L_X8_test_113_s, n96, ile_f hj (by decide), nI_1, e]
      rcases h' with ⟨rfl, h2⟩ | ⟨h0, h1, h2⟩
      · rw [h2, ile_f (by omega) (by omega)]
        exact ⟨(_, _), rfl, Or.inr ⟨by omega, rfl, rfl⟩⟩
      · obtain ⟨m, rfl⟩ : ∃ m, j = m + 1 := ⟨j - 1, by omega⟩
        have b1 := lsx_b (gpt_le n c i P) m
        rw [Nat.add_sub_cancel] at h1 h2
        rw [h1, h2, Nat.add_sub_cancel, lsx_s]
        by_cases hl : (lsx (gpt n c i P) m).1 ≤ gpt n c i P (m + 1)
        · rw [ile_t hl (by omega), if_pos hl]
          exact ⟨(_, _), rfl, Or.inr ⟨by omega, rfl, rfl⟩⟩
        · rw [ile_f (by omega) (by omega), if_neg hl]
          exact ⟨(_, _), rfl, Or.inr ⟨by omega, rfl, rfl⟩⟩)
    96 0 ((-9 : Int32), (99 : Int32)) N (by omega) (Or.inl ⟨rfl, rfl⟩) (by omega)
  rcases h1 with ⟨h1, -⟩ | ⟨-, h1, h2⟩
  · omega
  · exact ⟨_, by rw [← h1, ← h2]; exact e⟩
theorem rgP_sc {t i j k : Nat} (h : rgP t i j) : scR t i j k := by
  rcases h with h | h
  · unfold scR; omega
  · exact scr1_sc h
theorem rgX_sc {t i j k : Nat} (h : rgX t i j) : scR t i j k := by
  rcases h with h | h
  · exact rgA_sc h
  · unfold scR; omega
theorem st_test (p0 p1 : Int32) (hN : 100 < N) : StepI (f_X7_test N p0 p1) (f_X8_test N p0 p1) := by
  intro σ hI
  obtain ⟨n, nd, D, hs⟩ := hI.2.2.2.2.2
  have ok := hs.ok
  have hn := ok.1
  have hs2 : iScr (th0 σ) n nd D := hs.q (tl_sc th0_fr)
  rcases rs_cases (N := N) hI.1 hs.scr ok p0 p1 hN with ⟨e1, e2⟩ | ⟨f, hf, e1, e2⟩ | ⟨i, r, m, cl, tl, hi, hr, rfl, rfl, hp, htl, e1, e2⟩
  · refine ⟨-1, σ, th0 σ, ?_, ?_, Inv_th0 hI⟩
    · unfold f_X7_test
      rw [e1]; rfl
    · unfold f_X8_test
      rw [← th0, e2 _ hs2.mS (fq_rows th0_fr)]; rfl
  · refine ⟨-3, fdS σ f, fdM (th0 (fdS σ f)) f, ?_, ?_, Inv_found hI hf⟩
    · unfold f_X7_test
      rw [e1]; rfl
    · unfold f_X8_test
      rw [← th0, e2 _ (fd_mS hs.mS) (fun k => ⟨rfl, rfl⟩)]; rfl
  · obtain ⟨τ, p, hp6, k1, k2, k3⟩ := cl_kinds (N := N) hs.scr ok hi hr hp hN
    generalize hP : (fun k => agr n (sets (D nd) i 0 k) cl tl m) = P at *
    have q0 : Fq scR σ τ := k3.q (fun _ _ _ _ z => scr1_sc z)
    have m0 : ∀ υ, Fq tlR σ υ → (∀ k, rI υ 22 7 0 k = rI σ 22 7 0 k ∧ rI υ 22 6 0 k = rI σ 22 6 0 k) → ∃ p' ω, f_X8_againstPairs N (nI i) (nI r) (th0 υ) = some (0, th0 υ) ∧ f_X8_kindsOf N (nI i) (nI r) (th0 υ) = some (nI (msk P 6), ω) ∧ mW ω n (sets (D nd) i 0 p') ∧ mC ω n (sets (D nd) i 0 p') ∧ Fr rgA (th0 υ) ω := by
      intro υ hq hrow
      have hm : mS (th0 υ) n (D nd) := (hs.q (hq.tr (tl_sc th0_fr) (fun _ _ _ _ z => z) (fun _ _ _ _ z => z))).mS
      obtain ⟨e3, hpm⟩ := e2 (th0 υ) hm (fun k => hrow k)
      obtain ⟨ω, p', hp6', g1, g2, g3, g4⟩ := mo_kinds (N := N) hm ok hi hr hpm hN
      rw [hP] at g1
      exact ⟨p', ω, e3, g1, g2, g3, g4⟩
    have bm : msk P 6 < 64 := msk_lt P 6
    by_cases hz : msk P 6 = 0
    · obtain ⟨p', ω, e3, g1, g2, g3, g4⟩ := m0 τ (tl_sc q0) (fq_rows q0)
      refine ⟨-9, τ, ω, ?_, ?_, Inv_sc hI ((q0.tr th0_fr (fun _ _ _ _ z => z) (fun _ _ _ _ z => z)).tr (g4.q (fun _ _ _ _ => rgA_sc)) (fun _ _ _ _ z => z) (fun _ _ _ _ z => z))⟩
      · unfold f_X7_test
        rw [e1, Option.bind_some, if_pos rfl, gi hr (by decide), nI_clamp (by omega), k1, Option.bind_some, iz_t hz]
      · unfold f_X8_test
        rw [← th0, e3, Option.bind_some, if_pos rfl, g1, Option.bind_some, iz_t hz]
    · have hS2 : isScr τ 0 n (D nd) := hs.scr.fr k3 (by unfold scrR; omega) (fun j _ => by unfold scrR; omega)
      obtain ⟨τ2, a1, a2, a3⟩ := cl_sort (N := N) (P := P) hS2 ok hi hN
      obtain ⟨v, b1⟩ := cl_test (N := N) (fun v5_6 v6_6 v7_6 σ_6 => some (v6_6, uI σ_6 0 0 0 12 v5_6)) a3 hN
      have q1 : Fq scR σ τ2 := q0.tr (a2.q (fun _ _ _ _ z => rgP_sc z)) (fun _ _ _ _ z => z) (fun _ _ _ _ z => z)
      generalize hw : lsx (gpt n (D nd) i P) 95 = w at *
      have qt : Fq tlR σ (tel τ2 (nI w.1)) := (tl_sc q1).uI (Or.inr (Or.inl ⟨rfl, rfl⟩))
      obtain ⟨p', ω, e3, g1, g2, g3, g4⟩ := m0 (tel τ2 (nI w.1)) qt (fun k => fq_rows q1 k)
      obtain ⟨v', ψ, c1, c2, c3⟩ := mo_t37 (N := N) (fun v5_7 σ_7 => L_X8_test_113 N (fun v5_12 v6_12 v7_12 σ_12 => (f_X8_tells N v5_12 v6_12 σ_12).bind (fun w13 => some (w13.1, w13.2))) (nI (msk P 6)) N (-9 : Int32) (99 : Int32) (0 : Int32) σ_7) ok hi hN (nI (msk P 6)) g2 g3
      obtain ⟨v2, d1⟩ := mo_t113 (N := N) (P := P) (fun v5_12 v6_12 v7_12 σ_12 => (f_X8_tells N v5_12 v6_12 σ_12).bind (fun w13 => some (w13.1, w13.2))) ok hi hN c3
      rw [hw] at d1
      refine ⟨nI w.2, tel τ2 (nI w.1), uI ψ 21 0 0 1 (nI w.1), ?_, ?_, Inv_tells (Inv_sc hI q1) ((g4.q (fun _ _ _ _ => rgA_sc)).tr (c2.q (fun _ _ _ _ => rgX_sc)) (fun _ _ _ _ z => z) (fun _ _ _ _ z => z))⟩
      · unfold f_X7_test
        rw [e1, Option.bind_some, if_pos rfl, gi hr (by decide), nI_clamp (by omega), k1, Option.bind_some, iz_f hz (by omega), a1, Option.bind_some, n0, cl_great (by decide) a3 hN, Option.bind_some]
        exact b1
      · unfold f_X8_test
        rw [← th0, e3, Option.bind_some, if_pos rfl, g1, Option.bind_some, iz_f hz (by omega), c1]
        rw [d1, sp_tells, Option.bind_some]
end Test
