/-! what holds between calls -/
def rowOK (σ : Sg) (r : Nat) : Prop := (rI σ 2 r 0 1 = -1 ∧ rI σ 22 7 0 r = -1) ∨ ∃ m, m ≤ 40 ∧ rI σ 2 r 0 1 = nI m ∧ rI σ 22 7 0 r = nI m ∧ ∀ k, k < m → rI σ 3 r 0 k = rI σ 22 6 0 (40 * r + k)
def txtOK (σ : Sg) (t : Nat) : Prop := (rI σ 5 t 0 1 = -1 ∧ rI σ 22 9 0 t = -1) ∨ ∃ m, m ≤ 60 ∧ rI σ 5 t 0 1 = nI m ∧ rI σ 22 9 0 t = nI m ∧ ∀ k, k < m → rI σ 6 t 0 k = rI σ 22 8 0 (60 * t + k)
def iRow (σ : Sg) : Prop := ∀ r, r < 6 → rowOK σ r
def iTxt (σ : Sg) : Prop := ∀ t, t < 4 → txtOK σ t
def iTold (σ : Sg) : Prop := rI σ 0 0 0 12 = rI σ 21 0 0 1
def iFrac (σ : Sg) : Prop := rL σ 0 0 0 13 = rL σ 21 0 0 2 ∧ rL σ 0 0 0 14 = rL σ 21 0 0 3 ∧ rI σ 15 0 0 0 = 0
def iFind (σ : Sg) : Prop := rI σ 0 0 0 11 = rI σ 21 0 0 4 ∧ ∀ f, f < 6 → rI σ 20 0 0 f = rI σ 22 5 0 f
def sameK (n : Nat) (a b : Scr) : Prop := ∀ i, i < n → a i 0 = b i 0 ∧ a i 3 = b i 3 ∧ a i 4 = b i 4
/-- a screen and its deeds: D d: as it was ahead of deed d, D nd: as it is -/
def okH (n nd : Nat) (D : Nat → Scr) (c0 : Scr) : Prop := nd ≤ 40 ∧ ∀ d, d ≤ nd → okS n (D d) ∧ sameK n (D d) c0
def cH (σ : Sg) (s q n nd : Nat) (D : Nat → Scr) : Prop := isScr σ s n (D nd) ∧ rI σ 10 q 0 4 = nI nd ∧ ∀ d, d < nd → undo1 n (rI σ 11 q 0 d) (rI σ 11 q 1 d) (rI σ 11 q 2 d) (rI σ 11 q 3 d) (D (d + 1)) (D d)
def mH (σ : Sg) (n nd : Nat) (D : Nat → Scr) : Prop := isMod (fun k => rI σ 22 14 0 k) n (D nd) ∧ rI σ 21 0 0 16 = nI nd ∧ ∀ d, d < nd → isMod (fun k => rI σ 22 15 0 (22 * d + k)) n (D d)
def mHk (σ : Sg) (k n nd : Nat) (D : Nat → Scr) : Prop := isMod (fun j => rI σ 22 17 0 (22 * k + j)) n (D nd) ∧ rI σ 22 19 0 k = nI nd ∧ ∀ d, d < nd → isMod (fun j => rI σ 22 18 0 (880 * k + (22 * d + j))) n (D d)
def mK (σ : Sg) (n : Nat) (c : Scr) : Prop := rI σ 21 0 0 10 = nI n ∧ ∀ i, i < n → rI σ 22 11 0 i = nI (c i 0) ∧ rI σ 22 12 0 i = nI (c i 3) ∧ rI σ 22 13 0 i = nI (c i 4)
def keptOK (σ : Sg) (n : Nat) (c0 : Scr) (k : Nat) : Prop := (rI σ 10 (k + 1) 0 4 = -1 ∧ rI σ 22 19 0 k = -1) ∨ ∃ nd D, okH n nd D c0 ∧ cH σ (k + 2) (k + 1) n nd D ∧ mHk σ k n nd D
def iScr (σ : Sg) (n nd : Nat) (D : Nat → Scr) : Prop := (n = 0 ∨ 2 ≤ n) ∧ okH n nd D (D nd) ∧ cH σ 0 0 n nd D ∧ mH σ n nd D ∧ mK σ n (D nd) ∧ ∀ k, k < 3 → keptOK σ n (D nd) k
def Inv (σ : Sg) : Prop := iRow σ ∧ iTxt σ ∧ iTold σ ∧ iFrac σ ∧ iFind σ ∧ ∃ n nd D, iScr σ n nd D
/-! what each part looks at -/
def fRow (t i _ _ : Nat) : Prop := t = 2 ∨ t = 3 ∨ (t = 22 ∧ (i = 6 ∨ i = 7))
def fTxt (t i _ _ : Nat) : Prop := t = 5 ∨ t = 6 ∨ (t = 22 ∧ (i = 8 ∨ i = 9))
def fTold (t _ _ k : Nat) : Prop := (t = 0 ∧ k = 12) ∨ (t = 21 ∧ k = 1)
def fFrac (t _ _ k : Nat) : Prop := (t = 0 ∧ (k = 13 ∨ k = 14)) ∨ (t = 21 ∧ (k = 2 ∨ k = 3)) ∨ (t = 15 ∧ k = 0)
def fFind (t i _ k : Nat) : Prop := (t = 0 ∧ k = 11) ∨ (t = 21 ∧ k = 4) ∨ t = 20 ∨ (t = 22 ∧ i = 5)
def fScr (t i _ k : Nat) : Prop := ((t = 7 ∨ t = 9) ∧ i ≠ 1) ∨ t = 10 ∨ t = 11 ∨ (t = 21 ∧ (k = 10 ∨ k = 16)) ∨ (t = 22 ∧ 11 ≤ i ∧ i ≤ 19)
/-- what may be written over at any time -/
def scR (t i _ k : Nat) : Prop := ((t = 7 ∨ t = 9) ∧ i = 1) ∨ (14 ≤ t ∧ t ≤ 19 ∧ ¬ (t = 15 ∧ k = 0)) ∨ (t = 21 ∧ (k = 0 ∨ 27 ≤ k)) ∨ (t = 22 ∧ (i = 20 ∨ i = 21 ∨ i = 26 ∨ 31 ≤ i)) ∨ t = 23
section InvFr
variable {R : Nat → Nat → Nat → Nat → Prop} {σ τ : Sg} (h : Fq R σ τ)
theorem iRow_fr (h : Fq R σ τ) (hi : iRow σ) (hf : ∀ t i j k, fRow t i j k → ¬ R t i j k) : iRow τ := by
  intro r hr
  have e1 := (h 2 r 0 1 (hf _ _ _ _ (Or.inl rfl))).1
  have e2 := (h 22 7 0 r (hf _ _ _ _ (Or.inr (Or.inr ⟨rfl, Or.inr rfl⟩)))).1
  rcases hi r hr with ⟨a, b⟩ | ⟨m, hm, a, b, d⟩
  · exact Or.inl ⟨e1.trans a, e2.trans b⟩
  · exact Or.inr ⟨m, hm, e1.trans a, e2.trans b, fun k hk => ((h 3 r 0 k (hf _ _ _ _ (Or.inr (Or.inl rfl)))).1).trans ((d k hk).trans ((h 22 6 0 (40 * r + k) (hf _ _ _ _ (Or.inr (Or.inr ⟨rfl, Or.inl rfl⟩)))).1).symm)⟩
theorem iTxt_fr (h : Fq R σ τ) (hi : iTxt σ) (hf : ∀ t i j k, fTxt t i j k → ¬ R t i j k) : iTxt τ := by
  intro r hr
  have e1 := (h 5 r 0 1 (hf _ _ _ _ (Or.inl rfl))).1
  have e2 := (h 22 9 0 r (hf _ _ _ _ (Or.inr (Or.inr ⟨rfl, Or.inr rfl⟩)))).1
  rcases hi r hr with ⟨a, b⟩ | ⟨m, hm, a, b, d⟩
  · exact Or.inl ⟨e1.trans a, e2.trans b⟩
  · exact Or.inr ⟨m, hm, e1.trans a, e2.trans b, fun k hk => ((h 6 r 0 k (hf _ _ _ _ (Or.inr (Or.inl rfl)))).1).trans ((d k hk).trans ((h 22 8 0 (60 * r + k) (hf _ _ _ _ (Or.inr (Or.inr ⟨rfl, Or.inl rfl⟩)))).1).symm)⟩
theorem iTold_fr (h : Fq R σ τ) (hi : iTold σ) (hf : ∀ t i j k, fTold t i j k → ¬ R t i j k) : iTold τ :=
  ((h 0 0 0 12 (hf _ _ _ _ (Or.inl ⟨rfl, rfl⟩))).1).trans (hi.trans ((h 21 0 0 1 (hf _ _ _ _ (Or.inr ⟨rfl, rfl⟩))).1).symm)
theorem iFrac_fr (h : Fq R σ τ) (hi : iFrac σ) (hf : ∀ t i j k, fFrac t i j k → ¬ R t i j k) : iFrac τ :=
  ⟨((h 0 0 0 13 (hf _ _ _ _ (by unfold fFrac; omega))).2).trans (hi.1.trans ((h 21 0 0 2 (hf _ _ _ _ (by unfold fFrac; omega))).2).symm), ((h 0 0 0 14 (hf _ _ _ _ (by unfold fFrac; omega))).2).trans (hi.2.1.trans ((h 21 0 0 3 (hf _ _ _ _ (by unfold fFrac; omega))).2).symm), ((h 15 0 0 0 (hf _ _ _ _ (by unfold fFrac; omega))).1).trans hi.2.2⟩
theorem iFind_fr (h : Fq R σ τ) (hi : iFind σ) (hf : ∀ t i j k, fFind t i j k → ¬ R t i j k) : iFind τ :=
  ⟨((h 0 0 0 11 (hf _ _ _ _ (Or.inl ⟨rfl, rfl⟩))).1).trans (hi.1.trans ((h 21 0 0 4 (hf _ _ _ _ (Or.inr (Or.inl ⟨rfl, rfl⟩)))).1).symm),
   fun f hf6 => ((h 20 0 0 f (hf _ _ _ _ (Or.inr (Or.inr (Or.inl rfl))))).1).trans ((hi.2 f hf6).trans ((h 22 5 0 f (hf _ _ _ _ (Or.inr (Or.inr (Or.inr ⟨rfl, rfl⟩))))).1).symm)⟩
theorem cH_fr {s q n nd : Nat} {D : Nat → Scr} (h : Fq R σ τ) (hi : cH σ s q n nd D) (h7 : ∀ j k, ¬ R 7 s j k) (h9 : ∀ j k, ¬ R 9 s j k) (h10 : ¬ R 10 q 0 4) (h11 : ∀ j k, ¬ R 11 q j k) : cH τ s q n nd D := by
  refine ⟨hi.1.frq h h7 h9, ((h 10 q 0 4 h10).1).trans hi.2.1, fun d hd => ?_⟩
  rw [(h 11 q 0 d (h11 0 d)).1, (h 11 q 1 d (h11 1 d)).1, (h 11 q 2 d (h11 2 d)).1, (h 11 q 3 d (h11 3 d)).1]
  exact hi.2.2 d hd
theorem isMod_fr {n : Nat} {c : Scr} {g g' : Nat → Int32} (hg : isMod g n c) (e : ∀ k, g' k = g k) : isMod g' n c := by
  have : g' = g := funext e
  rw [this]; exact hg
theorem mH_fr {n nd : Nat} {D : Nat → Scr} (h : Fq R σ τ) (hi : mH σ n nd D) (h14 : ∀ k, ¬ R 22 14 0 k) (h15 : ∀ k, ¬ R 22 15 0 k) (h16 : ¬ R 21 0 0 16) : mH τ n nd D :=
  ⟨isMod_fr hi.1 (fun k => (h 22 14 0 k (h14 k)).1), ((h 21 0 0 16 h16).1).trans hi.2.1, fun d hd => isMod_fr (hi.2.2 d hd) (fun k => (h 22 15 0 (22 * d + k) (h15 _)).1)⟩
theorem mHk_fr {q n nd : Nat} {D : Nat → Scr} (h : Fq R σ τ) (hi : mHk σ q n nd D) (h17 : ∀ k, k < 22 → ¬ R 22 17 0 (22 * q + k)) (h18 : ∀ k, k < 880 → ¬ R 22 18 0 (880 * q + k)) (h19 : ¬ R 22 19 0 q) (ok : ∀ d, d ≤ nd → okS n (D d)) (hd : nd ≤ 40) : mHk τ q n nd D :=
  ⟨hi.1.cong (fun k hk => (h 22 17 0 (22 * q + k) (h17 k hk)).1) (ok nd (Nat.le_refl _)), ((h 22 19 0 q h19).1).trans hi.2.1, fun d hdn => (hi.2.2 d hdn).cong (fun k hk => (h 22 18 0 (880 * q + (22 * d + k)) (h18 _ (by omega))).1) (ok d (by omega))⟩
theorem mK_fr {n : Nat} {c : Scr} (h : Fq R σ τ) (hi : mK σ n c) (h10 : ¬ R 21 0 0 10) (h11 : ∀ k, ¬ R 22 11 0 k) (h12 : ∀ k, ¬ R 22 12 0 k) (h13 : ∀ k, ¬ R 22 13 0 k) : mK τ n c :=
  ⟨((h 21 0 0 10 h10).1).trans hi.1, fun i hn => ⟨((h 22 11 0 i (h11 i)).1).trans (hi.2 i hn).1, ((h 22 12 0 i (h12 i)).1).trans (hi.2 i hn).2.1, ((h 22 13 0 i (h13 i)).1).trans (hi.2 i hn).2.2⟩⟩
theorem keptOK_fr {n k : Nat} {c0 : Scr} (h : Fq R σ τ) (hi : keptOK σ n c0 k) (h7 : ∀ j l, ¬ R 7 (k + 2) j l) (h9 : ∀ j l, ¬ R 9 (k + 2) j l) (h10 : ¬ R 10 (k + 1) 0 4) (h11 : ∀ j l, ¬ R 11 (k + 1) j l) (h17 : ∀ l, l < 22 → ¬ R 22 17 0 (22 * k + l)) (h18 : ∀ l, l < 880 → ¬ R 22 18 0 (880 * k + l)) (h19 : ¬ R 22 19 0 k) : keptOK τ n c0 k := by
  rcases hi with ⟨a, b⟩ | ⟨nd, D, ho, hc, hm⟩
  · exact Or.inl ⟨((h 10 (k + 1) 0 4 h10).1).trans a, ((h 22 19 0 k h19).1).trans b⟩
  · exact Or.inr ⟨nd, D, ho, cH_fr h hc h7 h9 h10 h11, mHk_fr h hm h17 h18 h19 (fun d hd => (ho.2 d hd).1) ho.1⟩
theorem iScr_fr {n nd : Nat} {D : Nat → Scr} (h : Fq R σ τ) (hi : iScr σ n nd D) (hf : ∀ t i j k, fScr t i j k → ¬ R t i j k) : iScr τ n nd D := by
  obtain ⟨h0, h1, h2, h3, h4, h5⟩ := hi
  have g10 : ∀ i j k, ¬ R 10 i j k := fun _ _ _ => hf _ _ _ _ (Or.inr (Or.inl rfl))
  have g11 : ∀ i j k, ¬ R 11 i j k := fun _ _ _ => hf _ _ _ _ (Or.inr (Or.inr (Or.inl rfl)))
  have g7 : ∀ i j k, i ≠ 1 → ¬ R 7 i j k := fun _ _ _ hi => hf _ _ _ _ (Or.inl ⟨Or.inl rfl, hi⟩)
  have g9 : ∀ i j k, i ≠ 1 → ¬ R 9 i j k := fun _ _ _ hi => hf _ _ _ _ (Or.inl ⟨Or.inr rfl, hi⟩)
  have g22 : ∀ i j k, 11 ≤ i → i ≤ 19 → ¬ R 22 i j k := fun _ _ _ ha hb => hf _ _ _ _ (Or.inr (Or.inr (Or.inr (Or.inr ⟨rfl, ha, hb⟩))))
  refine ⟨h0, h1, cH_fr h h2 (fun _ _ => g7 _ _ _ (by decide)) (fun _ _ => g9 _ _ _ (by decide)) (g10 _ _ _) (fun _ _ => g11 _ _ _), mH_fr h h3 (fun _ => g22 _ _ _ (by decide) (by decide)) (fun _ => g22 _ _ _ (by decide) (by decide)) (hf _ _ _ _ (Or.inr (Or.inr (Or.inr (Or.inl ⟨rfl, Or.inr rfl⟩))))), mK_fr h h4 (hf _ _ _ _ (Or.inr (Or.inr (Or.inr (Or.inl ⟨rfl, Or.inl rfl⟩))))) (fun _ => g22 _ _ _ (by decide) (by decide)) (fun _ => g22 _ _ _ (by decide) (by decide)) (fun _ => g22 _ _ _ (by decide) (by decide)), fun k hk => keptOK_fr h (h5 k hk) (fun _ _ => g7 _ _ _ (by omega)) (fun _ _ => g9 _ _ _ (by omega)) (g10 _ _ _) (fun _ _ => g11 _ _ _) (fun _ _ => g22 _ _ _ (by decide) (by decide)) (fun _ _ => g22 _ _ _ (by decide) (by decide)) (g22 _ _ _ (by decide) (by decide))⟩
/-- nothing but scratch -/
theorem Inv_sc (hI : Inv σ) (h : Fq scR σ τ) : Inv τ := by
  obtain ⟨h1, h2, h3, h4, h5, n, nd, D, h6⟩ := hI
  refine ⟨iRow_fr h h1 ?_, iTxt_fr h h2 ?_, iTold_fr h h3 ?_, iFrac_fr h h4 ?_, iFind_fr h h5 ?_, n, nd, D, iScr_fr h h6 ?_⟩ <;> intro t i j k ha hb <;> simp only [fRow, fTxt, fTold, fFrac, fFind, fScr, scR] at ha hb <;> omega
def tlR (t i j k : Nat) : Prop := scR t i j k ∨ fTold t i j k
theorem Inv_tell (hI : Inv σ) (h : Fq tlR σ τ) (e : iTold τ) : Inv τ := by
  obtain ⟨h1, h2, h3, h4, h5, n, nd, D, h6⟩ := hI
  refine ⟨iRow_fr h h1 ?_, iTxt_fr h h2 ?_, e, iFrac_fr h h4 ?_, iFind_fr h h5 ?_, n, nd, D, iScr_fr h h6 ?_⟩ <;> intro t i j k ha hb <;> simp only [fRow, fTxt, fTold, fFrac, fFind, fScr, scR, tlR] at ha hb <;> omega
def fdR (t i j k : Nat) : Prop := scR t i j k ∨ fFind t i j k
theorem Inv_find (hI : Inv σ) (h : Fq fdR σ τ) (e : iFind τ) : Inv τ := by
  obtain ⟨h1, h2, h3, h4, h5, n, nd, D, h6⟩ := hI
  refine ⟨iRow_fr h h1 ?_, iTxt_fr h h2 ?_, iTold_fr h h3 ?_, iFrac_fr h h4 ?_, e, n, nd, D, iScr_fr h h6 ?_⟩ <;> intro t i j k ha hb <;> simp only [fRow, fTxt, fTold, fFrac, fFind, fScr, scR, fdR] at ha hb <;> omega
def frR (t i j k : Nat) : Prop := scR t i j k ∨ fFrac t i j k
theorem Inv_frac (hI : Inv σ) (h : Fq frR σ τ) (e : iFrac τ) : Inv τ := by
  obtain ⟨h1, h2, h3, h4, h5, n, nd, D, h6⟩ := hI
  refine ⟨iRow_fr h h1 ?_, iTxt_fr h h2 ?_, iTold_fr h h3 ?_, e, iFind_fr h h5 ?_, n, nd, D, iScr_fr h h6 ?_⟩ <;> intro t i j k ha hb <;> simp only [fRow, fTxt, fTold, fFrac, fFind, fScr, scR, frR] at ha hb <;> omega
def rwR (t i j k : Nat) : Prop := scR t i j k ∨ fRow t i j k ∨ fTold t i j k
theorem Inv_row (hI : Inv σ) (h : Fq rwR σ τ) (e : iRow τ) (e2 : iTold τ) : Inv τ := by
  obtain ⟨h1, h2, h3, h4, h5, n, nd, D, h6⟩ := hI
  refine ⟨e, iTxt_fr h h2 ?_, e2, iFrac_fr h h4 ?_, iFind_fr h h5 ?_, n, nd, D, iScr_fr h h6 ?_⟩ <;> intro t i j k ha hb <;> simp only [fRow, fTxt, fTold, fFrac, fFind, fScr, scR, rwR] at ha hb <;> omega
def txR (t i j k : Nat) : Prop := scR t i j k ∨ fTxt t i j k
theorem Inv_txt (hI : Inv σ) (h : Fq txR σ τ) (e : iTxt τ) : Inv τ := by
  obtain ⟨h1, h2, h3, h4, h5, n, nd, D, h6⟩ := hI
  refine ⟨iRow_fr h h1 ?_, e, iTold_fr h h3 ?_, iFrac_fr h h4 ?_, iFind_fr h h5 ?_, n, nd, D, iScr_fr h h6 ?_⟩ <;> intro t i j k ha hb <;> simp only [fRow, fTxt, fTold, fFrac, fFind, fScr, scR, txR] at ha hb <;> omega
def syR (t i j k : Nat) : Prop := scR t i j k ∨ fScr t i j k
theorem Inv_scr (hI : Inv σ) (h : Fq syR σ τ) {n nd : Nat} {D : Nat → Scr} (e : iScr τ n nd D) : Inv τ := by
  obtain ⟨h1, h2, h3, h4, h5, n', nd', D', h6⟩ := hI
  refine ⟨iRow_fr h h1 ?_, iTxt_fr h h2 ?_, iTold_fr h h3 ?_, iFrac_fr h h4 ?_, iFind_fr h h5 ?_, n, nd, D, e⟩ <;> intro t i j k ha hb <;> simp only [fRow, fTxt, fTold, fFrac, fFind, fScr, scR, syR] at ha hb <;> omega
end InvFr
