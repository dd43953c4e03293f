/-! what a pane covers: p by its fields: 0 kind, 1 left, 2 top, 3 wide, 4 high, 5 place, 6 open -/
def rch (k : Nat) (p : Nat → Nat) (c l : Nat) : Bool :=
  if k = 1 then decide ((c = p 1 ∨ l = p 2) ∨ (c + 1 = p 1 + p 3 ∨ l + 1 = p 2 + p 4))
  else if k = 2 then decide ((c + l) % 2 = 0)
  else if k = 4 then decide (c = p 1 ∨ l = p 2)
  else if k = 5 then decide ((c + l) % 2 = 0 ∧ ¬ (c = p 1 ∨ l = p 2) ∧ ¬ (c + 1 = p 1 + p 3 ∨ l + 1 = p 2 + p 4))
  else true
def ibx (p : Nat → Nat) (x : Nat) : Bool := decide ((p 1 ≤ x % 12 ∧ x % 12 < p 1 + p 3) ∧ (p 2 ≤ x / 12 ∧ x / 12 < p 2 + p 4))
def cvk (k : Nat) (p : Nat → Nat) (x : Nat) : Bool := ibx p x && rch k p (x % 12) (x / 12)
def cvr (p : Nat → Nat) (x : Nat) : Bool := cvk (p 0) p x
def up (p : Nat → Nat) (k v : Nat) : Nat → Nat := fun f => if f = k then v else p f
def b2n (b : Bool) : Nat := if b then 1 else 0
/-- box and kind as they may be -/
def okB (p : Nat → Nat) : Prop := p 0 < 6 ∧ 1 ≤ p 3 ∧ p 1 + p 3 ≤ 12 ∧ 1 ≤ p 4 ∧ p 2 + p 4 ≤ 8
/-- the numbers of a pane's box in the store -/
def bxS (σ : Sg) (s i : Nat) (p : Nat → Nat) : Prop := ∀ f, f < 5 → rI σ 9 s i f = nI (p f)
theorem nb_b (b : Nat) (h : b < 2) : nb (nI b) = nI b := by
  rcases (by omega : b = 0 ∨ b = 1) with rfl | rfl <;> rfl
theorem sp_reaches (N s i : Nat) {σ : Sg} {p : Nat → Nat} (hb : bxS σ s i p) (ok : okB p) {k c l : Nat} (hk : k < 6) (hc : c < 12) (hl : l < 8) :
    f_X2_reaches N s i (nI k) (nI c) (nI l) σ = some (nI (b2n (rch k p c l)), σ) := by
  obtain ⟨ok0, ok1, ok2, ok3, ok4⟩ := ok
  have e1 : (nI c = nI (p 1)) ↔ c = p 1 := nI_eq (by omega) (by omega)
  have e2 : (nI l = nI (p 2)) ↔ l = p 2 := nI_eq (by omega) (by omega)
  have e3 : (nI c = nI (p 1) + nI (p 3) - 1) ↔ c + 1 = p 1 + p 3 := by
    rw [nI_add, n1, pk_sub (by omega), nI_eq (by omega) (by omega)]; omega
  have e4 : (nI l = nI (p 2) + nI (p 4) - 1) ↔ l + 1 = p 2 + p 4 := by
    rw [nI_add, n1, pk_sub (by omega), nI_eq (by omega) (by omega)]; omega
  have e5 : (nI c + nI l - (nI c + nI l) / 2 * 2 = 0) ↔ (c + l) % 2 = 0 := by
    rw [nI_add, n2, pk_rem (by omega) (by decide) (by decide), n0, nI_eq (by omega) (by decide)]
  have e6 : ∀ d : Nat, ((nI k).toInt = 1 + (d : Int)) ↔ k = 1 + d := by
    intro d; rw [nI_toInt (by omega)]; omega
  unfold f_X2_reaches rch b2n
  simp only [hb 1 (by decide), hb 2 (by decide), hb 3 (by decide), hb 4 (by decide), e1, e2, e3, e4, e5, e6]
  obtain ⟨A, hA⟩ : ∃ A : Bool, (c = p 1) = (A = true) := ⟨decide (c = p 1), by simp⟩
  obtain ⟨B, hB⟩ : ∃ A : Bool, (l = p 2) = (A = true) := ⟨decide (l = p 2), by simp⟩
  obtain ⟨C, hC⟩ : ∃ A : Bool, (c + 1 = p 1 + p 3) = (A = true) := ⟨decide (c + 1 = p 1 + p 3), by simp⟩
  obtain ⟨D, hD⟩ : ∃ A : Bool, (l + 1 = p 2 + p 4) = (A = true) := ⟨decide (l + 1 = p 2 + p 4), by simp⟩
  obtain ⟨E, hE⟩ : ∃ A : Bool, ((c + l) % 2 = 0) = (A = true) := ⟨decide ((c + l) % 2 = 0), by simp⟩
  simp only [hA, hB, hC, hD, hE]
  clear hA hB hC hD hE e1 e2 e3 e4 e5 e6
  rcases (by omega : k = 0 ∨ k = 1 ∨ k = 2 ∨ k = 3 ∨ k = 4 ∨ k = 5) with rfl | rfl | rfl | rfl | rfl | rfl <;>
    cases A <;> cases B <;> cases C <;> cases D <;> cases E <;> rfl
/-- a pane's two masks -/
def ms (σ : Sg) (s i : Nat) (P : Nat → Bool) : Sg := uL (uL σ 9 s i 7 (lN (msk P 48))) 9 s i 8 (lN (msk (fun x => P (48 + x)) 48))
theorem sg_ext {σ τ : Sg} (h1 : ∀ a b c d, rI σ a b c d = rI τ a b c d) (h2 : ∀ a b c d, rL σ a b c d = rL τ a b c d) : σ = τ :=
  Prod.ext (funext fun a => funext fun b => funext fun c => funext fun d => h1 a b c d) (funext fun a => funext fun b => funext fun c => funext fun d => h2 a b c d)
theorem ms_rI (σ : Sg) (s i : Nat) (P : Nat → Bool) (a b c d : Nat) : rI (ms σ s i P) a b c d = rI σ a b c d := rfl
theorem ms_7 (σ : Sg) (s i : Nat) (P : Nat → Bool) : rL (ms σ s i P) 9 s i 7 = lN (msk P 48) := by
  unfold ms; rw [rL_uL, rL_uL]; simp
theorem ms_8 (σ : Sg) (s i : Nat) (P : Nat → Bool) : rL (ms σ s i P) 9 s i 8 = lN (msk (fun x => P (48 + x)) 48) := by
  unfold ms; rw [rL_uL]; simp
theorem ms_cong (σ : Sg) (s i : Nat) {P Q : Nat → Bool} (h : ∀ x, x < 96 → P x = Q x) : ms σ s i P = ms σ s i Q := by
  unfold ms
  rw [msk_cong (p := P) (q := Q) (fun x hx => h x (by omega)), msk_cong (p := fun x => P (48 + x)) (q := fun x => Q (48 + x)) (fun x hx => h (48 + x) (by omega))]
theorem sp_addCell (N s i : Nat) (σ : Sg) (P : Nat → Bool) {x : Nat} (hx : x < 96) : f_X2_addCell N s i (nI x) (ms σ s i P) = some (ms σ s i (fun y => P y || decide (y = x))) := by
  unfold f_X2_addCell
  by_cases h : 48 ≤ x
  · rw [n48, ile_t h (by omega), pk_sub h, ms_8, L_add (by omega)]
    congr 1
    apply sg_ext
    · intro a b c d; unfold ms; simp only [rI_uL]
    · intro a b c d
      have e1 : msk (fun i => P (48 + i) || decide (i = x - 48)) 48 = msk (fun y => P (48 + y) || decide (48 + y = x)) 48 :=
        msk_cong (fun y hy => by
          have : decide (y = x - 48) = decide (48 + y = x) := by rw [decide_eq_decide]; omega
          rw [this])
      have e2 : msk P 48 = msk (fun y => P y || decide (y = x)) 48 :=
        msk_cong (fun y hy => by
          have : decide (y = x) = false := by rw [decide_eq_false_iff_not]; omega
          rw [this, Bool.or_false])
      unfold ms
      simp only [rL_uL, e1, e2]
      split <;> simp_all
  · rw [n48, ile_f (by omega) (by omega), ms_7, L_add (by omega)]
    congr 1
    apply sg_ext
    · intro a b c d; unfold ms; simp only [rI_uL]
    · intro a b c d
      have e2 : msk (fun y => P (48 + y)) 48 = msk (fun y => P (48 + y) || decide (48 + y = x)) 48 :=
        msk_cong (fun y hy => by
          have : decide (48 + y = x) = false := by rw [decide_eq_false_iff_not]; omega
          rw [this, Bool.or_false])
      unfold ms
      simp only [rL_uL, e2]
      by_cases h7 : d = 7 <;> by_cases h8 : d = 8 <;> simp_all
/-- the cells of a box that come ahead of a column in a line -/
def pq (k : Nat) (p : Nat → Nat) (L C : Nat) (x : Nat) : Bool := cvk k p x && decide (x / 12 < L ∨ (x / 12 = L ∧ x % 12 < C))
theorem pq_step {k : Nat} {p : Nat → Nat} (ok : okB p) {L C : Nat} (h1 : p 1 ≤ C) (h2 : C < p 1 + p 3) (h3 : p 2 ≤ L) (h4 : L < p 2 + p 4) (x : Nat) :
    pq k p L (C + 1) x = (pq k p L C x || (decide (x = L * 12 + C) && rch k p C L)) := by
  obtain ⟨ok0, ok1, ok2, ok3, ok4⟩ := ok
  unfold pq cvk ibx
  by_cases hx : x = L * 12 + C
  · have a1 : x % 12 = C := by omega
    have a2 : x / 12 = L := by omega
    have b1 : decide ((p 1 ≤ C ∧ C < p 1 + p 3) ∧ (p 2 ≤ L ∧ L < p 2 + p 4)) = true := decide_eq_true ⟨⟨h1, h2⟩, h3, h4⟩
    have b2 : decide (L < L ∨ L = L ∧ C < C + 1) = true := decide_eq_true (by omega)
    have b3 : decide (L < L ∨ L = L ∧ C < C) = false := decide_eq_false (by omega)
    have b4 : decide (x = L * 12 + C) = true := decide_eq_true hx
    rw [a1, a2, b1, b2, b3, b4]
    cases rch k p C L <;> rfl
  · have e : decide (x / 12 < L ∨ x / 12 = L ∧ x % 12 < C + 1) = decide (x / 12 < L ∨ x / 12 = L ∧ x % 12 < C) := by
      rw [decide_eq_decide]; omega
    rw [e]
    simp [hx]
theorem pq_line {k : Nat} {p : Nat → Nat} (L x : Nat) : pq k p L (p 1 + p 3) x = pq k p (L + 1) (p 1) x := by
  unfold pq cvk ibx
  by_cases h : (p 1 ≤ x % 12 ∧ x % 12 < p 1 + p 3) ∧ (p 2 ≤ x / 12 ∧ x / 12 < p 2 + p 4)
  · have e : decide (x / 12 < L ∨ x / 12 = L ∧ x % 12 < p 1 + p 3) = decide (x / 12 < L + 1 ∨ x / 12 = L + 1 ∧ x % 12 < p 1) := by
      rw [decide_eq_decide]; omega
    rw [e]
  · rw [decide_eq_false h]; rfl
theorem pq_first {k : Nat} {p : Nat → Nat} (x : Nat) : pq k p (p 2) (p 1) x = false := by
  unfold pq cvk ibx
  by_cases h : (p 1 ≤ x % 12 ∧ x % 12 < p 1 + p 3) ∧ (p 2 ≤ x / 12 ∧ x / 12 < p 2 + p 4)
  · have e : decide (x / 12 < p 2 ∨ x / 12 = p 2 ∧ x % 12 < p 1) = false := by rw [decide_eq_false_iff_not]; omega
    rw [e, Bool.and_false]
  · rw [decide_eq_false h]; rfl
theorem pq_last {k : Nat} {p : Nat → Nat} (x : Nat) : pq k p (p 2 + p 4) (p 1) x = cvk k p x := by
  unfold pq cvk ibx
  by_cases h : (p 1 ≤ x % 12 ∧ x % 12 < p 1 + p 3) ∧ (p 2 ≤ x / 12 ∧ x / 12 < p 2 + p 4)
  · have e : decide (x / 12 < p 2 + p 4 ∨ x / 12 = p 2 + p 4 ∧ x % 12 < p 1) = true := by rw [decide_eq_true_eq]; omega
    rw [e, Bool.and_true]
  · rw [decide_eq_false h]; rfl
theorem bxS_ms {σ : Sg} {s i : Nat} {p : Nat → Nat} (hb : bxS σ s i p) (P : Nat → Bool) : bxS (ms σ s i P) s i p := fun f hf => hb f hf
theorem sp_fc33 (N s i : Nat) {σ : Sg} {p : Nat → Nat} (hb : bxS σ s i p) (ok : okB p) (K : Int32 → Sg → Option Sg) {L : Nat} (h3 : p 2 ≤ L) (h4 : L < p 2 + p 4) (n : Nat) (hn : 12 < n) :
    L_X2_findCells_33 N K s i (nI L) n (nI (p 1)) (ms σ s i (pq (p 0) p L (p 1))) = K (nI (p 1 + p 3)) (ms σ s i (pq (p 0) p (L + 1) (p 1))) := by
  have ok' := ok
  obtain ⟨ok0, ok1, ok2, ok3, ok4⟩ := ok'
  have h := up_eq (fun n v τ => L_X2_findCells_33 N K s i (nI L) n v τ) (fun v τ => K v τ) (fun C => ms σ s i (pq (p 0) p L C)) (p 1) (p 1 + p 3) ?_ ?_ n (by omega) (by omega)
  · rw [h, ms_cong σ s i (fun x _ => pq_line L x)]
  · intro n
    show L_X2_findCells_33 N K s i (nI L) (n + 1) _ _ = _
    rw [L_X2_findCells_33_s, ms_rI, ms_rI, hb 1 (by decide), hb 3 (by decide), nI_add, ile_t (Nat.le_refl _) (by omega)]
  · intro n C hC1 hC
    show L_X2_findCells_33 N K s i (nI L) (n + 1) _ _ = L_X2_findCells_33 N K s i (nI L) n _ _
    rw [L_X2_findCells_33_s, ms_rI, ms_rI, ms_rI, hb 0 (by decide), hb 1 (by decide), hb 3 (by decide), nI_add, ile_f hC (by omega), sp_reaches N s i (bxS_ms hb _) ok ok0 (by omega) (by omega)]
    show (if nI (b2n (rch (p 0) p C L)) = 0 then _ else _) = _
    have hs := pq_step (k := p 0) ok hC1 hC h3 h4
    cases hr : rch (p 0) p C L with
    | false =>
      rw [show b2n false = 0 from rfl, iz_t rfl, nI_1, ms_cong σ s i (P := pq (p 0) p L (C + 1)) (fun x _ => by rw [hs x, hr, Bool.and_false, Bool.or_false])]
    | true =>
      rw [show b2n true = 1 from rfl, iz_f (by decide) (by decide), n12, pk_mul, nI_add, sp_addCell N s i σ _ (by omega)]
      show L_X2_findCells_33 N K s i (nI L) n _ _ = _
      rw [nI_1, ms_cong σ s i (P := pq (p 0) p L (C + 1)) (fun x _ => by rw [hs x, hr, Bool.and_true])]
theorem ms_ms (σ : Sg) (s i : Nat) : uL (uL σ 9 s i 7 (0 : Int64)) 9 s i 8 (0 : Int64) = ms σ s i (fun _ => false) := by
  unfold ms
  rw [msk_none]
  rfl
theorem sp_findCells (N s i : Nat) {σ : Sg} {p : Nat → Nat} (hb : bxS σ s i p) (ok : okB p) (hN : 12 < N) : f_X2_findCells N s i σ = some (ms σ s i (cvr p)) := by
  have ok' := ok
  obtain ⟨ok0, ok1, ok2, ok3, ok4⟩ := ok'
  unfold f_X2_findCells
  rw [ms_ms, ms_rI, hb 2 (by decide)]
  have h := up_eq (fun n v τ => L_X2_findCells_15 N (fun _ σ_4 => some σ_4) s i n v τ) (fun v τ => some τ) (fun L => ms σ s i (pq (p 0) p L (p 1))) (p 2) (p 2 + p 4) ?_ ?_ N (by omega) (by omega)
  · rw [ms_cong σ s i (P := fun _ => false) (Q := pq (p 0) p (p 2) (p 1)) (fun x _ => (pq_first x).symm)]
    refine Eq.trans h ?_
    rw [ms_cong σ s i (fun x _ => pq_last x)]
    rfl
  · intro n
    show L_X2_findCells_15 N _ s i (n + 1) _ _ = _
    rw [L_X2_findCells_15_s, ms_rI, ms_rI, hb 2 (by decide), hb 4 (by decide), nI_add, ile_t (Nat.le_refl _) (by omega)]
  · intro n L hL1 hL
    show L_X2_findCells_15 N _ s i (n + 1) _ _ = L_X2_findCells_15 N _ s i n _ _
    rw [L_X2_findCells_15_s, ms_rI, ms_rI, ms_rI, hb 1 (by decide), hb 2 (by decide), hb 4 (by decide), nI_add, ile_f hL (by omega), sp_fc33 N s i hb ok _ hL1 hL N hN, nI_1]
/-! a pane in the store -/
def isPn (σ : Sg) (s i : Nat) (p : Nat → Nat) : Prop := (∀ f, f < 7 → rI σ 9 s i f = nI (p f)) ∧ rL σ 9 s i 7 = lN (msk (cvr p) 48) ∧ rL σ 9 s i 8 = lN (msk (fun x => cvr p (48 + x)) 48)
theorem isPn.bx {σ : Sg} {s i : Nat} {p : Nat → Nat} (h : isPn σ s i p) : bxS σ s i p := fun f hf => h.1 f (by omega)
/-- what is the same in two stores, out of a region -/
def Fr (R : Nat → Nat → Nat → Prop) (σ τ : Sg) : Prop := ∀ t i j, ¬ R t i j → ∀ k, rI τ t i j k = rI σ t i j k ∧ rL τ t i j k = rL σ t i j k
theorem Fr.rf {R : Nat → Nat → Nat → Prop} {σ : Sg} : Fr R σ σ := fun _ _ _ _ _ => ⟨rfl, rfl⟩
theorem Fr.tr {R R' : Nat → Nat → Nat → Prop} {σ τ υ : Sg} (h : Fr R σ τ) (h' : Fr R' τ υ) {R2 : Nat → Nat → Nat → Prop} (h1 : ∀ t i j, R t i j → R2 t i j) (h2 : ∀ t i j, R' t i j → R2 t i j) : Fr R2 σ υ :=
  fun t i j hn k => ⟨((h' t i j (fun z => hn (h2 t i j z)) k).1).trans (h t i j (fun z => hn (h1 t i j z)) k).1, ((h' t i j (fun z => hn (h2 t i j z)) k).2).trans (h t i j (fun z => hn (h1 t i j z)) k).2⟩
theorem Fr.mono {R R2 : Nat → Nat → Nat → Prop} {σ τ : Sg} (h : Fr R σ τ) (h1 : ∀ t i j, R t i j → R2 t i j) : Fr R2 σ τ := fun t i j hn k => h t i j (fun z => hn (h1 t i j z)) k
theorem Fr.uI {R : Nat → Nat → Nat → Prop} {σ τ : Sg} (h : Fr R σ τ) {t i j k : Nat} {v : Int32} (hr : R t i j) : Fr R σ (uI τ t i j k v) := fun a b c hn d => by
  obtain ⟨h1, h2⟩ := h a b c hn d
  refine ⟨?_, h2⟩
  rw [rI_uI, if_neg (fun e => hn (by rw [e.1, e.2.1, e.2.2.1]; exact hr))]
  exact h1
theorem Fr.uL {R : Nat → Nat → Nat → Prop} {σ τ : Sg} (h : Fr R σ τ) {t i j k : Nat} {v : Int64} (hr : R t i j) : Fr R σ (uL τ t i j k v) := fun a b c hn d => by
  obtain ⟨h1, h2⟩ := h a b c hn d
  refine ⟨h1, ?_⟩
  rw [rL_uL, if_neg (fun e => hn (by rw [e.1, e.2.1, e.2.2.1]; exact hr))]
  exact h2
theorem Fr.uA {R : Nat → Nat → Nat → Prop} {σ τ : Sg} (h : Fr R σ τ) {t i j : Nat} {f : Nat → Int32} (hr : R t i j) : Fr R σ (uA τ t i j f) := fun a b c hn d => by
  obtain ⟨h1, h2⟩ := h a b c hn d
  refine ⟨?_, h2⟩
  rw [rI_uA, if_neg (fun e => hn (by rw [e.1, e.2.1, e.2.2]; exact hr))]
  exact h1
theorem Fr.ms {R : Nat → Nat → Nat → Prop} {σ τ : Sg} (h : Fr R σ τ) {s i : Nat} {P : Nat → Bool} (hr : R 9 s i) : Fr R σ (ms τ s i P) := (h.uL hr).uL hr
theorem isPn.fr {R : Nat → Nat → Nat → Prop} {σ τ : Sg} (h : Fr R σ τ) {s i : Nat} {p : Nat → Nat} (hp : isPn σ s i p) (hn : ¬ R 9 s i) : isPn τ s i p :=
  ⟨fun f hf => ((h 9 s i hn f).1).trans (hp.1 f hf), ((h 9 s i hn 7).2).trans hp.2.1, ((h 9 s i hn 8).2).trans hp.2.2⟩
theorem cvr_cong {p q : Nat → Nat} (h : ∀ f, f < 5 → p f = q f) (x : Nat) : cvr p x = cvr q x := by
  unfold cvr cvk ibx rch
  rw [h 0 (by decide), h 1 (by decide), h 2 (by decide), h 3 (by decide), h 4 (by decide)]
theorem isPn_ms {σ : Sg} {s i : Nat} {p : Nat → Nat} (h : ∀ f, f < 7 → rI σ 9 s i f = nI (p f)) : isPn (ms σ s i (cvr p)) s i p := ⟨h, ms_7 σ s i _, ms_8 σ s i _⟩
def at9 (s i : Nat) : Nat → Nat → Nat → Prop := fun t a b => t = 9 ∧ a = s ∧ b = i
theorem sp_lieAt (N s i : Nat) {σ : Sg} {p : Nat → Nat} (hp : isPn σ s i p) {c l : Nat} (ok : okB (up (up p 1 c) 2 l)) (hN : 12 < N) :
    ∃ τ, f_X2_lieAt N s i (nI c) (nI l) σ = some τ ∧ isPn τ s i (up (up p 1 c) 2 l) ∧ Fr (at9 s i) σ τ := by
  have hf : ∀ f, f < 7 → rI (uI (uI σ 9 s i 1 (nI c)) 9 s i 2 (nI l)) 9 s i f = nI (up (up p 1 c) 2 l f) := by
    intro f hf
    rw [rI_uI, rI_uI, hp.1 f hf]
    unfold up
    by_cases h2 : f = 2
    · simp [h2]
    · by_cases h1 : f = 1
      · simp [h1]
      · simp [h1, h2]
  refine ⟨ms (uI (uI σ 9 s i 1 (nI c)) 9 s i 2 (nI l)) s i (cvr (up (up p 1 c) 2 l)), ?_, isPn_ms hf, ((Fr.rf.uI ⟨rfl, rfl, rfl⟩).uI ⟨rfl, rfl, rfl⟩).ms ⟨rfl, rfl, rfl⟩⟩
  unfold f_X2_lieAt
  rw [sp_findCells N s i (fun f h => hf f (by omega)) ok hN]
  rfl
theorem sp_turnInto (N s i : Nat) {σ : Sg} {p : Nat → Nat} (hp : isPn σ s i p) {k : Nat} (ok : okB (up p 0 k)) (hN : 12 < N) :
    ∃ τ, f_X2_turnInto N s i (nI k) σ = some τ ∧ isPn τ s i (up p 0 k) ∧ Fr (at9 s i) σ τ := by
  have hf : ∀ f, f < 7 → rI (uI σ 9 s i 0 (nI k)) 9 s i f = nI (up p 0 k f) := by
    intro f hf
    rw [rI_uI, hp.1 f hf]
    unfold up
    by_cases h2 : f = 0
    · simp [h2]
    · simp [h2]
  refine ⟨ms (uI σ 9 s i 0 (nI k)) s i (cvr (up p 0 k)), ?_, isPn_ms hf, (Fr.rf.uI ⟨rfl, rfl, rfl⟩).ms ⟨rfl, rfl, rfl⟩⟩
  unfold f_X2_turnInto
  rw [sp_findCells N s i (fun f h => hf f (by omega)) ok hN]
  rfl
def rk (p : Nat → Nat) : Nat := if p 0 = 3 then 7 + p 5 else p 5
theorem sp_rank (N s i : Nat) {σ : Sg} {p : Nat → Nat} (hp : isPn σ s i p) (ok : okB p) : f_X2_rank N s i σ = some (nI (rk p), σ) := by
  have h0 := ok.1
  unfold f_X2_rank rk
  rw [hp.1 0 (by decide), hp.1 5 (by decide), n3, n7, nI_add]
  by_cases h : p 0 = 3
  · rw [ieq_t h, if_pos h]
  · rw [ieq_f h (by omega) (by decide), if_neg h]
theorem sp_fitsAt (N s i : Nat) {σ : Sg} {p : Nat → Nat} (hp : isPn σ s i p) (ok : okB p) {x y : Int32} (hx : -100 ≤ x.toInt ∧ x.toInt ≤ 100) (hy : -100 ≤ y.toInt ∧ y.toInt ≤ 100) :
    f_X2_fitsAt N s i x y σ = some (nI (b2n (decide ((0 ≤ x.toInt ∧ x.toInt + p 3 ≤ 12) ∧ (0 ≤ y.toInt ∧ y.toInt + p 4 ≤ 8)))), σ) := by
  obtain ⟨ok0, ok1, ok2, ok3, ok4⟩ := ok
  have t3 : (nI (p 3)).toInt = p 3 := nI_toInt (by omega)
  have t4 : (nI (p 4)).toInt = p 4 := nI_toInt (by omega)
  have e1 : (x < 0) ↔ x.toInt < 0 := fa_lt x 0
  have e2 : (y < 0) ↔ y.toInt < 0 := fa_lt y 0
  have e3 : ((12 : Int32) < x + nI (p 3)) ↔ 12 < x.toInt + p 3 := by
    rw [fa_lt, fb_addI (by rw [t3]; omega) (by rw [t3]; omega), t3]; exact Iff.rfl
  have e4 : ((8 : Int32) < y + nI (p 4)) ↔ 8 < y.toInt + p 4 := by
    rw [fa_lt, fb_addI (by rw [t4]; omega) (by rw [t4]; omega), t4]; exact Iff.rfl
  unfold f_X2_fitsAt b2n
  rw [hp.1 3 (by decide), hp.1 4 (by decide)]
  simp only [e1, e2, e3, e4]
  by_cases a1 : x.toInt < 0
  · rw [if_pos a1, decide_eq_false (by omega)]; rfl
  · by_cases a2 : 12 < x.toInt + p 3
    · rw [if_neg a1, if_pos a2, decide_eq_false (by omega)]; rfl
    · by_cases a3 : y.toInt < 0
      · rw [if_neg a1, if_neg a2, if_pos a3, decide_eq_false (by omega)]; rfl
      · by_cases a4 : 8 < y.toInt + p 4
        · rw [if_neg a1, if_neg a2, if_neg a3, if_pos a4, decide_eq_false (by omega)]; rfl
        · rw [if_neg a1, if_neg a2, if_neg a3, if_neg a4, decide_eq_true (by omega)]; rfl
theorem bit01 (b : Bool) : (lg_cmp (lN (if b then 1 else 0)) (0 : Int64) = 0) ↔ b = false := by
  rw [lg_cmp_eq]
  cases b <;> decide
theorem sp_hasCell (N s i : Nat) {σ : Sg} {p : Nat → Nat} (hp : isPn σ s i p) {x : Nat} (hx : x < 96) : f_X2_hasCell N s i (nI x) σ = some (nI (b2n (cvr p x)), σ) := by
  unfold f_X2_hasCell
  by_cases h : 48 ≤ x
  · rw [n48, ile_t h (by omega), pk_sub h, hp.2.2, L_bitU _ (by omega), show 48 + (x - 48) = x by omega]
    simp only [bit01]
    cases cvr p x <;> rfl
  · rw [n48, ile_f (by omega) (by omega), hp.2.1, L_bitU _ (by omega)]
    simp only [bit01]
    cases cvr p x <;> rfl
theorem ct96 (P : Nat → Bool) : nI (fb_ct P 48) + nI (fb_ct (fun x => P (48 + x)) 48) = nI (fb_ct P 96) := by
  rw [nI_add, ← fb_ct_split P 48 48]
theorem sp_covered (N s i : Nat) {σ : Sg} {p : Nat → Nat} (hp : isPn σ s i p) : f_X2_covered N s i σ = some (nI (fb_ct (cvr p) 96), σ) := by
  unfold f_X2_covered
  simp only [hp.2.1, hp.2.2, bcL_msk, Option.bind_some, ct96]
theorem sp_shared (N s i s' j : Nat) {σ : Sg} {p q : Nat → Nat} (hp : isPn σ s i p) (hq : isPn σ s' j q) : f_X2_cellsShared N s i s' j σ = some (nI (fb_ct (fun x => cvr p x && cvr q x) 96), σ) := by
  unfold f_X2_cellsShared
  simp only [hp.2.1, hq.2.1, hp.2.2, hq.2.2, L_and, bcL_msk, Option.bind_some]
  rw [← ct96]
theorem fb_ct_one (P : Nat → Bool) {x n : Nat} (hx : x < n) (h : P x = false) (b : Bool) : fb_ct (fun y => P y || (decide (y = x) && b)) n = fb_ct P n + b2n b := by
  have e : fb_ct (fun y => P y || (decide (y = x) && b)) n = fb_ct (fun y => if y = x then b else P y) n := fb_ct_cong (fun y _ => by
    by_cases hy : y = x
    · subst hy; simp [h]
    · simp [hy])
  have h2 := fb_ct_upd P b hx
  rw [h] at h2
  rw [e]
  unfold b2n
  simpa using h2
theorem sp_ca26 (N s i : Nat) {σ : Sg} {p : Nat → Nat} (hb : bxS σ s i p) (ok : okB p) {k : Nat} (hk : k < 6) (K : Int32 → Int32 → Sg → Option (Int32 × Sg)) {L : Nat} (h3 : p 2 ≤ L) (h4 : L < p 2 + p 4) (n : Nat) (hn : 12 < n) :
    L_X2_coveredAs_26 N K s i (nI k) (nI L) n (nI (fb_ct (pq k p L (p 1)) 96)) (nI (p 1)) σ = K (nI (fb_ct (pq k p (L + 1) (p 1)) 96)) (nI (p 1 + p 3)) σ := by
  have ok' := ok
  obtain ⟨ok0, ok1, ok2, ok3, ok4⟩ := ok'
  have h := up_eq (fun n v a => L_X2_coveredAs_26 N K s i (nI k) (nI L) n a v σ) (fun v a => K a v σ) (fun C => nI (fb_ct (pq k p L C) 96)) (p 1) (p 1 + p 3) ?_ ?_ n (by omega) (by omega)
  · rw [h, fb_ct_cong (fun x _ => pq_line L x)]
  · intro n
    show L_X2_coveredAs_26 N K s i (nI k) (nI L) (n + 1) _ _ _ = _
    rw [L_X2_coveredAs_26_s, hb 1 (by decide), hb 3 (by decide), nI_add, ile_t (Nat.le_refl _) (by omega)]
  · intro n C hC1 hC
    show L_X2_coveredAs_26 N K s i (nI k) (nI L) (n + 1) _ _ _ = L_X2_coveredAs_26 N K s i (nI k) (nI L) n _ _ _
    rw [L_X2_coveredAs_26_s, hb 1 (by decide), hb 3 (by decide), nI_add, ile_f hC (by omega), sp_reaches N s i hb ok hk (by omega) (by omega)]
    have hs : fb_ct (pq k p L (C + 1)) 96 = fb_ct (pq k p L C) 96 + b2n (rch k p C L) := by
      rw [fb_ct_cong (fun x _ => pq_step (k := k) ok hC1 hC h3 h4 x)]
      refine fb_ct_one _ (by omega) ?_ _
      unfold pq
      rw [decide_eq_false (by omega), Bool.and_false]
    show (if nI (b2n (rch k p C L)) = 0 then _ else _) = _
    rw [hs]
    cases hr : rch k p C L with
    | false => rw [show b2n false = 0 from rfl, iz_t rfl, nI_1, n0, nI_add]
    | true => rw [show b2n true = 1 from rfl, iz_f (by decide) (by decide), nI_1, nI_1]
theorem sp_coveredAs (N s i : Nat) {σ : Sg} {p : Nat → Nat} (hb : bxS σ s i p) (ok : okB p) {k : Nat} (hk : k < 6) (hN : 12 < N) : f_X2_coveredAs N s i (nI k) σ = some (nI (fb_ct (cvk k p) 96), σ) := by
  have ok' := ok
  obtain ⟨ok0, ok1, ok2, ok3, ok4⟩ := ok'
  unfold f_X2_coveredAs
  rw [hb 2 (by decide)]
  have h := up_eq (fun n v a => L_X2_coveredAs_7 N (fun v2_3 _ σ_3 => some (v2_3, σ_3)) s i (nI k) n a v σ) (fun v a => some (a, σ)) (fun L => nI (fb_ct (pq k p L (p 1)) 96)) (p 2) (p 2 + p 4) ?_ ?_ N (by omega) (by omega)
  · have e0 : fb_ct (pq k p (p 2) (p 1)) 96 = 0 := fb_ct_zero.mpr (fun x _ => pq_first x)
    have e1 : fb_ct (pq k p (p 2 + p 4) (p 1)) 96 = fb_ct (cvk k p) 96 := fb_ct_cong (fun x _ => pq_last x)
    simp only [e0, e1] at h
    exact h
  · intro n
    show L_X2_coveredAs_7 N _ s i (nI k) (n + 1) _ _ _ = _
    rw [L_X2_coveredAs_7_s, hb 2 (by decide), hb 4 (by decide), nI_add, ile_t (Nat.le_refl _) (by omega)]
  · intro n L hL1 hL
    show L_X2_coveredAs_7 N _ s i (nI k) (n + 1) _ _ _ = L_X2_coveredAs_7 N _ s i (nI k) n _ _ _
    rw [L_X2_coveredAs_7_s, hb 1 (by decide), hb 2 (by decide), hb 4 (by decide), nI_add, ile_f hL (by omega), sp_ca26 N s i hb ok hk _ hL1 hL N hN, nI_1]
