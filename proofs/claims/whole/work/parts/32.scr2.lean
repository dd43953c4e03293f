/-- a loop by a number that falls -/
theorem lp_gen {S R : Type} (F : Nat → S → Option R) (I : Nat → S → Prop) (Q : Option R → Prop)
    (hs : ∀ n d s, I d s → (∃ s' d', d' < d ∧ F (n + 1) s = F n s' ∧ I d' s') ∨ Q (F (n + 1) s)) : ∀ n d s, I d s → d < n → Q (F n s) := by
  intro n
  induction n with
  | zero => intro d s _ h; exact absurd h (Nat.not_lt_zero d)
  | succ n ih =>
    intro d s hI hn
    rcases hs n d s hI with ⟨s', d', hd, e, hI'⟩ | hQ
    · rw [e]; exact ih d' s' hI' (by omega)
    · exact hQ
/-- who is seen at a cell -/
def whoI (n : Nat) (c : Scr) (x : Nat) : Nat → Int32
  | 0 => -1
  | i + 1 => if vis n c i x then nI i else whoI n c x i
theorem whoI_s (n : Nat) (c : Scr) (x i : Nat) : whoI n c x (i + 1) = if vis n c i x then nI i else whoI n c x i := rfl
section Scr2
variable {N s n : Nat} {σ : Sg} {c : Scr}
theorem vis_iff {i x : Nat} : vis n c i x = true ↔ opn c i = true ∧ cvr (c i) x = true ∧ ∀ j, j < n → opn c j = true → cvr (c j) x = true → rk (c j) ≤ rk (c i) := by
  unfold vis vo
  rw [Bool.and_eq_true, Bool.and_eq_true]
  constructor
  · rintro ⟨h1, h2, h3⟩
    refine ⟨h1, h2, fun j hj ho hc => ?_⟩
    rcases Nat.lt_or_ge (rk (c i)) (rk (c j)) with h | h
    · have : anyb (fun j => (opn c j && decide (rk (c i) < rk (c j))) && cvr (c j) x) n = true := anyb_iff.mpr ⟨j, hj, by simp [ho, hc, h]⟩
      rw [this] at h3
      cases h3
    · exact h
  · rintro ⟨h1, h2, h3⟩
    refine ⟨h1, h2, ?_⟩
    cases ha : anyb (fun j => (opn c j && decide (rk (c i) < rk (c j))) && cvr (c j) x) n with
    | false => rfl
    | true =>
      obtain ⟨j, hj, hb⟩ := anyb_iff.mp ha
      simp only [Bool.and_eq_true, decide_eq_true_eq] at hb
      have := h3 j hj hb.1.1 hb.2
      omega
theorem vis_one {i j x : Nat} (ok : okS n c) (hi : i < n) (hj : j < n) (h1 : vis n c i x = true) (h2 : vis n c j x = true) : i = j := by
  rw [vis_iff] at h1 h2
  have a := h1.2.2 j hj h2.1 h2.2.1
  have b := h2.2.2 i hi h1.1 h1.2.1
  exact rk_inj ok hi hj (by omega)
theorem whoI_some {i x : Nat} (ok : okS n c) (hi : i < n) (h : vis n c i x = true) : whoI n c x n = nI i := by
  have key : ∀ k, k ≤ n → i < k → whoI n c x k = nI i := by
    intro k
    induction k with
    | zero => intro _ h; omega
    | succ k ih =>
      intro hk hik
      rw [whoI_s]
      by_cases hv : vis n c k x = true
      · rw [if_pos hv, vis_one ok hi (by omega) h hv]
      · rw [if_neg hv]
        have : i ≠ k := fun e => hv (by rw [← e]; exact h)
        exact ih (by omega) (by omega)
  exact key n (Nat.le_refl _) hi
theorem whoI_none {x : Nat} (h : ∀ i, i < n → vis n c i x = false) : whoI n c x n = -1 := by
  have key : ∀ k, k ≤ n → whoI n c x k = -1 := by
    intro k
    induction k with
    | zero => intro _; rfl
    | succ k ih =>
      intro hk
      rw [whoI_s, h k (by omega)]
      exact ih (by omega)
  exact key n (Nat.le_refl _)
theorem whoI_cases (ok : okS n c) (x : Nat) : (∃ i, i < n ∧ vis n c i x = true ∧ whoI n c x n = nI i) ∨ ((∀ i, i < n → vis n c i x = false) ∧ whoI n c x n = -1) := by
  cases ha : anyb (fun i => vis n c i x) n with
  | true =>
    obtain ⟨i, hi, h⟩ := anyb_iff.mp ha
    exact Or.inl ⟨i, hi, h, whoI_some ok hi h⟩
  | false =>
    have h : ∀ i, i < n → vis n c i x = false := fun i hi => by
      cases hv : vis n c i x with
      | false => rfl
      | true => rw [anyb_iff.mpr ⟨i, hi, hv⟩] at ha; cases ha
    exact Or.inr ⟨h, whoI_none h⟩
def whoInv (c : Scr) (x : Nat) (j : Nat) (a : Int32 × Int32) : Prop :=
  (a = (-1, -1) ∧ ∀ k, k < j → opn c k = true → cvr (c k) x = true → False) ∨ ∃ i, i < j ∧ a = (nI i, nI (rk (c i))) ∧ opn c i = true ∧ cvr (c i) x = true ∧ ∀ k, k < j → opn c k = true → cvr (c k) x = true → rk (c k) ≤ rk (c i)
theorem ile_m1 {α : Type} {a : Nat} (ha : a < 2147483648) (x y : α) : (if nI a ≤ (-1 : Int32) then x else y) = y := if_neg (fun h => by
  rw [fa_le, nI_toInt ha, show ((-1 : Int32).toInt) = -1 from by decide] at h
  omega)
theorem sp_whoAt {x : Nat} (hS : isScr σ s n c) (ok : okS n c) (hx : x < 96) (hN : 7 < N) : f_X4_whoAt N s (nI x) σ = some (whoI n c x n, σ) := by
  have hn := ok.1
  unfold f_X4_whoAt
  obtain ⟨a, e, hI⟩ := up_rel (fun m v (a : Int32 × Int32) => L_X4_whoAt_7 N (fun v2_4 _ _ σ_4 => some (v2_4, σ_4)) s (nI x) m a.1 a.2 v σ) (fun _ a => some (a.1, σ)) (whoInv c x) n
    (fun m a h => by
      show L_X4_whoAt_7 N _ s (nI x) (m + 1) _ _ _ _ = _
      rw [L_X4_whoAt_7_s, hS.1, ile_t (Nat.le_refl _) (by omega)])
    (fun m j a hj hI => by
      have hrj := rk_lt ok hj
      have hst : L_X4_whoAt_7 N (fun v2_4 _ _ σ_4 => some (v2_4, σ_4)) s (nI x) (m + 1) a.1 a.2 (nI j) σ = (if nI (b2n (opn c j)) = 0 then L_X4_whoAt_7 N (fun v2_4 _ _ σ_4 => some (v2_4, σ_4)) s (nI x) m a.1 a.2 (nI (j + 1)) σ else (if nI (rk (c j)) ≤ a.2 then L_X4_whoAt_7 N (fun v2_4 _ _ σ_4 => some (v2_4, σ_4)) s (nI x) m a.1 a.2 (nI (j + 1)) σ else (if nI (b2n (cvr (c j) x)) = 0 then L_X4_whoAt_7 N (fun v2_4 _ _ σ_4 => some (v2_4, σ_4)) s (nI x) m a.1 a.2 (nI (j + 1)) σ else L_X4_whoAt_7 N (fun v2_4 _ _ σ_4 => some (v2_4, σ_4)) s (nI x) m (nI j) (nI (rk (c j))) (nI (j + 1)) σ))) := by
        rw [L_X4_whoAt_7_s, hS.1, ile_f hj (by omega)]
        simp (disch := omega) only [gi, nI_clamp, hS.o ok hj, nI_1, sp_rank N s j (hS.2 j hj) (ok.2.1 j hj).1, Option.bind_some, sp_hasCell N s j (hS.2 j hj) hx]
      rw [hst]
      cases ho : opn c j with
      | false =>
        refine ⟨a, by rw [show b2n false = 0 from rfl, iz_t rfl], ?_⟩
        rcases hI with ⟨h1, h2⟩ | ⟨i, h1, h2, h3, h4, h5⟩
        · exact Or.inl ⟨h1, fun k hk hok => by
            by_cases hkj : k = j
            · subst hkj; rw [ho] at hok; cases hok
            · exact h2 k (by omega) hok⟩
        · exact Or.inr ⟨i, by omega, h2, h3, h4, fun k hk hok => by
            by_cases hkj : k = j
            · subst hkj; rw [ho] at hok; cases hok
            · exact h5 k (by omega) hok⟩
      | true =>
        rw [show b2n true = 1 from rfl, iz_f (by decide) (by decide)]
        cases hc : cvr (c j) x with
        | false =>
          refine ⟨a, by rw [show b2n false = 0 from rfl, iz_t rfl]; exact ite_self _, ?_⟩
          rcases hI with ⟨h1, h2⟩ | ⟨i, h1, h2, h3, h4, h5⟩
          · exact Or.inl ⟨h1, fun k hk hok hck => by
              by_cases hkj : k = j
              · subst hkj; rw [hc] at hck; cases hck
              · exact h2 k (by omega) hok hck⟩
          · exact Or.inr ⟨i, by omega, h2, h3, h4, fun k hk hok hck => by
              by_cases hkj : k = j
              · subst hkj; rw [hc] at hck; cases hck
              · exact h5 k (by omega) hok hck⟩
        | true =>
          rw [show b2n true = 1 from rfl, iz_f (by decide) (by decide)]
          rcases hI with ⟨h1, h2⟩ | ⟨i, h1, h2, h3, h4, h5⟩
          · subst h1
            refine ⟨(nI j, nI (rk (c j))), by rw [ile_m1 (by omega)], Or.inr ⟨j, by omega, rfl, ho, hc, fun k hk hok hck => ?_⟩⟩
            by_cases hkj : k = j
            · rw [hkj]; exact Nat.le_refl _
            · exact (h2 k (by omega) hok hck).elim
          · subst h2
            have hri := rk_lt ok (show i < n by omega)
            by_cases hr : rk (c j) ≤ rk (c i)
            · refine ⟨(nI i, nI (rk (c i))), by rw [ile_t hr (by omega)], Or.inr ⟨i, by omega, rfl, h3, h4, fun k hk hok hck => ?_⟩⟩
              by_cases hkj : k = j
              · rw [hkj]; exact hr
              · exact h5 k (by omega) hok hck
            · refine ⟨(nI j, nI (rk (c j))), by rw [ile_f (by omega) (by omega)], Or.inr ⟨j, by omega, rfl, ho, hc, fun k hk hok hck => ?_⟩⟩
              by_cases hkj : k = j
              · rw [hkj]; exact Nat.le_refl _
              · have := h5 k (by omega) hok hck
                omega)
    n 0 (-1, -1) N (by omega) (Or.inl ⟨rfl, fun k hk => by omega⟩) (by omega)
  refine Eq.trans e ?_
  show some (a.1, σ) = _
  congr 2
  rcases hI with ⟨h1, h2⟩ | ⟨i, h1, h2, h3, h4, h5⟩
  · rw [h1, whoI_none]
    intro i hi
    cases hv : vis n c i x with
    | false => rfl
    | true =>
      rw [vis_iff] at hv
      exact (h2 i hi hv.1 hv.2.1).elim
  · rw [h2, whoI_some ok h1]
    exact vis_iff.mpr ⟨h3, h4, h5⟩
/-- whether what a row of pairs tells is so -/
def agr (n : Nat) (c : Scr) (cl : Nat → Nat) (tl : Nat → Int32) (m : Nat) : Bool := !anyb (fun j => !decide (whoI n c (cl j) n = tl j)) m
theorem agr_s (n : Nat) (c : Scr) (cl : Nat → Nat) (tl : Nat → Int32) (m : Nat) : agr n c cl tl (m + 1) = (agr n c cl tl m && decide (whoI n c (cl m) n = tl m)) := by
  unfold agr
  rw [anyb_s, Bool.not_or, Bool.not_not]
theorem agr_mono {n : Nat} {c : Scr} {cl : Nat → Nat} {tl : Nat → Int32} {j m : Nat} (h : j < m) (hf : ¬ whoI n c (cl j) n = tl j) : agr n c cl tl m = false := by
  unfold agr
  rw [anyb_iff.mpr ⟨j, h, by simp [hf]⟩]
  rfl
/-- a row of pairs in the store -/
def prs (σ : Sg) (r m : Nat) (cl : Nat → Nat) (tl : Nat → Int32) : Prop := m ≤ 20 ∧ rI σ 2 r 0 1 = nI (2 * m) ∧ ∀ j, j < m → cl j < 96 ∧ rI σ 3 r 0 (2 * j) = nI (cl j) ∧ rI σ 3 r 0 (2 * j + 1) = tl j
theorem sp_agrees {r m : Nat} {cl : Nat → Nat} {tl : Nat → Int32} (hS : isScr σ s n c) (ok : okS n c) (hr : prs σ r m cl tl) (hN : 40 < N) : f_X4_agreesWith N s r σ = some (nI (b2n (agr n c cl tl m)), σ) := by
  obtain ⟨hm, hsz, hp⟩ := hr
  unfold f_X4_agreesWith
  refine lp_gen (fun q v => L_X4_agreesWith_2 N (fun _ σ_2 => some ((1 : Int32), σ_2)) s r q v σ) (fun d v => ∃ j, j + d = m ∧ v = nI (2 * j) ∧ agr n c cl tl j = true) (fun o => o = some (nI (b2n (agr n c cl tl m)), σ)) ?_ N m 0 ⟨0, by omega, rfl, rfl⟩ (by omega)
  rintro q d v ⟨j, hd, rfl, ha⟩
  show (∃ s' d', d' < d ∧ L_X4_agreesWith_2 N _ s r (q + 1) _ σ = L_X4_agreesWith_2 N _ s r q s' σ ∧ _) ∨ L_X4_agreesWith_2 N _ s r (q + 1) _ σ = _
  rw [L_X4_agreesWith_2_s, hsz, nI_1]
  by_cases hj : j < m
  · obtain ⟨h1, h2, h3⟩ := hp j hj
    rw [ile_f (by omega) (by omega)]
    simp (disch := omega) only [gi, nI_clamp, h2, sp_whoAt hS ok h1 (show 7 < N by omega), Option.bind_some, h3, n2, nI_add]
    by_cases hw : whoI n c (cl j) n = tl j
    · left
      refine ⟨nI (2 * j + 2), d - 1, by omega, ?_, j + 1, by omega, by rw [show 2 * (j + 1) = 2 * j + 2 by omega], ?_⟩
      · rw [if_pos hw]
      · rw [agr_s, ha, hw]; simp
    · right
      rw [if_neg hw, agr_mono hj hw]
      rfl
  · right
    have e : j = m := by omega
    subst e
    rw [ile_t (by omega) (by omega), ha]
    rfl
theorem sp_becomeP (N s i s' j : Nat) {σ : Sg} {q : Nat → Nat} (hs : s' ≠ s) (hq : isPn σ s' j q) (hb : q 6 < 2) : ∃ τ, f_X2_become N s i s' j σ = some τ ∧ isPn τ s i q ∧ Fr (at9 s i) σ τ := by
  refine ⟨_, rfl, ⟨?_, ?_, ?_⟩, ?_⟩
  · have h6 := nb_b _ hb
    intro f hf
    rcases (by omega : f = 0 ∨ f = 1 ∨ f = 2 ∨ f = 3 ∨ f = 4 ∨ f = 5 ∨ f = 6) with rfl | rfl | rfl | rfl | rfl | rfl | rfl <;>
      simp [rI_uI, rI_uL, hs, hq.1, h6]
  · simp [rL_uI, rL_uL, hs, hq.2.1]
  · simp [rL_uI, rL_uL, hs, hq.2.2]
  · exact (((((((((Fr.rf.uI ⟨rfl, rfl, rfl⟩).uI ⟨rfl, rfl, rfl⟩).uI ⟨rfl, rfl, rfl⟩).uI ⟨rfl, rfl, rfl⟩).uI ⟨rfl, rfl, rfl⟩).uI ⟨rfl, rfl, rfl⟩).uI ⟨rfl, rfl, rfl⟩).uL ⟨rfl, rfl, rfl⟩).uL ⟨rfl, rfl, rfl⟩)
def scrR (s : Nat) : Nat → Nat → Nat → Prop := fun t a _ => (t = 7 ∨ t = 9) ∧ a = s
theorem isScr.fr {R : Nat → Nat → Nat → Prop} {σ τ : Sg} (h : Fr R σ τ) {s n : Nat} {c : Scr} (hS : isScr σ s n c) (h7 : ¬ R 7 s 0) (h9 : ∀ i, i < n → ¬ R 9 s i) : isScr τ s n c :=
  ⟨((h 7 s 0 h7 1).1).trans hS.1, fun i hi => (hS.2 i hi).fr h (h9 i hi)⟩
theorem sp_become {s' : Nat} (hs : s' ≠ s) (hS : isScr σ s' n c) (ok : okS n c) (hN : 7 < N) : ∃ τ, f_X4_become N s s' σ = some τ ∧ isScr τ s n c ∧ Fr (scrR s) σ τ := by
  have hn := ok.1
  unfold f_X4_become
  obtain ⟨τ, e, h1, h2, h3⟩ := up_rel (fun m v τ => L_X4_become_10 N (fun _ σ_2 => some σ_2) s s' m v τ) (fun _ τ => some τ) (fun j τ => rI τ 7 s 0 1 = nI n ∧ (∀ i, i < j → isPn τ s i (c i)) ∧ Fr (scrR s) σ τ) n
    (fun m τ h => by
      show L_X4_become_10 N _ s s' (m + 1) _ _ = _
      rw [L_X4_become_10_s, h.1, ile_t (Nat.le_refl _) (by omega)])
    (fun m j τ hj h => by
      have hj7 : j < 7 := by omega
      have hSt : isScr τ s' n c := hS.fr h.2.2 (fun z => hs z.2) (fun _ _ z => hs z.2)
      obtain ⟨υ, e1, e2, e3⟩ := sp_becomeP N s j s' j hs (hSt.2 j hj) (ok.2.1 j hj).2.2
      refine ⟨υ, ?_, ?_, ?_, h.2.2.tr e3 (fun _ _ _ z => z) (fun t a b z => ⟨Or.inr z.1, z.2.1⟩)⟩
      · show L_X4_become_10 N _ s s' (m + 1) _ _ = L_X4_become_10 N _ s s' m _ _
        rw [L_X4_become_10_s, h.1, ile_f hj (by omega)]
        simp (disch := omega) only [gi, nI_clamp, e1, Option.bind_some, nI_1]
      · rw [(e3 7 s 0 (fun z => absurd z.1 (by decide)) 1).1]; exact h.1
      · intro i hi
        by_cases hij : i = j
        · subst hij; exact e2
        · exact (h.2.1 i (by omega)).fr e3 (fun z => hij z.2.2))
    n 0 (uI σ 7 s 0 1 (rI σ 7 s' 0 1)) N (by omega) ⟨by rw [rI_uI, if_pos ⟨rfl, rfl, rfl, rfl⟩]; exact hS.1, fun i hi => by omega, Fr.rf.uI ⟨Or.inl rfl, rfl⟩⟩ (by omega)
  exact ⟨τ, e, ⟨h1, h2⟩, h3⟩
/-! the order: a pane comes to a place -/
def eqS (n : Nat) (a b : Scr) : Prop := ∀ i, i < n → ∀ f, f < 7 → a i f = b i f
theorem isScr.eq {a b : Scr} (h : isScr σ s n a) (e : eqS n a b) : isScr σ s n b :=
  ⟨h.1, fun i hi => ⟨fun f hf => by rw [← e i hi f hf]; exact (h.2 i hi).1 f hf,
    by rw [(h.2 i hi).2.1, msk_cong (fun x _ => cvr_cong (fun f hf => e i hi f (by omega)) x)],
    by rw [(h.2 i hi).2.2, msk_cong (fun x _ => cvr_cong (fun f hf => e i hi f (by omega)) (48 + x))]⟩⟩
def sets (c : Scr) (j f v : Nat) : Scr := fun k g => if k = j ∧ g = f then v else c k g
theorem isScr_place {j v : Nat} (hS : isScr σ s n c) : isScr (uI σ 9 s j 5 (nI v)) s n (sets c j 5 v) := by
  refine ⟨hS.1, fun i hi => ⟨fun f hf => ?_, ?_, ?_⟩⟩
  · rw [rI_uI]
    unfold sets
    by_cases h : i = j ∧ f = 5
    · rw [if_pos ⟨rfl, rfl, h.1, h.2⟩, if_pos h]
    · rw [if_neg (fun z => h ⟨z.2.2.1, z.2.2.2⟩), if_neg h]
      exact hS.f hi hf
  · rw [rL_uI, (hS.2 i hi).2.1]
    congr 1
    exact msk_cong (fun x _ => cvr_cong (fun f hf => by unfold sets; rw [if_neg (fun z => absurd z.2 (by omega))]) x)
  · rw [rL_uI, (hS.2 i hi).2.2]
    congr 1
    exact msk_cong (fun x _ => cvr_cong (fun f hf => by unfold sets; rw [if_neg (fun z => absurd z.2 (by omega))]) (48 + x))
/-- where one at place q is, once another one has gone from a place to one -/
def shp (from_ to_ q : Nat) : Nat := if from_ < q ∧ q ≤ to_ then q - 1 else if to_ ≤ q ∧ q < from_ then q + 1 else q
def plc (c : Scr) (i to_ : Nat) : Scr := fun j f => if f = 5 then (if j = i then to_ else shp (c i 5) to_ (c j 5)) else c j f
theorem sp_placeAt {i to_ : Nat} (hS : isScr σ s n c) (ok : okS n c) (hi : i < n) (ht : to_ < n) (hN : 7 < N) : ∃ τ, f_X4_placeAt N s (nI i) (nI to_) σ = some τ ∧ isScr τ s n (plc c i to_) ∧ Fr (scrR s) σ τ := by
  have hn := ok.1
  have h9 : ∀ a, scrR s 9 s a := fun _ => ⟨Or.inr rfl, rfl⟩
  unfold f_X4_placeAt
  simp (disch := omega) only [gi, nI_clamp, hS.f hi]
  have hfi := (ok.2.1 i hi).2.1
  obtain ⟨τ, e, h1, h2⟩ := up_rel (fun m v τ => L_X4_placeAt_13 N (fun _ σ_1 => some (uI σ_1 9 s i 5 (nI to_))) s (nI i) (nI to_) (nI (c i 5)) m v τ) (fun _ τ => some (uI τ 9 s i 5 (nI to_))) (fun j τ => isScr τ s n (fun k f => if f = 5 ∧ k < j then shp (c i 5) to_ (c k 5) else c k f) ∧ Fr (scrR s) σ τ) n
    (fun m τ h => by
      show L_X4_placeAt_13 N _ s (nI i) (nI to_) (nI (c i 5)) (m + 1) _ _ = _
      rw [L_X4_placeAt_13_s, h.1.1, ile_t (Nat.le_refl _) (by omega)])
    (fun m j τ hj h => by
      have hfj := (ok.2.1 j hj).2.1
      have hf5 : rI τ 9 s j 5 = nI (c j 5) := by
        rw [h.1.f hj (by decide)]; simp
      have key : ∀ v, v = shp (c i 5) to_ (c j 5) → isScr (uI τ 9 s j 5 (nI v)) s n (fun k f => if f = 5 ∧ k < j + 1 then shp (c i 5) to_ (c k 5) else c k f) ∧ Fr (scrR s) σ (uI τ 9 s j 5 (nI v)) := by
        intro v hv
        refine ⟨(isScr_place h.1).eq (fun k hk f hf => ?_), h.2.uI (h9 j)⟩
        unfold sets
        dsimp only
        by_cases h1 : k = j ∧ f = 5
        · rw [if_pos h1, if_pos ⟨h1.2, by omega⟩, h1.1, hv]
        · rw [if_neg h1]
          by_cases h2 : f = 5 ∧ k < j
          · rw [if_pos h2, if_pos ⟨h2.1, by omega⟩]
          · rw [if_neg h2, if_neg (fun z => h2 ⟨z.1, by omega⟩)]
      have key0 : shp (c i 5) to_ (c j 5) = c j 5 → isScr τ s n (fun k f => if f = 5 ∧ k < j + 1 then shp (c i 5) to_ (c k 5) else c k f) ∧ Fr (scrR s) σ τ := by
        intro hv
        refine ⟨h.1.eq (fun k hk f hf => ?_), h.2⟩
        dsimp only
        by_cases h2 : f = 5 ∧ k < j
        · rw [if_pos h2, if_pos ⟨h2.1, by omega⟩]
        · rw [if_neg h2]
          by_cases h3 : f = 5 ∧ k < j + 1
          · have : k = j := by omega
            subst this
            rw [if_pos h3, hv, h3.1]
          · rw [if_neg h3]
      show ∃ s', L_X4_placeAt_13 N _ s (nI i) (nI to_) (nI (c i 5)) (m + 1) _ _ = L_X4_placeAt_13 N _ s (nI i) (nI to_) (nI (c i 5)) m _ _ ∧ _
      rw [L_X4_placeAt_13_s, h.1.1, ile_f hj (by omega)]
      simp (disch := omega) only [gi, nI_clamp, hf5, nI_1]
      by_cases a1 : c i 5 < c j 5
      · rw [ile_f a1 (by omega)]
        by_cases a2 : c j 5 ≤ to_
        · rw [ilt_f a2 (by omega)]
          refine ⟨_, ?_, key (c j 5 - 1) (by unfold shp; rw [if_pos ⟨a1, a2⟩])⟩
          rw [n1, pk_sub (by omega)]
        · rw [ilt_t (by omega) (by omega), ilt_f (by omega) (by omega), ile_t (by omega) (by omega)]
          exact ⟨_, rfl, key0 (by unfold shp; rw [if_neg (by omega), if_neg (by omega)])⟩
      · rw [ile_t (by omega) (by omega)]
        by_cases a2 : c j 5 < to_
        · rw [ilt_t a2 (by omega)]
          exact ⟨_, rfl, key0 (by unfold shp; rw [if_neg (by omega), if_neg (by omega)])⟩
        · rw [ilt_f (by omega) (by omega)]
          by_cases a3 : c i 5 ≤ c j 5
          · rw [ile_t a3 (by omega)]
            exact ⟨_, rfl, key0 (by unfold shp; rw [if_neg (by omega), if_neg (by omega)])⟩
          · rw [ile_f (by omega) (by omega)]
            refine ⟨_, ?_, key (c j 5 + 1) (by unfold shp; rw [if_neg (by omega), if_pos ⟨by omega, by omega⟩])⟩
            rfl)
    n 0 σ N (by omega) ⟨hS.eq (fun k hk f hf => by rw [if_neg (by omega)]), Fr.rf⟩ (by omega)
  refine ⟨uI τ 9 s i 5 (nI to_), e, (isScr_place h1).eq (fun k hk f hf => ?_), h2.uI (h9 i)⟩
  unfold sets plc
  dsimp only
  by_cases h5 : f = 5
  · by_cases hki : k = i
    · rw [if_pos ⟨hki, h5⟩, if_pos h5, if_pos hki]
    · rw [if_neg (fun z => hki z.1), if_pos ⟨h5, hk⟩, if_pos h5, if_neg hki]
  · rw [if_neg (fun z => h5 z.2), if_neg (fun z => h5 z.1), if_neg h5]
end Scr2
