/-! deeds of the class -/
theorem sg_same (σ : Sg) : σ = σ := rfl
section Deeds
variable {N n : Nat} {σ : Sg} {c : Scr}
theorem sp_room {q nd m : Nat} (h : rI σ 10 q 0 4 = nI nd) (hd : nd ≤ 40) (hm : m ≤ 100) : f_X1_hasRoomFor N q (nI m) σ = some (nI (b2n (decide (nd + m ≤ 40))), σ) := by
  unfold f_X1_hasRoomFor
  rw [h, nI_add, n40]
  by_cases a : nd + m ≤ 40
  · rw [ilt_f a (by omega), decide_eq_true a]; rfl
  · rw [ilt_t (by omega) (by omega), decide_eq_false a]; rfl
def noteS (σ : Sg) (q nd : Nat) (w a b d : Int32) : Sg := uI (uI (uI (uI (uI σ 11 q 0 nd w) 11 q 1 nd a) 11 q 2 nd b) 11 q 3 nd d) 10 q 0 4 (nI (nd + 1))
theorem sp_note {q nd : Nat} {w a b d : Int32} (h : rI σ 10 q 0 4 = nI nd) (hd : nd < 40) : f_X1_note N q w a b d σ = some (noteS σ q nd w a b d) := by
  unfold f_X1_note noteS
  rw [n1, sp_room h (by omega) (by decide), Option.bind_some, decide_eq_true (show nd + 1 ≤ 40 by omega), b2n_z, if_pos rfl]
  simp (disch := omega) only [rI_uI, h, gi, nI_clamp, nI_1, nI_add, show ¬ ((10 : Nat) = 11) by decide, false_and, if_false]
def rgN (q nd : Nat) : Nat → Nat → Nat → Nat → Prop := fun t i j k => i = q ∧ ((t = 11 ∧ j < 4 ∧ k = nd) ∨ (t = 10 ∧ j = 0 ∧ k = 4))
theorem noteS_fr {q nd : Nat} {w a b d : Int32} : Fq (rgN q nd) σ (noteS σ q nd w a b d) :=
  ((((Fq.rf.uI ⟨rfl, Or.inl ⟨rfl, by decide, rfl⟩⟩).uI ⟨rfl, Or.inl ⟨rfl, by decide, rfl⟩⟩).uI ⟨rfl, Or.inl ⟨rfl, by decide, rfl⟩⟩).uI ⟨rfl, Or.inl ⟨rfl, by decide, rfl⟩⟩).uI ⟨rfl, Or.inr ⟨rfl, rfl, rfl⟩⟩
theorem noteS_at {q nd : Nat} {w a b d : Int32} : rI (noteS σ q nd w a b d) 11 q 0 nd = w ∧ rI (noteS σ q nd w a b d) 11 q 1 nd = a ∧ rI (noteS σ q nd w a b d) 11 q 2 nd = b ∧ rI (noteS σ q nd w a b d) 11 q 3 nd = d ∧ rI (noteS σ q nd w a b d) 10 q 0 4 = nI (nd + 1) := by
  unfold noteS
  refine ⟨?_, ?_, ?_, ?_, ?_⟩ <;> simp [rI_uI]
def flp (c : Scr) (i : Nat) : Scr := sets c i 6 (1 - c i 6)
/-- what is noted undoes a deed -/
def undo1 (n : Nat) (w0 w1 w2 w3 : Int32) (c' c : Scr) : Prop := ∃ i, i < n ∧ w1 = nI i ∧
  ((w0 = 0 ∧ ∃ to_, to_ < n ∧ w2 = nI to_ ∧ eqS n (plc c' i to_) c) ∨
   (w0 = 1 ∧ nI (c' i 1) - w2 = nI (c i 1) ∧ nI (c' i 2) - w3 = nI (c i 2) ∧ eqS n (fun j => if j = i then up (up (c' i) 1 (c i 1)) 2 (c i 2) else c' j) c) ∨
   (w0 = 2 ∧ eqS n (flp c' i) c) ∨ (w0 = 3 ∧ eqS n c' c))
theorem isScr_pane {s i : Nat} {p : Nat → Nat} {τ : Sg} (hS : isScr σ s n c) (hp : isPn τ s i p) (hf : Fr (at9 s i) σ τ) : isScr τ s n (fun j => if j = i then p else c j) := by
  refine ⟨((hf 7 s 0 (fun z => absurd z.1 (by decide)) 1).1).trans hS.1, fun j hj => ?_⟩
  dsimp only
  by_cases e : j = i
  · rw [if_pos e, e]; exact hp
  · rw [if_neg e]
    exact (hS.2 j hj).fr hf (fun z => e z.2.2)
theorem isScr_open {s i v : Nat} (hS : isScr σ s n c) : isScr (uI σ 9 s i 6 (nI v)) s n (sets c i 6 v) := by
  refine ⟨hS.1, fun j hj => ⟨fun f hf => ?_, ?_, ?_⟩⟩
  · rw [rI_uI]
    unfold sets
    by_cases h : j = i ∧ f = 6
    · rw [if_pos ⟨rfl, rfl, h.1, h.2⟩, if_pos h]
    · rw [if_neg (fun z => h ⟨z.2.2.1, z.2.2.2⟩), if_neg h]
      exact hS.f hj hf
  · rw [rL_uI, (hS.2 j hj).2.1]
    congr 1
    exact msk_cong (fun x _ => cvr_cong (fun f hf => by unfold sets; rw [if_neg (fun z => absurd z.2 (by omega))]) x)
  · rw [rL_uI, (hS.2 j hj).2.2]
    congr 1
    exact msk_cong (fun x _ => cvr_cong (fun f hf => by unfold sets; rw [if_neg (fun z => absurd z.2 (by omega))]) (48 + x))
def rgB (s q : Nat) : Nat → Nat → Nat → Nat → Prop := fun t i j k => (i = q ∧ t = 10 ∧ j = 0 ∧ k = 4) ∨ (i = s ∧ (t = 7 ∨ t = 9))
theorem isScr.frq {R : Nat → Nat → Nat → Nat → Prop} {σ τ : Sg} (h : Fq R σ τ) {s n : Nat} {c : Scr} (hS : isScr σ s n c) (h7 : ∀ j k, ¬ R 7 s j k) (h9 : ∀ j k, ¬ R 9 s j k) : isScr τ s n c :=
  ⟨((h 7 s 0 1 (h7 0 1)).1).trans hS.1, fun i hi => ⟨fun f hf => ((h 9 s i f (h9 i f)).1).trans ((hS.2 i hi).1 f hf), ((h 9 s i 7 (h9 i 7)).2).trans (hS.2 i hi).2.1, ((h 9 s i 8 (h9 i 8)).2).trans (hS.2 i hi).2.2⟩⟩
theorem sp_takeBack {s q nd : Nat} {c' : Scr} (hS : isScr σ s n c') (ok' : okS n c') (ok : okS n c) (hd : nd < 40) (h4 : rI σ 10 q 0 4 = nI (nd + 1)) (hu : undo1 n (rI σ 11 q 0 nd) (rI σ 11 q 1 nd) (rI σ 11 q 2 nd) (rI σ 11 q 3 nd) c' c) (hN : 12 < N) :
    ∃ τ, f_X1_takeBackLast N q s σ = some τ ∧ isScr τ s n c ∧ rI τ 10 q 0 4 = nI nd ∧ Fq (rgB s q) σ τ := by
  have hn := ok.1
  obtain ⟨i, hi, w1, hc⟩ := hu
  have hsz : rI (uI σ 10 q 0 4 (nI nd)) 10 q 0 4 = nI nd := by rw [rI_uI, if_pos ⟨rfl, rfl, rfl, rfl⟩]
  have h11 : ∀ j k, rI (uI σ 10 q 0 4 (nI nd)) 11 q j k = rI σ 11 q j k := fun j k => by rw [rI_uI, if_neg (by simp)]
  have h9 : ∀ j k, rI (uI σ 10 q 0 4 (nI nd)) 9 s j k = rI σ 9 s j k := fun j k => by rw [rI_uI, if_neg (by simp)]
  have f0 : Fq (rgB s q) σ (uI σ 10 q 0 4 (nI nd)) := Fq.rf.uI (Or.inl ⟨rfl, rfl, rfl, rfl⟩)
  have hS0 : isScr (uI σ 10 q 0 4 (nI nd)) s n c' := ⟨by rw [rI_uI, if_neg (by simp)]; exact hS.1, fun j hj => ⟨fun f hf => by rw [h9]; exact hS.f hj hf, (hS.2 j hj).2.1, (hS.2 j hj).2.2⟩⟩
  unfold f_X1_takeBackLast
  have hpos : (0 : Int32) < nI (nd + 1) := nI_lt (a := 0) (by omega) (by omega)
  rw [h4, if_pos hpos, nI_pred, hsz]
  simp only [h11, h9, nI_clamp (show nd < 2 ^ 31 by omega), gi (show nd < 40 by omega) (by decide)]
  rw [w1]
  simp only [nI_clamp (show i < 2 ^ 31 by omega), gi (show i < 7 by omega) (by decide), hS.f hi (show 1 < 7 by decide), hS.f hi (show 2 < 7 by decide), hS.o ok' hi]
  rcases hc with ⟨w0, to_, ht, w2, he⟩ | ⟨w0, w2, w3, he⟩ | ⟨w0, he⟩ | ⟨w0, he⟩
  · obtain ⟨τ, e, h1, h2⟩ := sp_placeAt hS0 ok' hi ht (show 7 < N by omega)
    refine ⟨τ, ?_, h1.eq he, ?_, f0.tr (h2.q (R2 := rgB s q) (fun t a b k z => Or.inr ⟨z.2, z.1⟩)) (fun _ _ _ _ z => z) (fun _ _ _ _ z => z)⟩
    · rw [w0, if_pos (by decide), w2, e]; rfl
    · rw [(h2 10 q 0 (fun z => by rcases z.1 with z | z <;> exact absurd z (by decide)) 4).1]; exact hsz
  · have okc : okB (up (up (c' i) 1 (c i 1)) 2 (c i 2)) := by
      have h0 := he i hi 0 (by decide)
      have h1 := he i hi 1 (by decide)
      have h2 := he i hi 2 (by decide)
      have h3 := he i hi 3 (by decide)
      have h4 := he i hi 4 (by decide)
      have := (ok.2.1 i hi).1
      simp only [if_true] at h0 h1 h2 h3 h4
      unfold okB at this ⊢
      rw [h0, h1, h2, h3, h4]; exact this
    obtain ⟨τ, e, h1, h2⟩ := sp_lieAt N s i (hS0.2 i hi) okc hN
    refine ⟨τ, ?_, (isScr_pane hS0 h1 h2).eq he, ?_, f0.tr (h2.q (R2 := rgB s q) (fun t a b k z => Or.inr ⟨z.2.1, Or.inr z.1⟩)) (fun _ _ _ _ z => z) (fun _ _ _ _ z => z)⟩
    · rw [w0, if_neg (by decide), if_pos (by decide), w2, w3, e]; rfl
    · rw [(h2 10 q 0 (fun z => absurd z.1 (by decide)) 4).1]; exact hsz
  · have ho := (ok'.2.1 i hi).2.2
    have fin : ∀ v, v = 1 - c' i 6 → ∃ τ, some (uI (uI σ 10 q 0 4 (nI nd)) 9 s i 6 (nI v)) = some τ ∧ isScr τ s n c ∧ rI τ 10 q 0 4 = nI nd ∧ Fq (rgB s q) σ τ := by
      intro v hv
      refine ⟨_, rfl, ?_, ?_, f0.uI (Or.inr ⟨rfl, Or.inr rfl⟩)⟩
      · have := isScr_open (i := i) (v := v) hS0
        rw [hv] at this ⊢
        exact this.eq he
      · rw [rI_uI, if_neg (by simp)]; exact hsz
    rw [w0, if_neg (by decide), if_neg (by decide), if_pos (by decide)]
    rcases (by omega : c' i 6 = 0 ∨ c' i 6 = 1) with e | e
    · have eo : opn c' i = false := by unfold opn; rw [e]; rfl
      rw [eo]
      exact fin 1 (by rw [e])
    · have eo : opn c' i = true := by unfold opn; rw [e]; rfl
      rw [eo]
      exact fin 0 (by rw [e])
  · refine ⟨uI σ 10 q 0 4 (nI nd), ?_, hS0.eq he, hsz, f0⟩
    rw [w0, if_neg (by decide), if_neg (by decide), if_neg (by decide)]
def rgD (q : Nat) : Nat → Nat → Nat → Nat → Prop := fun t i _ _ => (t = 10 ∨ t = 11) ∧ i = q
theorem sp_becomeD {q q' nd : Nat} (hq : q' ≠ q) (h4 : rI σ 10 q' 0 4 = nI nd) (hd : nd ≤ 40) (hN : 40 < N) : ∃ τ, f_X1_become N q q' σ = some τ ∧ rI τ 10 q 0 4 = nI nd ∧ (∀ a d, a < 4 → d < nd → rI τ 11 q a d = rI σ 11 q' a d) ∧ Fq (rgD q) σ τ := by
  unfold f_X1_become
  obtain ⟨τ, e, h1, h2, h3⟩ := up_rel (fun m v τ => L_X1_become_10 N (fun _ σ_1 => some σ_1) q q' m v τ) (fun _ τ => some τ) (fun j τ => rI τ 10 q 0 4 = nI nd ∧ (∀ a d, a < 4 → d < j → rI τ 11 q a d = rI σ 11 q' a d) ∧ Fq (rgD q) σ τ) nd
    (fun m τ h => by
      show L_X1_become_10 N _ q q' (m + 1) _ _ = _
      rw [L_X1_become_10_s, h.1, ile_t (Nat.le_refl _) (by omega)])
    (fun m j τ hj h => by
      obtain ⟨h1, h2, h3⟩ := h
      have hx : ∀ a, rI τ 11 q' a j = rI σ 11 q' a j := fun a => (h3 11 q' a j (fun z => hq z.2)).1
      refine ⟨uI (uI (uI (uI τ 11 q 0 j (rI σ 11 q' 0 j)) 11 q 1 j (rI σ 11 q' 1 j)) 11 q 2 j (rI σ 11 q' 2 j)) 11 q 3 j (rI σ 11 q' 3 j), ?_, ?_, fun a d ha hdj => ?_, ((((h3.uI ⟨Or.inr rfl, rfl⟩).uI ⟨Or.inr rfl, rfl⟩).uI ⟨Or.inr rfl, rfl⟩).uI ⟨Or.inr rfl, rfl⟩)⟩
      · show L_X1_become_10 N _ q q' (m + 1) _ _ = L_X1_become_10 N _ q q' m _ _
        rw [L_X1_become_10_s, h1, ile_f hj (by omega)]
        simp (disch := omega) only [gi, nI_clamp, nI_1, rI_uI, hq, hx, false_and, and_false, if_false]
      · simp [rI_uI, h1]
      · by_cases e : d = j
        · subst e
          rcases (by omega : a = 0 ∨ a = 1 ∨ a = 2 ∨ a = 3) with rfl | rfl | rfl | rfl <;> simp [rI_uI]
        · simp [rI_uI, e]
          exact h2 a d ha (by omega))
    nd 0 (uI σ 10 q 0 4 (rI σ 10 q' 0 4)) N (by omega) ⟨by rw [rI_uI, if_pos ⟨rfl, rfl, rfl, rfl⟩]; exact h4, fun a d _ hd => by omega, Fq.rf.uI ⟨Or.inl rfl, rfl⟩⟩ (by omega)
  exact ⟨τ, e, h1, h2, h3⟩
end Deeds
