section Dp
variable {N n : Nat} {σ : Sg} {c : Scr}
def clr (S v : Nat) : Nat := if S.testBit v then S - 2 ^ v else S
theorem clr_I : ∀ S, S < 128 → ∀ v, v < 7 → nI S &&& (((1 : Int32) <<< (nI v &&& 31)) ^^^ (-1 : Int32)) = nI (clr S v) := by decide +kernel
theorem clr_b : ∀ S, S < 128 → ∀ v, v < 7 → ∀ j, j < 7 → (clr S v).testBit j = (S.testBit j && !decide (j = v)) := by decide +kernel
theorem clr_lt : ∀ S, S < 128 → ∀ v, v < 7 → S.testBit v = true → clr S v < S := by decide +kernel
def els (n S : Nat) : List Nat := (List.range n).filter (fun j => S.testBit j)
theorem els_nd (n S : Nat) : (els n S).Nodup := List.Pairwise.filter _ List.nodup_range
theorem els_in {S v : Nat} : v ∈ els n S ↔ v < n ∧ S.testBit v = true := by unfold els; rw [List.mem_filter, List.mem_range]
theorem els_erase {S v : Nat} (hn : n ≤ 7) (hS : S < 128) (hv : v < 7) : (els n S).erase v = els n (clr S v) := by
  rw [(els_nd n S).erase_eq_filter]
  unfold els
  rw [List.filter_filter]
  refine List.filter_congr (fun j hj => ?_)
  rw [clr_b S hS v hv j (by have := List.mem_range.mp hj; omega), Bool.and_comm]
  by_cases e : j = v
  · subst e; simp
  · simp [e]
theorem sm_els {S : Nat} (hS : S < 2 ^ n) : sm n (els n S) = S := by
  refine (msk_ext hS (fun i hi => ?_)).symm
  cases hb : S.testBit i with
  | true => exact (decide_eq_true (els_in.mpr ⟨hi, hb⟩)).symm
  | false => exact (decide_eq_false (fun z => by rw [(els_in.mp z).2] at hb; cases hb)).symm
theorem els_full (n : Nat) : els n (2 ^ n - 1) = List.range n := by
  unfold els
  refine List.filter_eq_self.mpr (fun j hj => ?_)
  rw [Nat.testBit_two_pow_sub_one]
  exact decide_eq_true (List.mem_range.mp hj)
theorem els_0 (n : Nat) : els n 0 = [] := by
  unfold els
  refine List.filter_eq_nil_iff.mpr (fun j _ => ?_)
  simp
abbrev Bq (n : Nat) (c : Scr) (S : Nat) : Option (Nat × List Nat) := bs n c (els n S).length (els n S)
/-- a row of the table -/
def tb (τ : Sg) (n : Nat) (c : Scr) (S : Nat) : Prop := ∃ t, Bq n c S = some t ∧ rI τ 15 0 0 S = nI t.1 ∧ (0 < S → ∃ v r, t.2 = v :: r ∧ rI τ 15 1 0 S = nI v)
theorem cl_findFor {s S : Nat} (hS : isScr σ s n c) (ok : okS n c) (h0 : 0 < S) (h1 : S < 2 ^ n) (hl : 0 < (els n S).length) (h : ∀ X, X < S → tb σ n c X) (hN : 100 < N) :
    ∃ τ, f_X0_findFor N s (nI S) σ = some τ ∧ tb τ n c S ∧ Fq (fun t _ _ k => t = 15 ∧ k = S) σ τ := by
  have hn := ok.1
  have h128 := p128 hn
  obtain ⟨m, hm⟩ : ∃ m, (els n S).length = m + 1 := ⟨(els n S).length - 1, by omega⟩
  have hF : ∀ j, bsf n c (bs n c m) (els n S) ((List.range (j + 1)).filter (fun j => S.testBit j)) = cmb (bsf n c (bs n c m) (els n S) ((List.range j).filter (fun j => S.testBit j))) (if S.testBit j then sft j (sn n c j (sm n ((els n S).erase j))) (bs n c m ((els n S).erase j)) else none) := fun j => by
    rw [List.range_succ, List.filter_append, bsf_app]
    congr 1
    by_cases hb : S.testBit j = true
    · rw [if_pos hb, List.filter_cons, if_pos hb]
      exact cmb_n _
    · rw [if_neg hb, List.filter_cons, if_neg hb]; rfl
  unfold f_X0_findFor
  rw [gi (by omega) (by decide), nI_clamp (by omega)]
  obtain ⟨τ, e, g1, g2⟩ := up_rel (fun q v τ => L_X0_findFor_9 N (fun _ σ_2 => some σ_2) s (nI S) q v τ) (fun _ τ => some τ)
    (fun j τ => (match bsf n c (bs n c m) (els n S) ((List.range j).filter (fun j => S.testBit j)) with
      | none => rI τ 15 0 0 S = -1
      | some t => t.1 ≤ 7 ∧ rI τ 15 0 0 S = nI t.1 ∧ ∃ v r, t.2 = v :: r ∧ rI τ 15 1 0 S = nI v) ∧ Fq (fun t _ _ k => t = 15 ∧ k = S) σ τ) n
    (fun q τ h' => by
      show L_X0_findFor_9 N _ _ _ (q + 1) _ _ = _
      rw [L_X0_findFor_9_s, (h'.2 7 s 0 1 (by omega)).1, hS.1, ile_t (Nat.le_refl _) (by omega)])
    (fun q j τ hj h' => by
      obtain ⟨g1, g2⟩ := h'
      have hS' : isScr τ s n c := hS.frq g2 (fun _ _ => by omega) (fun _ _ => by omega)
      show ∃ s', L_X0_findFor_9 N (fun _ σ_2 => some σ_2) s (nI S) (q + 1) (nI j) τ = L_X0_findFor_9 N (fun _ σ_2 => some σ_2) s (nI S) q (nI (j + 1)) s' ∧ _
      rw [hF j, L_X0_findFor_9_s, hS'.1, ile_f hj (by omega), I_bit S (by omega) (by omega), nI_1]
      by_cases hb : S.testBit j = true
      · have hc := clr_lt S (by omega) j (by omega) hb
        have hE := els_erase (n := n) hn (show S < 128 by omega) (show j < 7 by omega)
        obtain ⟨u, u1, u2, -⟩ := h (clr S j) hc
        have hlen : (els n (clr S j)).length = m := by rw [← hE, List.length_erase_of_mem (els_in.mpr ⟨hj, hb⟩), hm]; rfl
        have u1' : bs n c m ((els n S).erase j) = some u := by rw [hE, ← hlen]; exact u1
        obtain ⟨u'', k1, -, k3⟩ := bs_some (n := n) (c := c) (els n (clr S j)).length (els n (clr S j)) rfl
        have hu : u.1 ≤ 6 := by
          rw [show bs n c (els n (clr S j)).length (els n (clr S j)) = some u from u1] at k1
          cases k1
          have h2 : (els n S).length ≤ n := by
            have := List.length_filter_le (fun j => S.testBit j) (List.range n)
            rw [List.length_range] at this
            exact this
          omega
        have u2' : rI τ 15 0 0 (clr S j) = nI u.1 := ((g2 15 0 0 (clr S j) (by omega)).1).trans u2
        have hg := g0_le n c j (clr S j)
        rw [if_pos hb, if_pos hb, iz_f (by decide) (by decide), clr_I S (by omega) j (by omega), gi (by omega) (by decide), nI_clamp (show clr S j < 2 ^ 31 by omega), u2', u1', hE, sm_els (show clr S j < 2 ^ n by omega)]
        have sh := sp_shown (N := N) hS' ok hj (show clr S j < 128 by omega) (by omega)
        rw [sh, Option.bind_some]
        have es : (if (nI (g0 n c j (clr S j))) ≤ (0 : Int32) then sn n c j (clr S j) = 0 else sn n c j (clr S j) = 1) := by
          unfold sn
          by_cases hz : 0 < g0 n c j (clr S j)
          · rw [n0, ile_f hz (by omega), decide_eq_true hz]; rfl
          · rw [n0, ile_t (by omega) (by omega), decide_eq_false hz]; rfl
        have st : ∀ k : Nat, k ≤ 1 → sn n c j (clr S j) = k → ∃ s', (gd (ib (nI S) 128) (if ((nI u.1) + nI k) ≤ (rI τ 15 0 0 (nI S).toNatClampNeg) then (L_X0_findFor_9 N (fun _ σ_2 => some σ_2) s (nI S) q (nI (j + 1)) τ) else (gd (ib (nI S) 128) (gd (ib (nI S) 128) (L_X0_findFor_9 N (fun _ σ_2 => some σ_2) s (nI S) q (nI (j + 1)) (uI (uI τ 15 0 0 (nI S).toNatClampNeg ((nI u.1) + nI k)) 15 1 0 (nI S).toNatClampNeg (nI j))))))) = L_X0_findFor_9 N (fun _ σ_2 => some σ_2) s (nI S) q (nI (j + 1)) s' ∧ (match cmb (bsf n c (bs n c m) (els n S) ((List.range j).filter (fun j => S.testBit j))) (sft j (sn n c j (clr S j)) (some u)) with
            | none => rI s' 15 0 0 S = -1
            | some t => t.1 ≤ 7 ∧ rI s' 15 0 0 S = nI t.1 ∧ ∃ v r, t.2 = v :: r ∧ rI s' 15 1 0 S = nI v) ∧ Fq (fun t _ _ k => t = 15 ∧ k = S) σ s' := by
          intro k hk1 hk
          rw [hk, gi (by omega) (by decide), gi (by omega) (by decide), gi (by omega) (by decide), nI_clamp (by omega), nI_add]
          have new : Fq (fun t _ _ k => t = 15 ∧ k = S) σ (uI (uI τ 15 0 0 S (nI (u.1 + k))) 15 1 0 S (nI j)) := (g2.uI ⟨rfl, rfl⟩).uI ⟨rfl, rfl⟩
          have r0 : rI (uI (uI τ 15 0 0 S (nI (u.1 + k))) 15 1 0 S (nI j)) 15 0 0 S = nI (u.1 + k) := by rw [rI_uI, if_neg (by omega), rI_uI, if_pos ⟨rfl, rfl, rfl, rfl⟩]
          have r1 : rI (uI (uI τ 15 0 0 S (nI (u.1 + k))) 15 1 0 S (nI j)) 15 1 0 S = nI j := by rw [rI_uI, if_pos ⟨rfl, rfl, rfl, rfl⟩]
          cases hb2 : bsf n c (bs n c m) (els n S) ((List.range j).filter (fun j => S.testBit j)) with
          | none =>
            rw [hb2] at g1
            rw [g1, ile_m1 (by omega)]
            exact ⟨_, rfl, ⟨show u.1 + k ≤ 7 by omega, r0, j, u.2, rfl, r1⟩, new⟩
          | some t =>
            rw [hb2] at g1
            obtain ⟨a1, a2, a3⟩ := g1
            rw [a2]
            show ∃ s', _ ∧ (match (if u.1 + k ≤ t.1 then some t else some (u.1 + k, j :: u.2)) with
              | none => rI s' 15 0 0 S = -1
              | some t => t.1 ≤ 7 ∧ rI s' 15 0 0 S = nI t.1 ∧ ∃ v r, t.2 = v :: r ∧ rI s' 15 1 0 S = nI v) ∧ _
            by_cases hle : u.1 + k ≤ t.1
            · rw [ile_t hle (by omega), if_pos hle]
              exact ⟨τ, rfl, ⟨a1, a2, a3⟩, g2⟩
            · rw [ile_f (by omega) (by omega), if_neg hle]
              exact ⟨_, rfl, ⟨show u.1 + k ≤ 7 by omega, r0, j, u.2, rfl, r1⟩, new⟩
        dsimp only
        by_cases hz : nI (g0 n c j (clr S j)) ≤ (0 : Int32)
        · rw [if_pos hz] at es
          have hz' : nI (if opn c j then fb_ct (vo (ovr c (clr S j) j) n c j) 96 else 0) ≤ (0 : Int32) := hz
          rw [if_pos hz']
          exact st 0 (by omega) es
        · rw [if_neg hz] at es
          have hz' : ¬ nI (if opn c j then fb_ct (vo (ovr c (clr S j) j) n c j) 96 else 0) ≤ (0 : Int32) := hz
          rw [if_neg hz']
          exact st 1 (by omega) es
      · rw [if_neg hb, if_neg hb, iz_t rfl, cmb_n]
        exact ⟨τ, rfl, g1, g2⟩)
    n 0 (uI σ 15 0 0 S (-1)) N (by omega) ⟨by show rI _ 15 0 0 S = -1; rw [rI_uI, if_pos ⟨rfl, rfl, rfl, rfl⟩], Fq.rf.uI ⟨rfl, rfl⟩⟩ (by omega)
  refine ⟨τ, e, ?_, g2⟩
  obtain ⟨t, k1, k2, k3⟩ := bs_some (n := n) (c := c) (els n S).length (els n S) rfl
  have k1' := k1
  rw [hm] at k1'
  have k4 : bsf n c (bs n c m) (els n S) ((List.range n).filter (fun j => S.testBit j)) = some t := k1'
  rw [k4] at g1
  exact ⟨t, k1, g1.2.1, fun _ => g1.2.2⟩
end Dp
