/-! the law's loop -/
def ExS (b L : Nat) (xs : Nat → Int32) : (Nat → Prop) → State → Prop := fun A s => va_X b L xs s s.heap ∧ b < s.heap.size ∧ ¬ A b
section Script
variable {en : En} {b L : Nat} {xs : Nat → Int32} {mi : Mi} {α : Type} {ev : α → Option Value × Sg} {pc : Nat} {lv : List (Nat × Value)} {rest : List Value} {σ : Sg} {o : Option α}
theorem r_slen (hd : decode mi.2.1 pc = .ok (.arraylength, 1)) (h : RR en (ExS b L xs) mi ev (pc + 1) lv (.int (Int32.ofNat L) :: rest) σ o) : RR en (ExS b L xs) mi ev pc lv (.ref b :: rest) σ o :=
  fun u hu p e Rm s m args below meth c A cells slots Q C H locs ls hW hl kr => va_slen C.1 C.2.1 C.2.2.2.2.2.2.2.1.1.1 C.2.2.2.2.2.2.2.1.1.2.1 C.2.2.2.2.2.2.2.1.1.2.2 hW.2.2 hd (h u hu p e Rm s m args below meth c A cells slots Q C H locs ls hW hl kr)
theorem r_sld {x : Int32} (hd : decode mi.2.1 pc = .ok (.iaload, 1)) (h : RR en (ExS b L xs) mi ev (pc + 1) lv (.int (xs x.toNatClampNeg) :: rest) σ o) : RR en (ExS b L xs) mi ev pc lv (.int x :: .ref b :: rest) σ (gd (ib x L) o) := by
  refine r_gd (fun hb => ?_)
  exact fun u hu p e Rm s m args below meth c A cells slots Q C H locs ls hW hl kr => va_sld C.1 C.2.1 C.2.2.2.2.2.2.2.1.1.1 C.2.2.2.2.2.2.2.1.1.2.1 C.2.2.2.2.2.2.2.1.1.2.2 hW.2.2 (ib_in hb) hd (h u hu p e Rm s m args below meth c A cells slots Q C H locs ls hW hl kr)
end Script
abbrev mi_L_law : Mi := (RL, cL_law, 4, some .boolean, 8)
def L_L_law_18 (N : Nat) (L : Nat) (xs : Nat → Int32) (k : Int32 → Sg → Option (Int32 × Sg))  : Nat → Int32 → Sg → Option (Int32 × Sg)
  | 0, _, _ => none
  | n + 1, v3, σ => if ((Int32.ofNat L) - (6 : Int32)) < v3 then (k v3 σ) else (gd (ib v3 L) (if ((xs v3.toNatClampNeg) &&& (63 : Int32)).toInt = 0 + ((0 : Nat) : Int) then (gd (ib (v3 + (1 : Int32)) L) (gd (ib (v3 + (2 : Int32)) L) ((f_X7_row N (xs (v3 + (1 : Int32)).toNatClampNeg) (xs (v3 + (2 : Int32)).toNatClampNeg) σ).bind (fun w1 => gd (ib (v3 + (1 : Int32)) L) (gd (ib (v3 + (2 : Int32)) L) ((f_X8_row N (xs (v3 + (1 : Int32)).toNatClampNeg) (xs (v3 + (2 : Int32)).toNatClampNeg) w1.2).bind (fun w2 => if w1.1 = w2.1 then (L_L_law_18 N L xs k n (v3 + (6 : Int32)) w2.2) else (some ((0 : Int32), w2.2))))))))) else (if ((xs v3.toNatClampNeg) &&& (63 : Int32)).toInt = 0 + ((1 : Nat) : Int) then (gd (ib (v3 + (1 : Int32)) L) (gd (ib (v3 + (2 : Int32)) L) (gd (ib (v3 + (3 : Int32)) L) ((f_X7_lay N (xs (v3 + (1 : Int32)).toNatClampNeg) (xs (v3 + (2 : Int32)).toNatClampNeg) (xs (v3 + (3 : Int32)).toNatClampNeg) σ).bind (fun w3 => gd (ib (v3 + (1 : Int32)) L) (gd (ib (v3 + (2 : Int32)) L) (gd (ib (v3 + (3 : Int32)) L) ((f_X8_lay N (xs (v3 + (1 : Int32)).toNatClampNeg) (xs (v3 + (2 : Int32)).toNatClampNeg) (xs (v3 + (3 : Int32)).toNatClampNeg) w3.2).bind (fun w4 => if w3.1 = w4.1 then (L_L_law_18 N L xs k n (v3 + (6 : Int32)) w4.2) else (some ((0 : Int32), w4.2))))))))))) else (if ((xs v3.toNatClampNeg) &&& (63 : Int32)).toInt = 0 + ((2 : Nat) : Int) then (gd (ib (v3 + (1 : Int32)) L) (gd (ib (v3 + (2 : Int32)) L) ((f_X7_at N (xs (v3 + (1 : Int32)).toNatClampNeg) (xs (v3 + (2 : Int32)).toNatClampNeg) σ).bind (fun w5 => gd (ib (v3 + (1 : Int32)) L) (gd (ib (v3 + (2 : Int32)) L) ((f_X8_at N (xs (v3 + (1 : Int32)).toNatClampNeg) (xs (v3 + (2 : Int32)).toNatClampNeg) w5.2).bind (fun w6 => if w5.1 = w6.1 then (L_L_law_18 N L xs k n (v3 + (6 : Int32)) w6.2) else (some ((0 : Int32), w6.2))))))))) else (if ((xs v3.toNatClampNeg) &&& (63 : Int32)).toInt = 0 + ((3 : Nat) : Int) then (gd (ib (v3 + (1 : Int32)) L) ((f_X7_tear N (xs (v3 + (1 : Int32)).toNatClampNeg) σ).bind (fun w7 => gd (ib (v3 + (1 : Int32)) L) ((f_X8_tear N (xs (v3 + (1 : Int32)).toNatClampNeg) w7.2).bind (fun w8 => if w7.1 = w8.1 then (L_L_law_18 N L xs k n (v3 + (6 : Int32)) w8.2) else (some ((0 : Int32), w8.2))))))) else (if ((xs v3.toNatClampNeg) &&& (63 : Int32)).toInt = 0 + ((4 : Nat) : Int) then (gd (ib (v3 + (1 : Int32)) L) (gd (ib (v3 + (2 : Int32)) L) (gd (ib (v3 + (3 : Int32)) L) (gd (ib (v3 + (4 : Int32)) L) (gd (ib (v3 + (5 : Int32)) L) ((f_X7_copy N (xs (v3 + (1 : Int32)).toNatClampNeg) (xs (v3 + (2 : Int32)).toNatClampNeg) (xs (v3 + (3 : Int32)).toNatClampNeg) (xs (v3 + (4 : Int32)).toNatClampNeg) (xs (v3 + (5 : Int32)).toNatClampNeg) σ).bind (fun w9 => gd (ib (v3 + (1 : Int32)) L) (gd (ib (v3 + (2 : Int32)) L) (gd (ib (v3 + (3 : Int32)) L) (gd (ib (v3 + (4 : Int32)) L) (gd (ib (v3 + (5 : Int32)) L) ((f_X8_copy N (xs (v3 + (1 : Int32)).toNatClampNeg) (xs (v3 + (2 : Int32)).toNatClampNeg) (xs (v3 + (3 : Int32)).toNatClampNeg) (xs (v3 + (4 : Int32)).toNatClampNeg) (xs (v3 + (5 : Int32)).toNatClampNeg) w9.2).bind (fun w10 => if w9.1 = w10.1 then (L_L_law_18 N L xs k n (v3 + (6 : Int32)) w10.2) else (some ((0 : Int32), w10.2))))))))))))))) else (if ((xs v3.toNatClampNeg) &&& (63 : Int32)).toInt = 0 + ((5 : Nat) : Int) then (gd (ib (v3 + (1 : Int32)) L) ((f_X7_mean N (xs (v3 + (1 : Int32)).toNatClampNeg) σ).bind (fun w11 => gd (ib (v3 + (1 : Int32)) L) ((f_X8_mean N (xs (v3 + (1 : Int32)).toNatClampNeg) w11.2).bind (fun w12 => if w11.1 = w12.1 then (L_L_law_18 N L xs k n (v3 + (6 : Int32)) w12.2) else (some ((0 : Int32), w12.2))))))) else (if ((xs v3.toNatClampNeg) &&& (63 : Int32)).toInt = 0 + ((6 : Nat) : Int) then (gd (ib (v3 + (1 : Int32)) L) (gd (ib (v3 + (2 : Int32)) L) ((f_X7_text N (xs (v3 + (1 : Int32)).toNatClampNeg) (xs (v3 + (2 : Int32)).toNatClampNeg) σ).bind (fun w13 => gd (ib (v3 + (1 : Int32)) L) (gd (ib (v3 + (2 : Int32)) L) ((f_X8_text N (xs (v3 + (1 : Int32)).toNatClampNeg) (xs (v3 + (2 : Int32)).toNatClampNeg) w13.2).bind (fun w14 => if w13.1 = w14.1 then (L_L_law_18 N L xs k n (v3 + (6 : Int32)) w14.2) else (some ((0 : Int32), w14.2))))))))) else (if ((xs v3.toNatClampNeg) &&& (63 : Int32)).toInt = 0 + ((7 : Nat) : Int) then (gd (ib (v3 + (1 : Int32)) L) (gd (ib (v3 + (2 : Int32)) L) (gd (ib (v3 + (3 : Int32)) L) ((f_X7_put N (xs (v3 + (1 : Int32)).toNatClampNeg) (xs (v3 + (2 : Int32)).toNatClampNeg) (xs (v3 + (3 : Int32)).toNatClampNeg) σ).bind (fun w15 => gd (ib (v3 + (1 : Int32)) L) (gd (ib (v3 + (2 : Int32)) L) (gd (ib (v3 + (3 : Int32)) L) ((f_X8_put N (xs (v3 + (1 : Int32)).toNatClampNeg) (xs (v3 + (2 : Int32)).toNatClampNeg) (xs (v3 + (3 : Int32)).toNatClampNeg) w15.2).bind (fun w16 => if w15.1 = w16.1 then (L_L_law_18 N L xs k n (v3 + (6 : Int32)) w16.2) else (some ((0 : Int32), w16.2))))))))))) else (if ((xs v3.toNatClampNeg) &&& (63 : Int32)).toInt = 0 + ((8 : Nat) : Int) then (gd (ib (v3 + (1 : Int32)) L) ((f_X7_fault N (xs (v3 + (1 : Int32)).toNatClampNeg) σ).bind (fun w17 => gd (ib (v3 + (1 : Int32)) L) ((f_X8_fault N (xs (v3 + (1 : Int32)).toNatClampNeg) w17.2).bind (fun w18 => if w17.1 = w18.1 then (L_L_law_18 N L xs k n (v3 + (6 : Int32)) w18.2) else (some ((0 : Int32), w18.2))))))) else (if ((xs v3.toNatClampNeg) &&& (63 : Int32)).toInt = 0 + ((9 : Nat) : Int) then (gd (ib (v3 + (1 : Int32)) L) ((f_X7_screen N (xs (v3 + (1 : Int32)).toNatClampNeg) σ).bind (fun w19 => gd (ib (v3 + (1 : Int32)) L) ((f_X8_screen N (xs (v3 + (1 : Int32)).toNatClampNeg) w19.2).bind (fun w20 => if w19.1 = w20.1 then (L_L_law_18 N L xs k n (v3 + (6 : Int32)) w20.2) else (some ((0 : Int32), w20.2))))))) else (if ((xs v3.toNatClampNeg) &&& (63 : Int32)).toInt = 0 + ((10 : Nat) : Int) then (gd (ib (v3 + (1 : Int32)) L) (gd (ib (v3 + (2 : Int32)) L) ((f_X7_pane N (xs (v3 + (1 : Int32)).toNatClampNeg) (xs (v3 + (2 : Int32)).toNatClampNeg) σ).bind (fun w21 => gd (ib (v3 + (1 : Int32)) L) (gd (ib (v3 + (2 : Int32)) L) ((f_X8_pane N (xs (v3 + (1 : Int32)).toNatClampNeg) (xs (v3 + (2 : Int32)).toNatClampNeg) w21.2).bind (fun w22 => if w21.1 = w22.1 then (L_L_law_18 N L xs k n (v3 + (6 : Int32)) w22.2) else (some ((0 : Int32), w22.2))))))))) else (if ((xs v3.toNatClampNeg) &&& (63 : Int32)).toInt = 0 + ((11 : Nat) : Int) then (gd (ib (v3 + (1 : Int32)) L) (gd (ib (v3 + (2 : Int32)) L) ((f_X7_mark N (xs (v3 + (1 : Int32)).toNatClampNeg) (xs (v3 + (2 : Int32)).toNatClampNeg) σ).bind (fun w23 => gd (ib (v3 + (1 : Int32)) L) (gd (ib (v3 + (2 : Int32)) L) ((f_X8_mark N (xs (v3 + (1 : Int32)).toNatClampNeg) (xs (v3 + (2 : Int32)).toNatClampNeg) w23.2).bind (fun w24 => if w23.1 = w24.1 then (L_L_law_18 N L xs k n (v3 + (6 : Int32)) w24.2) else (some ((0 : Int32), w24.2))))))))) else (if ((xs v3.toNatClampNeg) &&& (63 : Int32)).toInt = 0 + ((12 : Nat) : Int) then (gd (ib (v3 + (1 : Int32)) L) (gd (ib (v3 + (2 : Int32)) L) ((f_X7_covers N (xs (v3 + (1 : Int32)).toNatClampNeg) (xs (v3 + (2 : Int32)).toNatClampNeg) σ).bind (fun w25 => gd (ib (v3 + (1 : Int32)) L) (gd (ib (v3 + (2 : Int32)) L) ((f_X8_covers N (xs (v3 + (1 : Int32)).toNatClampNeg) (xs (v3 + (2 : Int32)).toNatClampNeg) w25.2).bind (fun w26 => if w25.1 = w26.1 then (L_L_law_18 N L xs k n (v3 + (6 : Int32)) w26.2) else (some ((0 : Int32), w26.2))))))))) else (if ((xs v3.toNatClampNeg) &&& (63 : Int32)).toInt = 0 + ((13 : Nat) : Int) then (gd (ib (v3 + (1 : Int32)) L) ((f_X7_raise N (xs (v3 + (1 : Int32)).toNatClampNeg) σ).bind (fun w27 => gd (ib (v3 + (1 : Int32)) L) ((f_X8_raise N (xs (v3 + (1 : Int32)).toNatClampNeg) w27.2).bind (fun w28 => if w27.1 = w28.1 then (L_L_law_18 N L xs k n (v3 + (6 : Int32)) w28.2) else (some ((0 : Int32), w28.2))))))) else (if ((xs v3.toNatClampNeg) &&& (63 : Int32)).toInt = 0 + ((14 : Nat) : Int) then (gd (ib (v3 + (1 : Int32)) L) ((f_X7_sink N (xs (v3 + (1 : Int32)).toNatClampNeg) σ).bind (fun w29 => gd (ib (v3 + (1 : Int32)) L) ((f_X8_sink N (xs (v3 + (1 : Int32)).toNatClampNeg) w29.2).bind (fun w30 => if w29.1 = w30.1 then (L_L_law_18 N L xs k n (v3 + (6 : Int32)) w30.2) else (some ((0 : Int32), w30.2))))))) else (if ((xs v3.toNatClampNeg) &&& (63 : Int32)).toInt = 0 + ((15 : Nat) : Int) then (gd (ib (v3 + (1 : Int32)) L) (gd (ib (v3 + (2 : Int32)) L) (gd (ib (v3 + (3 : Int32)) L) ((f_X7_move N (xs (v3 + (1 : Int32)).toNatClampNeg) (xs (v3 + (2 : Int32)).toNatClampNeg) (xs (v3 + (3 : Int32)).toNatClampNeg) σ).bind (fun w31 => gd (ib (v3 + (1 : Int32)) L) (gd (ib (v3 + (2 : Int32)) L) (gd (ib (v3 + (3 : Int32)) L) ((f_X8_move N (xs (v3 + (1 : Int32)).toNatClampNeg) (xs (v3 + (2 : Int32)).toNatClampNeg) (xs (v3 + (3 : Int32)).toNatClampNeg) w31.2).bind (fun w32 => if w31.1 = w32.1 then (L_L_law_18 N L xs k n (v3 + (6 : Int32)) w32.2) else (some ((0 : Int32), w32.2))))))))))) else (if ((xs v3.toNatClampNeg) &&& (63 : Int32)).toInt = 0 + ((16 : Nat) : Int) then (gd (ib (v3 + (1 : Int32)) L) ((f_X7_shut N (xs (v3 + (1 : Int32)).toNatClampNeg) σ).bind (fun w33 => gd (ib (v3 + (1 : Int32)) L) ((f_X8_shut N (xs (v3 + (1 : Int32)).toNatClampNeg) w33.2).bind (fun w34 => if w33.1 = w34.1 then (L_L_law_18 N L xs k n (v3 + (6 : Int32)) w34.2) else (some ((0 : Int32), w34.2))))))) else (if ((xs v3.toNatClampNeg) &&& (63 : Int32)).toInt = 0 + ((17 : Nat) : Int) then (gd (ib (v3 + (1 : Int32)) L) ((f_X7_undo N (xs (v3 + (1 : Int32)).toNatClampNeg) σ).bind (fun w35 => gd (ib (v3 + (1 : Int32)) L) ((f_X8_undo N (xs (v3 + (1 : Int32)).toNatClampNeg) w35.2).bind (fun w36 => if w35.1 = w36.1 then (L_L_law_18 N L xs k n (v3 + (6 : Int32)) w36.2) else (some ((0 : Int32), w36.2))))))) else (if ((xs v3.toNatClampNeg) &&& (63 : Int32)).toInt = 0 + ((18 : Nat) : Int) then (gd (ib (v3 + (1 : Int32)) L) ((f_X7_keep N (xs (v3 + (1 : Int32)).toNatClampNeg) σ).bind (fun w37 => gd (ib (v3 + (1 : Int32)) L) ((f_X8_keep N (xs (v3 + (1 : Int32)).toNatClampNeg) w37.2).bind (fun w38 => if w37.1 = w38.1 then (L_L_law_18 N L xs k n (v3 + (6 : Int32)) w38.2) else (some ((0 : Int32), w38.2))))))) else (if ((xs v3.toNatClampNeg) &&& (63 : Int32)).toInt = 0 + ((19 : Nat) : Int) then (gd (ib (v3 + (1 : Int32)) L) ((f_X7_on N (xs (v3 + (1 : Int32)).toNatClampNeg) σ).bind (fun w39 => gd (ib (v3 + (1 : Int32)) L) ((f_X8_on N (xs (v3 + (1 : Int32)).toNatClampNeg) w39.2).bind (fun w40 => if w39.1 = w40.1 then (L_L_law_18 N L xs k n (v3 + (6 : Int32)) w40.2) else (some ((0 : Int32), w40.2))))))) else (if ((xs v3.toNatClampNeg) &&& (63 : Int32)).toInt = 0 + ((20 : Nat) : Int) then (gd (ib (v3 + (1 : Int32)) L) ((f_X7_seen N (xs (v3 + (1 : Int32)).toNatClampNeg) σ).bind (fun w41 => gd (ib (v3 + (1 : Int32)) L) ((f_X8_seen N (xs (v3 + (1 : Int32)).toNatClampNeg) w41.2).bind (fun w42 => if w41.1 = w42.1 then (L_L_law_18 N L xs k n (v3 + (6 : Int32)) w42.2) else (some ((0 : Int32), w42.2))))))) else (if ((xs v3.toNatClampNeg) &&& (63 : Int32)).toInt = 0 + ((21 : Nat) : Int) then ((f_X7_buried N σ).bind (fun w43 => (f_X8_buried N w43.2).bind (fun w44 => if w43.1 = w44.1 then (L_L_law_18 N L xs k n (v3 + (6 : Int32)) w44.2) else (some ((0 : Int32), w44.2))))) else (if ((xs v3.toNatClampNeg) &&& (63 : Int32)).toInt = 0 + ((22 : Nat) : Int) then (gd (ib (v3 + (1 : Int32)) L) (gd (ib (v3 + (2 : Int32)) L) ((f_X7_both N (xs (v3 + (1 : Int32)).toNatClampNeg) (xs (v3 + (2 : Int32)).toNatClampNeg) σ).bind (fun w45 => gd (ib (v3 + (1 : Int32)) L) (gd (ib (v3 + (2 : Int32)) L) ((f_X8_both N (xs (v3 + (1 : Int32)).toNatClampNeg) (xs (v3 + (2 : Int32)).toNatClampNeg) w45.2).bind (fun w46 => if w45.1 = w46.1 then (L_L_law_18 N L xs k n (v3 + (6 : Int32)) w46.2) else (some ((0 : Int32), w46.2))))))))) else (if ((xs v3.toNatClampNeg) &&& (63 : Int32)).toInt = 0 + ((23 : Nat) : Int) then (gd (ib (v3 + (1 : Int32)) L) ((f_X7_free N (xs (v3 + (1 : Int32)).toNatClampNeg) σ).bind (fun w47 => gd (ib (v3 + (1 : Int32)) L) ((f_X8_free N (xs (v3 + (1 : Int32)).toNatClampNeg) w47.2).bind (fun w48 => if w47.1 = w48.1 then (L_L_law_18 N L xs k n (v3 + (6 : Int32)) w48.2) else (some ((0 : Int32), w48.2))))))) else (if ((xs v3.toNatClampNeg) &&& (63 : Int32)).toInt = 0 + ((24 : Nat) : Int) then (gd (ib (v3 + (1 : Int32)) L) ((f_X7_shift N (xs (v3 + (1 : Int32)).toNatClampNeg) σ).bind (fun w49 => gd (ib (v3 + (1 : Int32)) L) ((f_X8_shift N (xs (v3 + (1 : Int32)).toNatClampNeg) w49.2).bind (fun w50 => if w49.1 = w50.1 then (L_L_law_18 N L xs k n (v3 + (6 : Int32)) w50.2) else (some ((0 : Int32), w50.2))))))) else (if ((xs v3.toNatClampNeg) &&& (63 : Int32)).toInt = 0 + ((25 : Nat) : Int) then (gd (ib (v3 + (1 : Int32)) L) ((f_X7_order N (xs (v3 + (1 : Int32)).toNatClampNeg) σ).bind (fun w51 => gd (ib (v3 + (1 : Int32)) L) ((f_X8_order N (xs (v3 + (1 : Int32)).toNatClampNeg) w51.2).bind (fun w52 => if w51.1 = w52.1 then (L_L_law_18 N L xs k n (v3 + (6 : Int32)) w52.2) else (some ((0 : Int32), w52.2))))))) else (if ((xs v3.toNatClampNeg) &&& (63 : Int32)).toInt = 0 + ((26 : Nat) : Int) then (gd (ib (v3 + (1 : Int32)) L) (gd (ib (v3 + (2 : Int32)) L) ((f_X7_kinds N (xs (v3 + (1 : Int32)).toNatClampNeg) (xs (v3 + (2 : Int32)).toNatClampNeg) σ).bind (fun w53 => gd (ib (v3 + (1 : Int32)) L) (gd (ib (v3 + (2 : Int32)) L) ((f_X8_kinds N (xs (v3 + (1 : Int32)).toNatClampNeg) (xs (v3 + (2 : Int32)).toNatClampNeg) w53.2).bind (fun w54 => if w53.1 = w54.1 then (L_L_law_18 N L xs k n (v3 + (6 : Int32)) w54.2) else (some ((0 : Int32), w54.2))))))))) else (if ((xs v3.toNatClampNeg) &&& (63 : Int32)).toInt = 0 + ((27 : Nat) : Int) then (gd (ib (v3 + (1 : Int32)) L) (gd (ib (v3 + (2 : Int32)) L) ((f_X7_places N (xs (v3 + (1 : Int32)).toNatClampNeg) (xs (v3 + (2 : Int32)).toNatClampNeg) σ).bind (fun w55 => gd (ib (v3 + (1 : Int32)) L) (gd (ib (v3 + (2 : Int32)) L) ((f_X8_places N (xs (v3 + (1 : Int32)).toNatClampNeg) (xs (v3 + (2 : Int32)).toNatClampNeg) w55.2).bind (fun w56 => if w55.1 = w56.1 then (L_L_law_18 N L xs k n (v3 + (6 : Int32)) w56.2) else (some ((0 : Int32), w56.2))))))))) else (if ((xs v3.toNatClampNeg) &&& (63 : Int32)).toInt = 0 + ((28 : Nat) : Int) then (gd (ib (v3 + (1 : Int32)) L) (gd (ib (v3 + (2 : Int32)) L) ((f_X7_test N (xs (v3 + (1 : Int32)).toNatClampNeg) (xs (v3 + (2 : Int32)).toNatClampNeg) σ).bind (fun w57 => gd (ib (v3 + (1 : Int32)) L) (gd (ib (v3 + (2 : Int32)) L) ((f_X8_test N (xs (v3 + (1 : Int32)).toNatClampNeg) (xs (v3 + (2 : Int32)).toNatClampNeg) w57.2).bind (fun w58 => if w57.1 = w58.1 then (L_L_law_18 N L xs k n (v3 + (6 : Int32)) w58.2) else (some ((0 : Int32), w58.2))))))))) else (if ((xs v3.toNatClampNeg) &&& (63 : Int32)).toInt = 0 + ((29 : Nat) : Int) then (gd (ib (v3 + (1 : Int32)) L) (gd (ib (v3 + (2 : Int32)) L) ((f_X7_duel N (xs (v3 + (1 : Int32)).toNatClampNeg) (xs (v3 + (2 : Int32)).toNatClampNeg) σ).bind (fun w59 => gd (ib (v3 + (1 : Int32)) L) (gd (ib (v3 + (2 : Int32)) L) ((f_X8_duel N (xs (v3 + (1 : Int32)).toNatClampNeg) (xs (v3 + (2 : Int32)).toNatClampNeg) w59.2).bind (fun w60 => if w59.1 = w60.1 then (L_L_law_18 N L xs k n (v3 + (6 : Int32)) w60.2) else (some ((0 : Int32), w60.2))))))))) else (if ((xs v3.toNatClampNeg) &&& (63 : Int32)).toInt = 0 + ((30 : Nat) : Int) then (gd (ib (v3 + (1 : Int32)) L) (gd (ib (v3 + (2 : Int32)) L) ((f_X7_odds N (xs (v3 + (1 : Int32)).toNatClampNeg) (xs (v3 + (2 : Int32)).toNatClampNeg) σ).bind (fun w61 => gd (ib (v3 + (1 : Int32)) L) (gd (ib (v3 + (2 : Int32)) L) ((f_X8_odds N (xs (v3 + (1 : Int32)).toNatClampNeg) (xs (v3 + (2 : Int32)).toNatClampNeg) w61.2).bind (fun w62 => if w61.1 = w62.1 then (L_L_law_18 N L xs k n (v3 + (6 : Int32)) w62.2) else (some ((0 : Int32), w62.2))))))))) else (if ((xs v3.toNatClampNeg) &&& (63 : Int32)).toInt = 0 + ((31 : Nat) : Int) then (gd (ib (v3 + (1 : Int32)) L) (gd (ib (v3 + (2 : Int32)) L) ((f_X7_mid N (xs (v3 + (1 : Int32)).toNatClampNeg) (xs (v3 + (2 : Int32)).toNatClampNeg) σ).bind (fun w63 => gd (ib (v3 + (1 : Int32)) L) (gd (ib (v3 + (2 : Int32)) L) ((f_X8_mid N (xs (v3 + (1 : Int32)).toNatClampNeg) (xs (v3 + (2 : Int32)).toNatClampNeg) w63.2).bind (fun w64 => if w63.1 = w64.1 then (L_L_law_18 N L xs k n (v3 + (6 : Int32)) w64.2) else (some ((0 : Int32), w64.2))))))))) else (if ((xs v3.toNatClampNeg) &&& (63 : Int32)).toInt = 0 + ((32 : Nat) : Int) then (gd (ib (v3 + (1 : Int32)) L) (gd (ib (v3 + (2 : Int32)) L) ((f_X7_lots N (xs (v3 + (1 : Int32)).toNatClampNeg) (xs (v3 + (2 : Int32)).toNatClampNeg) σ).bind (fun w65 => gd (ib (v3 + (1 : Int32)) L) (gd (ib (v3 + (2 : Int32)) L) ((f_X8_lots N (xs (v3 + (1 : Int32)).toNatClampNeg) (xs (v3 + (2 : Int32)).toNatClampNeg) w65.2).bind (fun w66 => if w65.1 = w66.1 then (L_L_law_18 N L xs k n (v3 + (6 : Int32)) w66.2) else (some ((0 : Int32), w66.2))))))))) else (if ((xs v3.toNatClampNeg) &&& (63 : Int32)).toInt = 0 + ((33 : Nat) : Int) then ((f_X7_asked N σ).bind (fun w67 => (f_X8_asked N w67.2).bind (fun w68 => if w67.1 = w68.1 then (L_L_law_18 N L xs k n (v3 + (6 : Int32)) w68.2) else (some ((0 : Int32), w68.2))))) else (if ((xs v3.toNatClampNeg) &&& (63 : Int32)).toInt = 0 + ((34 : Nat) : Int) then ((f_X7_upper N σ).bind (fun w69 => (f_X8_upper N w69.2).bind (fun w70 => if (lg_cmp w69.1 w70.1) = 0 then (L_L_law_18 N L xs k n (v3 + (6 : Int32)) w70.2) else (some ((0 : Int32), w70.2))))) else (if ((xs v3.toNatClampNeg) &&& (63 : Int32)).toInt = 0 + ((35 : Nat) : Int) then ((f_X7_lower N σ).bind (fun w71 => (f_X8_lower N w71.2).bind (fun w72 => if (lg_cmp w71.1 w72.1) = 0 then (L_L_law_18 N L xs k n (v3 + (6 : Int32)) w72.2) else (some ((0 : Int32), w72.2))))) else (if ((xs v3.toNatClampNeg) &&& (63 : Int32)).toInt = 0 + ((36 : Nat) : Int) then (gd (ib (v3 + (1 : Int32)) L) ((f_X7_count N (xs (v3 + (1 : Int32)).toNatClampNeg) σ).bind (fun w73 => gd (ib (v3 + (1 : Int32)) L) ((f_X8_count N (xs (v3 + (1 : Int32)).toNatClampNeg) w73.2).bind (fun w74 => if w73.1 = w74.1 then (L_L_law_18 N L xs k n (v3 + (6 : Int32)) w74.2) else (some ((0 : Int32), w74.2))))))) else (if ((xs v3.toNatClampNeg) &&& (63 : Int32)).toInt = 0 + ((37 : Nat) : Int) then ((f_X7_finding N σ).bind (fun w75 => (f_X8_finding N w75.2).bind (fun w76 => if w75.1 = w76.1 then (L_L_law_18 N L xs k n (v3 + (6 : Int32)) w76.2) else (some ((0 : Int32), w76.2))))) else (if ((xs v3.toNatClampNeg) &&& (63 : Int32)).toInt = 0 + ((38 : Nat) : Int) then (gd (ib (v3 + (1 : Int32)) L) ((f_X7_findings N (xs (v3 + (1 : Int32)).toNatClampNeg) σ).bind (fun w77 => gd (ib (v3 + (1 : Int32)) L) ((f_X8_findings N (xs (v3 + (1 : Int32)).toNatClampNeg) w77.2).bind (fun w78 => if w77.1 = w78.1 then (L_L_law_18 N L xs k n (v3 + (6 : Int32)) w78.2) else (some ((0 : Int32), w78.2))))))) else (if ((xs v3.toNatClampNeg) &&& (63 : Int32)).toInt = 0 + ((39 : Nat) : Int) then ((f_X7_digest N σ).bind (fun w79 => (f_X8_digest N w79.2).bind (fun w80 => if (lg_cmp w79.1 w80.1) = 0 then (L_L_law_18 N L xs k n (v3 + (6 : Int32)) w80.2) else (some ((0 : Int32), w80.2))))) else (L_L_law_18 N L xs k n (v3 + (6 : Int32)) σ))))))))))))))))))))))))))))))))))))))))))
theorem L_L_law_18_s (N : Nat) (L : Nat) (xs : Nat → Int32) (k : Int32 → Sg → Option (Int32 × Sg))  (n : Nat) (v3 : Int32) (σ : Sg) : L_L_law_18 N L xs k  (n + 1) v3 σ = (if ((Int32.ofNat L) - (6 : Int32)) < v3 then (k v3 σ) else (gd (ib v3 L) (if ((xs v3.toNatClampNeg) &&& (63 : Int32)).toInt = 0 + ((0 : Nat) : Int) then (gd (ib (v3 + (1 : Int32)) L) (gd (ib (v3 + (2 : Int32)) L) ((f_X7_row N (xs (v3 + (1 : Int32)).toNatClampNeg) (xs (v3 + (2 : Int32)).toNatClampNeg) σ).bind (fun w1 => gd (ib (v3 + (1 : Int32)) L) (gd (ib (v3 + (2 : Int32)) L) ((f_X8_row N (xs (v3 + (1 : Int32)).toNatClampNeg) (xs (v3 + (2 : Int32)).toNatClampNeg) w1.2).bind (fun w2 => if w1.1 = w2.1 then (L_L_law_18 N L xs k n (v3 + (6 : Int32)) w2.2) else (some ((0 : Int32), w2.2))))))))) else (if ((xs v3.toNatClampNeg) &&& (63 : Int32)).toInt = 0 + ((1 : Nat) : Int) then (gd (ib (v3 + (1 : Int32)) L) (gd (ib (v3 + (2 : Int32)) L) (gd (ib (v3 + (3 : Int32)) L) ((f_X7_lay N (xs (v3 + (1 : Int32)).toNatClampNeg) (xs (v3 + (2 : Int32)).toNatClampNeg) (xs (v3 + (3 : Int32)).toNatClampNeg) σ).bind (fun w3 => gd (ib (v3 + (1 : Int32)) L) (gd (ib (v3 + (2 : Int32)) L) (gd (ib (v3 + (3 : Int32)) L) ((f_X8_lay N (xs (v3 + (1 : Int32)).toNatClampNeg) (xs (v3 + (2 : Int32)).toNatClampNeg) (xs (v3 + (3 : Int32)).toNatClampNeg) w3.2).bind (fun w4 => if w3.1 = w4.1 then (L_L_law_18 N L xs k n (v3 + (6 : Int32)) w4.2) else (some ((0 : Int32), w4.2))))))))))) else (if ((xs v3.toNatClampNeg) &&& (63 : Int32)).toInt = 0 + ((2 : Nat) : Int) then (gd (ib (v3 + (1 : Int32)) L) (gd (ib (v3 + (2 : Int32)) L) ((f_X7_at N (xs (v3 + (1 : Int32)).toNatClampNeg) (xs (v3 + (2 : Int32)).toNatClampNeg) σ).bind (fun w5 => gd (ib (v3 + (1 : Int32)) L) (gd (ib (v3 + (2 : Int32)) L) ((f_X8_at N (xs (v3 + (1 : Int32)).toNatClampNeg) (xs (v3 + (2 : Int32)).toNatClampNeg) w5.2).bind (fun w6 => if w5.1 = w6.1 then (L_L_law_18 N L xs k n (v3 + (6 : Int32)) w6.2) else (some ((0 : Int32), w6.2))))))))) else (if ((xs v3.toNatClampNeg) &&& (63 : Int32)).toInt = 0 + ((3 : Nat) : Int) then (gd (ib (v3 + (1 : Int32)) L) ((f_X7_tear N (xs (v3 + (1 : Int32)).toNatClampNeg) σ).bind (fun w7 => gd (ib (v3 + (1 : Int32)) L) ((f_X8_tear N (xs (v3 + (1 : Int32)).toNatClampNeg) w7.2).bind (fun w8 => if w7.1 = w8.1 then (L_L_law_18 N L xs k n (v3 + (6 : Int32)) w8.2) else (some ((0 : Int32), w8.2))))))) else (if ((xs v3.toNatClampNeg) &&& (63 : Int32)).toInt = 0 + ((4 : Nat) : Int) then (gd (ib (v3 + (1 : Int32)) L) (gd (ib (v3 + (2 : Int32)) L) (gd (ib (v3 + (3 : Int32)) L) (gd (ib (v3 + (4 : Int32)) L) (gd (ib (v3 + (5 : Int32)) L) ((f_X7_copy N (xs (v3 + (1 : Int32)).toNatClampNeg) (xs (v3 + (2 : Int32)).toNatClampNeg) (xs (v3 + (3 : Int32)).toNatClampNeg) (xs (v3 + (4 : Int32)).toNatClampNeg) (xs (v3 + (5 : Int32)).toNatClampNeg) σ).bind (fun w9 => gd (ib (v3 + (1 : Int32)) L) (gd (ib (v3 + (2 : Int32)) L) (gd (ib (v3 + (3 : Int32)) L) (gd (ib (v3 + (4 : Int32)) L) (gd (ib (v3 + (5 : Int32)) L) ((f_X8_copy N (xs (v3 + (1 : Int32)).toNatClampNeg) (xs (v3 + (2 : Int32)).toNatClampNeg) (xs (v3 + (3 : Int32)).toNatClampNeg) (xs (v3 + (4 : Int32)).toNatClampNeg) (xs (v3 + (5 : Int32)).toNatClampNeg) w9.2).bind (fun w10 => if w9.1 = w10.1 then (L_L_law_18 N L xs k n (v3 + (6 : Int32)) w10.2) else (some ((0 : Int32), w10.2))))))))))))))) else (if ((xs v3.toNatClampNeg) &&& (63 : Int32)).toInt = 0 + ((5 : Nat) : Int) then (gd (ib (v3 + (1 : Int32)) L) ((f_X7_mean N (xs (v3 + (1 : Int32)).toNatClampNeg) σ).bind (fun w11 => gd (ib (v3 + (1 : Int32)) L) ((f_X8_mean N (xs (v3 + (1 : Int32)).toNatClampNeg) w11.2).bind (fun w12 => if w11.1 = w12.1 then (L_L_law_18 N L xs k n (v3 + (6 : Int32)) w12.2) else (some ((0 : Int32), w12.2))))))) else (if ((xs v3.toNatClampNeg) &&& (63 : Int32)).toInt = 0 + ((6 : Nat) : Int) then (gd (ib (v3 + (1 : Int32)) L) (gd (ib (v3 + (2 : Int32)) L) ((f_X7_text N (xs (v3 + (1 : Int32)).toNatClampNeg) (xs (v3 + (2 : Int32)).toNatClampNeg) σ).bind (fun w13 => gd (ib (v3 + (1 : Int32)) L) (gd (ib (v3 + (2 : Int32)) L) ((f_X8_text N (xs (v3 + (1 : Int32)).toNatClampNeg) (xs (v3 + (2 : Int32)).toNatClampNeg) w13.2).bind (fun w14 => if w13.1 = w14.1 then (L_L_law_18 N L xs k n (v3 + (6 : Int32)) w14.2) else (some ((0 : Int32), w14.2))))))))) else (if ((xs v3.toNatClampNeg) &&& (63 : Int32)).toInt = 0 + ((7 : Nat) : Int) then (gd (ib (v3 + (1 : Int32)) L) (gd (ib (v3 + (2 : Int32)) L) (gd (ib (v3 + (3 : Int32)) L) ((f_X7_put N (xs (v3 + (1 : Int32)).toNatClampNeg) (xs (v3 + (2 : Int32)).toNatClampNeg) (xs (v3 + (3 : Int32)).toNatClampNeg) σ).bind (fun w15 => gd (ib (v3 + (1 : Int32)) L) (gd (ib (v3 + (2 : Int32)) L) (gd (ib (v3 + (3 : Int32)) L) ((f_X8_put N (xs (v3 + (1 : Int32)).toNatClampNeg) (xs (v3 + (2 : Int32)).toNatClampNeg) (xs (v3 + (3 : Int32)).toNatClampNeg) w15.2).bind (fun w16 => if w15.1 = w16.1 then (L_L_law_18 N L xs k n (v3 + (6 : Int32)) w16.2) else (some ((0 : Int32), w16.2))))))))))) else (if ((xs v3.toNatClampNeg) &&& (63 : Int32)).toInt = 0 + ((8 : Nat) : Int) then (gd (ib (v3 + (1 : Int32)) L) ((f_X7_fault N (xs (v3 + (1 : Int32)).toNatClampNeg) σ).bind (fun w17 => gd (ib (v3 + (1 : Int32)) L) ((f_X8_fault N (xs (v3 + (1 : Int32)).toNatClampNeg) w17.2).bind (fun w18 => if w17.1 = w18.1 then (L_L_law_18 N L xs k n (v3 + (6 : Int32)) w18.2) else (some ((0 : Int32), w18.2))))))) else (if ((xs v3.toNatClampNeg) &&& (63 : Int32)).toInt = 0 + ((9 : Nat) : Int) then (gd (ib (v3 + (1 : Int32)) L) ((f_X7_screen N (xs (v3 + (1 : Int32)).toNatClampNeg) σ).bind (fun w19 => gd (ib (v3 + (1 : Int32)) L) ((f_X8_screen N (xs (v3 + (1 : Int32)).toNatClampNeg) w19.2).bind (fun w20 => if w19.1 = w20.1 then (L_L_law_18 N L xs k n (v3 + (6 : Int32)) w20.2) else (some ((0 : Int32), w20.2))))))) else (if ((xs v3.toNatClampNeg) &&& (63 : Int32)).toInt = 0 + ((10 : Nat) : Int) then (gd (ib (v3 + (1 : Int32)) L) (gd (ib (v3 + (2 : Int32)) L) ((f_X7_pane N (xs (v3 + (1 : Int32)).toNatClampNeg) (xs (v3 + (2 : Int32)).toNatClampNeg) σ).bind (fun w21 => gd (ib (v3 + (1 : Int32)) L) (gd (ib (v3 + (2 : Int32)) L) ((f_X8_pane N (xs (v3 + (1 : Int32)).toNatClampNeg) (xs (v3 + (2 : Int32)).toNatClampNeg) w21.2).bind (fun w22 => if w21.1 = w22.1 then (L_L_law_18 N L xs k n (v3 + (6 : Int32)) w22.2) else (some ((0 : Int32), w22.2))))))))) else (if ((xs v3.toNatClampNeg) &&& (63 : Int32)).toInt = 0 + ((11 : Nat) : Int) then (gd (ib (v3 + (1 : Int32)) L) (gd (ib (v3 + (2 : Int32)) L) ((f_X7_mark N (xs (v3 + (1 : Int32)).toNatClampNeg) (xs (v3 + (2 : Int32)).toNatClampNeg) σ).bind (fun w23 => gd (ib (v3 + (1 : Int32)) L) (gd (ib (v3 + (2 : Int32)) L) ((f_X8_mark N (xs (v3 + (1 : Int32)).toNatClampNeg) (xs (v3 + (2 : Int32)).toNatClampNeg) w23.2).bind (fun w24 => if w23.1 = w24.1 then (L_L_law_18 N L xs k n (v3 + (6 : Int32)) w24.2) else (some ((0 : Int32), w24.2))))))))) else (if ((xs v3.toNatClampNeg) &&& (63 : Int32)).toInt = 0 + ((12 : Nat) : Int) then (gd (ib (v3 + (1 : Int32)) L) (gd (ib (v3 + (2 : Int32)) L) ((f_X7_covers N (xs (v3 + (1 : Int32)).toNatClampNeg) (xs (v3 + (2 : Int32)).toNatClampNeg) σ).bind (fun w25 => gd (ib (v3 + (1 : Int32)) L) (gd (ib (v3 + (2 : Int32)) L) ((f_X8_covers N (xs (v3 + (1 : Int32)).toNatClampNeg) (xs (v3 + (2 : Int32)).toNatClampNeg) w25.2).bind (fun w26 => if w25.1 = w26.1 then (L_L_law_18 N L xs k n (v3 + (6 : Int32)) w26.2) else (some ((0 : Int32), w26.2))))))))) else (if ((xs v3.toNatClampNeg) &&& (63 : Int32)).toInt = 0 + ((13 : Nat) : Int) then (gd (ib (v3 + (1 : Int32)) L) ((f_X7_raise N (xs (v3 + (1 : Int32)).toNatClampNeg) σ).bind (fun w27 => gd (ib (v3 + (1 : Int32)) L) ((f_X8_raise N (xs (v3 + (1 : Int32)).toNatClampNeg) w27.2).bind (fun w28 => if w27.1 = w28.1 then (L_L_law_18 N L xs k n (v3 + (6 : Int32)) w28.2) else (some ((0 : Int32), w28.2))))))) else (if ((xs v3.toNatClampNeg) &&& (63 : Int32)).toInt = 0 + ((14 : Nat) : Int) then (gd (ib (v3 + (1 : Int32)) L) ((f_X7_sink N (xs (v3 + (1 : Int32)).toNatClampNeg) σ).bind (fun w29 => gd (ib (v3 + (1 : Int32)) L) ((f_X8_sink N (xs (v3 + (1 : Int32)).toNatClampNeg) w29.2).bind (fun w30 => if w29.1 = w30.1 then (L_L_law_18 N L xs k n (v3 + (6 : Int32)) w30.2) else (some ((0 : Int32), w30.2))))))) else (if ((xs v3.toNatClampNeg) &&& (63 : Int32)).toInt = 0 + ((15 : Nat) : Int) then (gd (ib (v3 + (1 : Int32)) L) (gd (ib (v3 + (2 : Int32)) L) (gd (ib (v3 + (3 : Int32)) L) ((f_X7_move N (xs (v3 + (1 : Int32)).toNatClampNeg) (xs (v3 + (2 : Int32)).toNatClampNeg) (xs (v3 + (3 : Int32)).toNatClampNeg) σ).bind (fun w31 => gd (ib (v3 + (1 : Int32)) L) (gd (ib (v3 + (2 : Int32)) L) (gd (ib (v3 + (3 : Int32)) L) ((f_X8_move N (xs (v3 + (1 : Int32)).toNatClampNeg) (xs (v3 + (2 : Int32)).toNatClampNeg) (xs (v3 + (3 : Int32)).toNatClampNeg) w31.2).bind (fun w32 => if w31.1 = w32.1 then (L_L_law_18 N L xs k n (v3 + (6 : Int32)) w32.2) else (some ((0 : Int32), w32.2))))))))))) else (if ((xs v3.toNatClampNeg) &&& (63 : Int32)).toInt = 0 + ((16 : Nat) : Int) then (gd (ib (v3 + (1 : Int32)) L) ((f_X7_shut N (xs (v3 + (1 : Int32)).toNatClampNeg) σ).bind (fun w33 => gd (ib (v3 + (1 : Int32)) L) ((f_X8_shut N (xs (v3 + (1 : Int32)).toNatClampNeg) w33.2).bind (fun w34 => if w33.1 = w34.1 then (L_L_law_18 N L xs k n (v3 + (6 : Int32)) w34.2) else (some ((0 : Int32), w34.2))))))) else (if ((xs v3.toNatClampNeg) &&& (63 : Int32)).toInt = 0 + ((17 : Nat) : Int) then (gd (ib (v3 + (1 : Int32)) L) ((f_X7_undo N (xs (v3 + (1 : Int32)).toNatClampNeg) σ).bind (fun w35 => gd (ib (v3 + (1 : Int32)) L) ((f_X8_undo N (xs (v3 + (1 : Int32)).toNatClampNeg) w35.2).bind (fun w36 => if w35.1 = w36.1 then (L_L_law_18 N L xs k n (v3 + (6 : Int32)) w36.2) else (some ((0 : Int32), w36.2))))))) else (if ((xs v3.toNatClampNeg) &&& (63 : Int32)).toInt = 0 + ((18 : Nat) : Int) then (gd (ib (v3 + (1 : Int32)) L) ((f_X7_keep N (xs (v3 + (1 : Int32)).toNatClampNeg) σ).bind (fun w37 => gd (ib (v3 + (1 : Int32)) L) ((f_X8_keep N (xs (v3 + (1 : Int32)).toNatClampNeg) w37.2).bind (fun w38 => if w37.1 = w38.1 then (L_L_law_18 N L xs k n (v3 + (6 : Int32)) w38.2) else (some ((0 : Int32), w38.2))))))) else (if ((xs v3.toNatClampNeg) &&& (63 : Int32)).toInt = 0 + ((19 : Nat) : Int) then (gd (ib (v3 + (1 : Int32)) L) ((f_X7_on N (xs (v3 + (1 : Int32)).toNatClampNeg) σ).bind (fun w39 => gd (ib (v3 + (1 : Int32)) L) ((f_X8_on N (xs (v3 + (1 : Int32)).toNatClampNeg) w39.2).bind (fun w40 => if w39.1 = w40.1 then (L_L_law_18 N L xs k n (v3 + (6 : Int32)) w40.2) else (some ((0 : Int32), w40.2))))))) else (if ((xs v3.toNatClampNeg) &&& (63 : Int32)).toInt = 0 + ((20 : Nat) : Int) then (gd (ib (v3 + (1 : Int32)) L) ((f_X7_seen N (xs (v3 + (1 : Int32)).toNatClampNeg) σ).bind (fun w41 => gd (ib (v3 + (1 : Int32)) L) ((f_X8_seen N (xs (v3 + (1 : Int32)).toNatClampNeg) w41.2).bind (fun w42 => if w41.1 = w42.1 then (L_L_law_18 N L xs k n (v3 + (6 : Int32)) w42.2) else (some ((0 : Int32), w42.2))))))) else (if ((xs v3.toNatClampNeg) &&& (63 : Int32)).toInt = 0 + ((21 : Nat) : Int) then ((f_X7_buried N σ).bind (fun w43 => (f_X8_buried N w43.2).bind (fun w44 => if w43.1 = w44.1 then (L_L_law_18 N L xs k n (v3 + (6 : Int32)) w44.2) else (some ((0 : Int32), w44.2))))) else (if ((xs v3.toNatClampNeg) &&& (63 : Int32)).toInt = 0 + ((22 : Nat) : Int) then (gd (ib (v3 + (1 : Int32)) L) (gd (ib (v3 + (2 : Int32)) L) ((f_X7_both N (xs (v3 + (1 : Int32)).toNatClampNeg) (xs (v3 + (2 : Int32)).toNatClampNeg) σ).bind (fun w45 => gd (ib (v3 + (1 : Int32)) L) (gd (ib (v3 + (2 : Int32)) L) ((f_X8_both N (xs (v3 + (1 : Int32)).toNatClampNeg) (xs (v3 + (2 : Int32)).toNatClampNeg) w45.2).bind (fun w46 => if w45.1 = w46.1 then (L_L_law_18 N L xs k n (v3 + (6 : Int32)) w46.2) else (some ((0 : Int32), w46.2))))))))) else (if ((xs v3.toNatClampNeg) &&& (63 : Int32)).toInt = 0 + ((23 : Nat) : Int) then (gd (ib (v3 + (1 : Int32)) L) ((f_X7_free N (xs (v3 + (1 : Int32)).toNatClampNeg) σ).bind (fun w47 => gd (ib (v3 + (1 : Int32)) L) ((f_X8_free N (xs (v3 + (1 : Int32)).toNatClampNeg) w47.2).bind (fun w48 => if w47.1 = w48.1 then (L_L_law_18 N L xs k n (v3 + (6 : Int32)) w48.2) else (some ((0 : Int32), w48.2))))))) else (if ((xs v3.toNatClampNeg) &&& (63 : Int32)).toInt = 0 + ((24 : Nat) : Int) then (gd (ib (v3 + (1 : Int32)) L) ((f_X7_shift N (xs (v3 + (1 : Int32)).toNatClampNeg) σ).bind (fun w49 => gd (ib (v3 + (1 : Int32)) L) ((f_X8_shift N (xs (v3 + (1 : Int32)).toNatClampNeg) w49.2).bind (fun w50 => if w49.1 = w50.1 then (L_L_law_18 N L xs k n (v3 + (6 : Int32)) w50.2) else (some ((0 : Int32), w50.2))))))) else (if ((xs v3.toNatClampNeg) &&& (63 : Int32)).toInt = 0 + ((25 : Nat) : Int) then (gd (ib (v3 + (1 : Int32)) L) ((f_X7_order N (xs (v3 + (1 : Int32)).toNatClampNeg) σ).bind (fun w51 => gd (ib (v3 + (1 : Int32)) L) ((f_X8_order N (xs (v3 + (1 : Int32)).toNatClampNeg) w51.2).bind (fun w52 => if w51.1 = w52.1 then (L_L_law_18 N L xs k n (v3 + (6 : Int32)) w52.2) else (some ((0 : Int32), w52.2))))))) else (if ((xs v3.toNatClampNeg) &&& (63 : Int32)).toInt = 0 + ((26 : Nat) : Int) then (gd (ib (v3 + (1 : Int32)) L) (gd (ib (v3 + (2 : Int32)) L) ((f_X7_kinds N (xs (v3 + (1 : Int32)).toNatClampNeg) (xs (v3 + (2 : Int32)).toNatClampNeg) σ).bind (fun w53 => gd (ib (v3 + (1 : Int32)) L) (gd (ib (v3 + (2 : Int32)) L) ((f_X8_kinds N (xs (v3 + (1 : Int32)).toNatClampNeg) (xs (v3 + (2 : Int32)).toNatClampNeg) w53.2).bind (fun w54 => if w53.1 = w54.1 then (L_L_law_18 N L xs k n (v3 + (6 : Int32)) w54.2) else (some ((0 : Int32), w54.2))))))))) else (if ((xs v3.toNatClampNeg) &&& (63 : Int32)).toInt = 0 + ((27 : Nat) : Int) then (gd (ib (v3 + (1 : Int32)) L) (gd (ib (v3 + (2 : Int32)) L) ((f_X7_places N (xs (v3 + (1 : Int32)).toNatClampNeg) (xs (v3 + (2 : Int32)).toNatClampNeg) σ).bind (fun w55 => gd (ib (v3 + (1 : Int32)) L) (gd (ib (v3 + (2 : Int32)) L) ((f_X8_places N (xs (v3 + (1 : Int32)).toNatClampNeg) (xs (v3 + (2 : Int32)).toNatClampNeg) w55.2).bind (fun w56 => if w55.1 = w56.1 then (L_L_law_18 N L xs k n (v3 + (6 : Int32)) w56.2) else (some ((0 : Int32), w56.2))))))))) else (if ((xs v3.toNatClampNeg) &&& (63 : Int32)).toInt = 0 + ((28 : Nat) : Int) then (gd (ib (v3 + (1 : Int32)) L) (gd (ib (v3 + (2 : Int32)) L) ((f_X7_test N (xs (v3 + (1 : Int32)).toNatClampNeg) (xs (v3 + (2 : Int32)).toNatClampNeg) σ).bind (fun w57 => gd (ib (v3 + (1 : Int32)) L) (gd (ib (v3 + (2 : Int32)) L) ((f_X8_test N (xs (v3 + (1 : Int32)).toNatClampNeg) (xs (v3 + (2 : Int32)).toNatClampNeg) w57.2).bind (fun w58 => if w57.1 = w58.1 then (L_L_law_18 N L xs k n (v3 + (6 : Int32)) w58.2) else (some ((0 : Int32), w58.2))))))))) else (if ((xs v3.toNatClampNeg) &&& (63 : Int32)).toInt = 0 + ((29 : Nat) : Int) then (gd (ib (v3 + (1 : Int32)) L) (gd (ib (v3 + (2 : Int32)) L) ((f_X7_duel N (xs (v3 + (1 : Int32)).toNatClampNeg) (xs (v3 + (2 : Int32)).toNatClampNeg) σ).bind (fun w59 => gd (ib (v3 + (1 : Int32)) L) (gd (ib (v3 + (2 : Int32)) L) ((f_X8_duel N (xs (v3 + (1 : Int32)).toNatClampNeg) (xs (v3 + (2 : Int32)).toNatClampNeg) w59.2).bind (fun w60 => if w59.1 = w60.1 then (L_L_law_18 N L xs k n (v3 + (6 : Int32)) w60.2) else (some ((0 : Int32), w60.2))))))))) else (if ((xs v3.toNatClampNeg) &&& (63 : Int32)).toInt = 0 + ((30 : Nat) : Int) then (gd (ib (v3 + (1 : Int32)) L) (gd (ib (v3 + (2 : Int32)) L) ((f_X7_odds N (xs (v3 + (1 : Int32)).toNatClampNeg) (xs (v3 + (2 : Int32)).toNatClampNeg) σ).bind (fun w61 => gd (ib (v3 + (1 : Int32)) L) (gd (ib (v3 + (2 : Int32)) L) ((f_X8_odds N (xs (v3 + (1 : Int32)).toNatClampNeg) (xs (v3 + (2 : Int32)).toNatClampNeg) w61.2).bind (fun w62 => if w61.1 = w62.1 then (L_L_law_18 N L xs k n (v3 + (6 : Int32)) w62.2) else (some ((0 : Int32), w62.2))))))))) else (if ((xs v3.toNatClampNeg) &&& (63 : Int32)).toInt = 0 + ((31 : Nat) : Int) then (gd (ib (v3 + (1 : Int32)) L) (gd (ib (v3 + (2 : Int32)) L) ((f_X7_mid N (xs (v3 + (1 : Int32)).toNatClampNeg) (xs (v3 + (2 : Int32)).toNatClampNeg) σ).bind (fun w63 => gd (ib (v3 + (1 : Int32)) L) (gd (ib (v3 + (2 : Int32)) L) ((f_X8_mid N (xs (v3 + (1 : Int32)).toNatClampNeg) (xs (v3 + (2 : Int32)).toNatClampNeg) w63.2).bind (fun w64 => if w63.1 = w64.1 then (L_L_law_18 N L xs k n (v3 + (6 : Int32)) w64.2) else (some ((0 : Int32), w64.2))))))))) else (if ((xs v3.toNatClampNeg) &&& (63 : Int32)).toInt = 0 + ((32 : Nat) : Int) then (gd (ib (v3 + (1 : Int32)) L) (gd (ib (v3 + (2 : Int32)) L) ((f_X7_lots N (xs (v3 + (1 : Int32)).toNatClampNeg) (xs (v3 + (2 : Int32)).toNatClampNeg) σ).bind (fun w65 => gd (ib (v3 + (1 : Int32)) L) (gd (ib (v3 + (2 : Int32)) L) ((f_X8_lots N (xs (v3 + (1 : Int32)).toNatClampNeg) (xs (v3 + (2 : Int32)).toNatClampNeg) w65.2).bind (fun w66 => if w65.1 = w66.1 then (L_L_law_18 N L xs k n (v3 + (6 : Int32)) w66.2) else (some ((0 : Int32), w66.2))))))))) else (if ((xs v3.toNatClampNeg) &&& (63 : Int32)).toInt = 0 + ((33 : Nat) : Int) then ((f_X7_asked N σ).bind (fun w67 => (f_X8_asked N w67.2).bind (fun w68 => if w67.1 = w68.1 then (L_L_law_18 N L xs k n (v3 + (6 : Int32)) w68.2) else (some ((0 : Int32), w68.2))))) else (if ((xs v3.toNatClampNeg) &&& (63 : Int32)).toInt = 0 + ((34 : Nat) : Int) then ((f_X7_upper N σ).bind (fun w69 => (f_X8_upper N w69.2).bind (fun w70 => if (lg_cmp w69.1 w70.1) = 0 then (L_L_law_18 N L xs k n (v3 + (6 : Int32)) w70.2) else (some ((0 : Int32), w70.2))))) else (if ((xs v3.toNatClampNeg) &&& (63 : Int32)).toInt = 0 + ((35 : Nat) : Int) then ((f_X7_lower N σ).bind (fun w71 => (f_X8_lower N w71.2).bind (fun w72 => if (lg_cmp w71.1 w72.1) = 0 then (L_L_law_18 N L xs k n (v3 + (6 : Int32)) w72.2) else (some ((0 : Int32), w72.2))))) else (if ((xs v3.toNatClampNeg) &&& (63 : Int32)).toInt = 0 + ((36 : Nat) : Int) then (gd (ib (v3 + (1 : Int32)) L) ((f_X7_count N (xs (v3 + (1 : Int32)).toNatClampNeg) σ).bind (fun w73 => gd (ib (v3 + (1 : Int32)) L) ((f_X8_count N (xs (v3 + (1 : Int32)).toNatClampNeg) w73.2).bind (fun w74 => if w73.1 = w74.1 then (L_L_law_18 N L xs k n (v3 + (6 : Int32)) w74.2) else (some ((0 : Int32), w74.2))))))) else (if ((xs v3.toNatClampNeg) &&& (63 : Int32)).toInt = 0 + ((37 : Nat) : Int) then ((f_X7_finding N σ).bind (fun w75 => (f_X8_finding N w75.2).bind (fun w76 => if w75.1 = w76.1 then (L_L_law_18 N L xs k n (v3 + (6 : Int32)) w76.2) else (some ((0 : Int32), w76.2))))) else (if ((xs v3.toNatClampNeg) &&& (63 : Int32)).toInt = 0 + ((38 : Nat) : Int) then (gd (ib (v3 + (1 : Int32)) L) ((f_X7_findings N (xs (v3 + (1 : Int32)).toNatClampNeg) σ).bind (fun w77 => gd (ib (v3 + (1 : Int32)) L) ((f_X8_findings N (xs (v3 + (1 : Int32)).toNatClampNeg) w77.2).bind (fun w78 => if w77.1 = w78.1 then (L_L_law_18 N L xs k n (v3 + (6 : Int32)) w78.2) else (some ((0 : Int32), w78.2))))))) else (if ((xs v3.toNatClampNeg) &&& (63 : Int32)).toInt = 0 + ((39 : Nat) : Int) then ((f_X7_digest N σ).bind (fun w79 => (f_X8_digest N w79.2).bind (fun w80 => if (lg_cmp w79.1 w80.1) = 0 then (L_L_law_18 N L xs k n (v3 + (6 : Int32)) w80.2) else (some ((0 : Int32), w80.2))))) else (L_L_law_18 N L xs k n (v3 + (6 : Int32)) σ))))))))))))))))))))))))))))))))))))))))))) := rfl
def f_L_law (N : Nat) (L : Nat) (xs : Nat → Int32) (σ : Sg) : Option (Int32 × Sg) := L_L_law_18 N L xs (fun v3_81 σ_81 => some ((1 : Int32), σ_81)) N (0 : Int32) σ
set_option maxHeartbeats 4000000 in
theorem RL_L_law_18 (en : En) (N : Nat) (b L : Nat) (xs : Nat → Int32) {k : Int32 → Sg → Option (Int32 × Sg)}   (hk : ∀ (v3 : Int32) (σ : Sg), RR en (ExS b L xs) mi_L_law evI 1317 [] [] σ (k v3 σ)) : ∀ (n : Nat) (v3 : Int32) (σ : Sg), RR en (ExS b L xs) mi_L_law evI 18 [(0, .ref b), (1, .ref (ad en 0 0 0)), (2, .ref (ad en 21 0 0)), (3, .int v3)] [] σ (L_L_law_18 N L xs k  n v3 σ) := by
  intro n
  induction n with
  | zero => intro v3 σ; exact r_none
  | succ n ih =>
    intro v3 σ
    rw [L_L_law_18_s]
    refine r_iload_n (pc := 18) 3 dL_law_18 rfl rfl ?_
    refine r_aload_n (pc := 19) 0 dL_law_19 rfl rfl ?_
    refine r_slen (pc := 20) dL_law_20 ?_
    refine r_bipush (pc := 21) dL_law_21 kc_bipush_6 ?_
    refine r_isub (pc := 23) dL_law_23 ?_
    refine r_icmp_gt (pc := 24) 1317 dL_law_24 (by decide) (fun h1 => ?_) (fun h1 => ?_)
    · exact r_sub [] rfl (hk v3 σ)
    · refine r_aload_n (pc := 27) 0 dL_law_27 rfl rfl ?_
      refine r_iload_n (pc := 28) 3 dL_law_28 rfl rfl ?_
      refine r_sld (pc := 29) dL_law_29 ?_
      refine r_bipush (pc := 30) dL_law_30 kc_bipush_63 ?_
      refine r_iand (pc := 32) dL_law_32 ?_
      refine r_ite (fun h3 => ?_) (fun h3 => ?_)
      · refine r_tableIn (pc := 33) 208 dL_law_33 (by rw [h3]; decide) (by rw [h3]; decide) (by rw [h3]; rfl) (by decide) ?_
        refine r_aload_n (pc := 208) 1 dL_law_208 rfl rfl ?_
        refine r_aload_n (pc := 209) 0 dL_law_209 rfl rfl ?_
        refine r_iload_n (pc := 210) 3 dL_law_210 rfl rfl ?_
        refine r_iconst (pc := 211) dL_law_211 kc_iconst_1 ?_
        refine r_iadd (pc := 212) dL_law_212 ?_
        refine r_sld (pc := 213) dL_law_213 ?_
        refine r_aload_n (pc := 214) 0 dL_law_214 rfl rfl ?_
        refine r_iload_n (pc := 215) 3 dL_law_215 rfl rfl ?_
        refine r_iconst (pc := 216) dL_law_216 kc_iconst_2 ?_
        refine r_iadd (pc := 217) dL_law_217 ?_
        refine r_sld (pc := 218) dL_law_218 ?_
        refine k_X7_row (pc := 219) lm_RL_13  (by decide) (Nat.le_of_ble_eq_true rfl) dL_law_219 (fun w1 h6 => ?_)
        refine r_aload_n (pc := 222) 2 dL_law_222 rfl rfl ?_
        refine r_aload_n (pc := 223) 0 dL_law_223 rfl rfl ?_
        refine r_iload_n (pc := 224) 3 dL_law_224 rfl rfl ?_
        refine r_iconst (pc := 225) dL_law_225 kc_iconst_1 ?_
        refine r_iadd (pc := 226) dL_law_226 ?_
        refine r_sld (pc := 227) dL_law_227 ?_
        refine r_aload_n (pc := 228) 0 dL_law_228 rfl rfl ?_
        refine r_iload_n (pc := 229) 3 dL_law_229 rfl rfl ?_
        refine r_iconst (pc := 230) dL_law_230 kc_iconst_2 ?_
        refine r_iadd (pc := 231) dL_law_231 ?_
        refine r_sld (pc := 232) dL_law_232 ?_
        refine k_X8_row (pc := 233) lm_RL_17  (by decide) (Nat.le_of_ble_eq_true rfl) dL_law_233 (fun w2 h9 => ?_)
        refine r_icmp_eq (pc := 236) 1311 dL_law_236 (by decide) (fun h10 => ?_) (fun h10 => ?_)
        · refine r_iinc (pc := 1311) 3 [(3, .int (v3 + (6 : Int32))), (0, .ref b), (1, .ref (ad en 0 0 0)), (2, .ref (ad en 21 0 0))] dL_law_1311 rfl rfl (by decide) rfl ?_
          refine r_goto (pc := 1314) 18 dL_law_1314 (by decide) ?_
          exact r_sub [1, 2, 3, 0] rfl (ih (v3 + (6 : Int32)) w2.2)
        · refine r_iconst (pc := 239) dL_law_239 kc_iconst_0 ?_
          exact r_zret (pc := 240) rfl rfl dL_law_240
      refine r_ite (fun h11 => ?_) (fun h11 => ?_)
      · refine r_tableIn (pc := 33) 241 dL_law_33 (by rw [h11]; decide) (by rw [h11]; decide) (by rw [h11]; rfl) (by decide) ?_
        refine r_aload_n (pc := 241) 1 dL_law_241 rfl rfl ?_
        refine r_aload_n (pc := 242) 0 dL_law_242 rfl rfl ?_
        refine r_iload_n (pc := 243) 3 dL_law_243 rfl rfl ?_
        refine r_iconst (pc := 244) dL_law_244 kc_iconst_1 ?_
        refine r_iadd (pc := 245) dL_law_245 ?_
        refine r_sld (pc := 246) dL_law_246 ?_
        refine r_aload_n (pc := 247) 0 dL_law_247 rfl rfl ?_
        refine r_iload_n (pc := 248) 3 dL_law_248 rfl rfl ?_
        refine r_iconst (pc := 249) dL_law_249 kc_iconst_2 ?_
        refine r_iadd (pc := 250) dL_law_250 ?_
        refine r_sld (pc := 251) dL_law_251 ?_
        refine r_aload_n (pc := 252) 0 dL_law_252 rfl rfl ?_
        refine r_iload_n (pc := 253) 3 dL_law_253 rfl rfl ?_
        refine r_iconst (pc := 254) dL_law_254 kc_iconst_3 ?_
        refine r_iadd (pc := 255) dL_law_255 ?_
        refine r_sld (pc := 256) dL_law_256 ?_
        refine k_X7_lay (pc := 257) lm_RL_18  (by decide) (Nat.le_of_ble_eq_true rfl) dL_law_257 (fun w3 h15 => ?_)
        refine r_aload_n (pc := 260) 2 dL_law_260 rfl rfl ?_
        refine r_aload_n (pc := 261) 0 dL_law_261 rfl rfl ?_
        refine r_iload_n (pc := 262) 3 dL_law_262 rfl rfl ?_
        refine r_iconst (pc := 263) dL_law_263 kc_iconst_1 ?_
        refine r_iadd (pc := 264) dL_law_264 ?_
        refine r_sld (pc := 265) dL_law_265 ?_
        refine r_aload_n (pc := 266) 0 dL_law_266 rfl rfl ?_
        refine r_iload_n (pc := 267) 3 dL_law_267 rfl rfl ?_
        refine r_iconst (pc := 268) dL_law_268 kc_iconst_2 ?_
        refine r_iadd (pc := 269) dL_law_269 ?_
        refine r_sld (pc := 270) dL_law_270 ?_
        refine r_aload_n (pc := 271) 0 dL_law_271 rfl rfl ?_
        refine r_iload_n (pc := 272) 3 dL_law_272 rfl rfl ?_
        refine r_iconst (pc := 273) dL_law_273 kc_iconst_3 ?_
        refine r_iadd (pc := 274) dL_law_274 ?_
        refine r_sld (pc := 275) dL_law_275 ?_
        refine k_X8_lay (pc := 276) lm_RL_22  (by decide) (Nat.le_of_ble_eq_true rfl) dL_law_276 (fun w4 h19 => ?_)
        refine r_icmp_eq (pc := 279) 1311 dL_law_279 (by decide) (fun h20 => ?_) (fun h20 => ?_)
        · refine r_iinc (pc := 1311) 3 [(3, .int (v3 + (6 : Int32))), (0, .ref b), (1, .ref (ad en 0 0 0)), (2, .ref (ad en 21 0 0))] dL_law_1311 rfl rfl (by decide) rfl ?_
          refine r_goto (pc := 1314) 18 dL_law_1314 (by decide) ?_
          exact r_sub [1, 2, 3, 0] rfl (ih (v3 + (6 : Int32)) w4.2)
        · refine r_iconst (pc := 282) dL_law_282 kc_iconst_0 ?_
          exact r_zret (pc := 283) rfl rfl dL_law_283
      refine r_ite (fun h21 => ?_) (fun h21 => ?_)
      · refine r_tableIn (pc := 33) 284 dL_law_33 (by rw [h21]; decide) (by rw [h21]; decide) (by rw [h21]; rfl) (by decide) ?_
        refine r_aload_n (pc := 284) 1 dL_law_284 rfl rfl ?_
        refine r_aload_n (pc := 285) 0 dL_law_285 rfl rfl ?_
        refine r_iload_n (pc := 286) 3 dL_law_286 rfl rfl ?_
        refine r_iconst (pc := 287) dL_law_287 kc_iconst_1 ?_
        refine r_iadd (pc := 288) dL_law_288 ?_
        refine r_sld (pc := 289) dL_law_289 ?_
        refine r_aload_n (pc := 290) 0 dL_law_290 rfl rfl ?_
        refine r_iload_n (pc := 291) 3 dL_law_291 rfl rfl ?_
        refine r_iconst (pc := 292) dL_law_292 kc_iconst_2 ?_
        refine r_iadd (pc := 293) dL_law_293 ?_
        refine r_sld (pc := 294) dL_law_294 ?_
        refine k_X7_at (pc := 295) lm_RL_23  (by decide) (Nat.le_of_ble_eq_true rfl) dL_law_295 (fun w5 h24 => ?_)
        refine r_aload_n (pc := 298) 2 dL_law_298 rfl rfl ?_
        refine r_aload_n (pc := 299) 0 dL_law_299 rfl rfl ?_
        refine r_iload_n (pc := 300) 3 dL_law_300 rfl rfl ?_
        refine r_iconst (pc := 301) dL_law_301 kc_iconst_1 ?_
        refine r_iadd (pc := 302) dL_law_302 ?_
        refine r_sld (pc := 303) dL_law_303 ?_
        refine r_aload_n (pc := 304) 0 dL_law_304 rfl rfl ?_
        refine r_iload_n (pc := 305) 3 dL_law_305 rfl rfl ?_
        refine r_iconst (pc := 306) dL_law_306 kc_iconst_2 ?_
        refine r_iadd (pc := 307) dL_law_307 ?_
        refine r_sld (pc := 308) dL_law_308 ?_
        refine k_X8_at (pc := 309) lm_RL_26  (by decide) (Nat.le_of_ble_eq_true rfl) dL_law_309 (fun w6 h27 => ?_)
        refine r_icmp_eq (pc := 312) 1311 dL_law_312 (by decide) (fun h28 => ?_) (fun h28 => ?_)
        · refine r_iinc (pc := 1311) 3 [(3, .int (v3 + (6 : Int32))), (0, .ref b), (1, .ref (ad en 0 0 0)), (2, .ref (ad en 21 0 0))] dL_law_1311 rfl rfl (by decide) rfl ?_
          refine r_goto (pc := 1314) 18 dL_law_1314 (by decide) ?_
          exact r_sub [1, 2, 3, 0] rfl (ih (v3 + (6 : Int32)) w6.2)
        · refine r_iconst (pc := 315) dL_law_315 kc_iconst_0 ?_
          exact r_zret (pc := 316) rfl rfl dL_law_316
      refine r_ite (fun h29 => ?_) (fun h29 => ?_)
      · refine r_tableIn (pc := 33) 317 dL_law_33 (by rw [h29]; decide) (by rw [h29]; decide) (by rw [h29]; rfl) (by decide) ?_
        refine r_aload_n (pc := 317) 1 dL_law_317 rfl rfl ?_
        refine r_aload_n (pc := 318) 0 dL_law_318 rfl rfl ?_
        refine r_iload_n (pc := 319) 3 dL_law_319 rfl rfl ?_
        refine r_iconst (pc := 320) dL_law_320 kc_iconst_1 ?_
        refine r_iadd (pc := 321) dL_law_321 ?_
        refine r_sld (pc := 322) dL_law_322 ?_
        refine k_X7_tear (pc := 323) lm_RL_27  (by decide) (Nat.le_of_ble_eq_true rfl) dL_law_323 (fun w7 h31 => ?_)
        refine r_aload_n (pc := 326) 2 dL_law_326 rfl rfl ?_
        refine r_aload_n (pc := 327) 0 dL_law_327 rfl rfl ?_
        refine r_iload_n (pc := 328) 3 dL_law_328 rfl rfl ?_
        refine r_iconst (pc := 329) dL_law_329 kc_iconst_1 ?_
        refine r_iadd (pc := 330) dL_law_330 ?_
        refine r_sld (pc := 331) dL_law_331 ?_
        refine k_X8_tear (pc := 332) lm_RL_31  (by decide) (Nat.le_of_ble_eq_true rfl) dL_law_332 (fun w8 h33 => ?_)
        refine r_icmp_eq (pc := 335) 1311 dL_law_335 (by decide) (fun h34 => ?_) (fun h34 => ?_)
        · refine r_iinc (pc := 1311) 3 [(3, .int (v3 + (6 : Int32))), (0, .ref b), (1, .ref (ad en 0 0 0)), (2, .ref (ad en 21 0 0))] dL_law_1311 rfl rfl (by decide) rfl ?_
          refine r_goto (pc := 1314) 18 dL_law_1314 (by decide) ?_
          exact r_sub [1, 2, 3, 0] rfl (ih (v3 + (6 : Int32)) w8.2)
        · refine r_iconst (pc := 338) dL_law_338 kc_iconst_0 ?_
          exact r_zret (pc := 339) rfl rfl dL_law_339
      refine r_ite (fun h35 => ?_) (fun h35 => ?_)
      · refine r_tableIn (pc := 33) 340 dL_law_33 (by rw [h35]; decide) (by rw [h35]; decide) (by rw [h35]; rfl) (by decide) ?_
        refine r_aload_n (pc := 340) 1 dL_law_340 rfl rfl ?_
        refine r_aload_n (pc := 341) 0 dL_law_341 rfl rfl ?_
        refine r_iload_n (pc := 342) 3 dL_law_342 rfl rfl ?_
        refine r_iconst (pc := 343) dL_law_343 kc_iconst_1 ?_
        refine r_iadd (pc := 344) dL_law_344 ?_
        refine r_sld (pc := 345) dL_law_345 ?_
        refine r_aload_n (pc := 346) 0 dL_law_346 rfl rfl ?_
        refine r_iload_n (pc := 347) 3 dL_law_347 rfl rfl ?_
        refine r_iconst (pc := 348) dL_law_348 kc_iconst_2 ?_
        refine r_iadd (pc := 349) dL_law_349 ?_
        refine r_sld (pc := 350) dL_law_350 ?_
        refine r_aload_n (pc := 351) 0 dL_law_351 rfl rfl ?_
        refine r_iload_n (pc := 352) 3 dL_law_352 rfl rfl ?_
        refine r_iconst (pc := 353) dL_law_353 kc_iconst_3 ?_
        refine r_iadd (pc := 354) dL_law_354 ?_
        refine r_sld (pc := 355) dL_law_355 ?_
        refine r_aload_n (pc := 356) 0 dL_law_356 rfl rfl ?_
        refine r_iload_n (pc := 357) 3 dL_law_357 rfl rfl ?_
        refine r_iconst (pc := 358) dL_law_358 kc_iconst_4 ?_
        refine r_iadd (pc := 359) dL_law_359 ?_
        refine r_sld (pc := 360) dL_law_360 ?_
        refine r_aload_n (pc := 361) 0 dL_law_361 rfl rfl ?_
        refine r_iload_n (pc := 362) 3 dL_law_362 rfl rfl ?_
        refine r_iconst (pc := 363) dL_law_363 kc_iconst_5 ?_
        refine r_iadd (pc := 364) dL_law_364 ?_
        refine r_sld (pc := 365) dL_law_365 ?_
        refine k_X7_copy (pc := 366) lm_RL_32  (by decide) (Nat.le_of_ble_eq_true rfl) dL_law_366 (fun w9 h41 => ?_)
        refine r_aload_n (pc := 369) 2 dL_law_369 rfl rfl ?_
        refine r_aload_n (pc := 370) 0 dL_law_370 rfl rfl ?_
        refine r_iload_n (pc := 371) 3 dL_law_371 rfl rfl ?_
        refine r_iconst (pc := 372) dL_law_372 kc_iconst_1 ?_
        refine r_iadd (pc := 373) dL_law_373 ?_
        refine r_sld (pc := 374) dL_law_374 ?_
        refine r_aload_n (pc := 375) 0 dL_law_375 rfl rfl ?_
        refine r_iload_n (pc := 376) 3 dL_law_376 rfl rfl ?_
        refine r_iconst (pc := 377) dL_law_377 kc_iconst_2 ?_
        refine r_iadd (pc := 378) dL_law_378 ?_
        refine r_sld (pc := 379) dL_law_379 ?_
        refine r_aload_n (pc := 380) 0 dL_law_380 rfl rfl ?_
        refine r_iload_n (pc := 381) 3 dL_law_381 rfl rfl ?_
        refine r_iconst (pc := 382) dL_law_382 kc_iconst_3 ?_
        refine r_iadd (pc := 383) dL_law_383 ?_
        refine r_sld (pc := 384) dL_law_384 ?_
        refine r_aload_n (pc := 385) 0 dL_law_385 rfl rfl ?_
        refine r_iload_n (pc := 386) 3 dL_law_386 rfl rfl ?_
        refine r_iconst (pc := 387) dL_law_387 kc_iconst_4 ?_
        refine r_iadd (pc := 388) dL_law_388 ?_
        refine r_sld (pc := 389) dL_law_389 ?_
        refine r_aload_n (pc := 390) 0 dL_law_390 rfl rfl ?_
        refine r_iload_n (pc := 391) 3 dL_law_391 rfl rfl ?_
        refine r_iconst (pc := 392) dL_law_392 kc_iconst_5 ?_
        refine r_iadd (pc := 393) dL_law_393 ?_
        refine r_sld (pc := 394) dL_law_394 ?_
        refine k_X8_copy (pc := 395) lm_RL_36  (by decide) (Nat.le_of_ble_eq_true rfl) dL_law_395 (fun w10 h47 => ?_)
        refine r_icmp_eq (pc := 398) 1311 dL_law_398 (by decide) (fun h48 => ?_) (fun h48 => ?_)
        · refine r_iinc (pc := 1311) 3 [(3, .int (v3 + (6 : Int32))), (0, .ref b), (1, .ref (ad en 0 0 0)), (2, .ref (ad en 21 0 0))] dL_law_1311 rfl rfl (by decide) rfl ?_
          refine r_goto (pc := 1314) 18 dL_law_1314 (by decide) ?_
          exact r_sub [1, 2, 3, 0] rfl (ih (v3 + (6 : Int32)) w10.2)
        · refine r_iconst (pc := 401) dL_law_401 kc_iconst_0 ?_
          exact r_zret (pc := 402) rfl rfl dL_law_402
      refine r_ite (fun h49 => ?_) (fun h49 => ?_)
      · refine r_tableIn (pc := 33) 403 dL_law_33 (by rw [h49]; decide) (by rw [h49]; decide) (by rw [h49]; rfl) (by decide) ?_
        refine r_aload_n (pc := 403) 1 dL_law_403 rfl rfl ?_
        refine r_aload_n (pc := 404) 0 dL_law_404 rfl rfl ?_
        refine r_iload_n (pc := 405) 3 dL_law_405 rfl rfl ?_
        refine r_iconst (pc := 406) dL_law_406 kc_iconst_1 ?_
        refine r_iadd (pc := 407) dL_law_407 ?_
        refine r_sld (pc := 408) dL_law_408 ?_
        refine k_X7_mean (pc := 409) lm_RL_37  (by decide) (Nat.le_of_ble_eq_true rfl) dL_law_409 (fun w11 h51 => ?_)
        refine r_aload_n (pc := 412) 2 dL_law_412 rfl rfl ?_
        refine r_aload_n (pc := 413) 0 dL_law_413 rfl rfl ?_
        refine r_iload_n (pc := 414) 3 dL_law_414 rfl rfl ?_
        refine r_iconst (pc := 415) dL_law_415 kc_iconst_1 ?_
        refine r_iadd (pc := 416) dL_law_416 ?_
        refine r_sld (pc := 417) dL_law_417 ?_
        refine k_X8_mean (pc := 418) lm_RL_40  (by decide) (Nat.le_of_ble_eq_true rfl) dL_law_418 (fun w12 h53 => ?_)
        refine r_icmp_eq (pc := 421) 1311 dL_law_421 (by decide) (fun h54 => ?_) (fun h54 => ?_)
        · refine r_iinc (pc := 1311) 3 [(3, .int (v3 + (6 : Int32))), (0, .ref b), (1, .ref (ad en 0 0 0)), (2, .ref (ad en 21 0 0))] dL_law_1311 rfl rfl (by decide) rfl ?_
          refine r_goto (pc := 1314) 18 dL_law_1314 (by decide) ?_
          exact r_sub [1, 2, 3, 0] rfl (ih (v3 + (6 : Int32)) w12.2)
        · refine r_iconst (pc := 424) dL_law_424 kc_iconst_0 ?_
          exact r_zret (pc := 425) rfl rfl dL_law_425
      refine r_ite (fun h55 => ?_) (fun h55 => ?_)
      · refine r_tableIn (pc := 33) 426 dL_law_33 (by rw [h55]; decide) (by rw [h55]; decide) (by rw [h55]; rfl) (by decide) ?_
        refine r_aload_n (pc := 426) 1 dL_law_426 rfl rfl ?_
        refine r_aload_n (pc := 427) 0 dL_law_427 rfl rfl ?_
        refine r_iload_n (pc := 428) 3 dL_law_428 rfl rfl ?_
        refine r_iconst (pc := 429) dL_law_429 kc_iconst_1 ?_
        refine r_iadd (pc := 430) dL_law_430 ?_
        refine r_sld (pc := 431) dL_law_431 ?_
        refine r_aload_n (pc := 432) 0 dL_law_432 rfl rfl ?_
        refine r_iload_n (pc := 433) 3 dL_law_433 rfl rfl ?_
        refine r_iconst (pc := 434) dL_law_434 kc_iconst_2 ?_
        refine r_iadd (pc := 435) dL_law_435 ?_
        refine r_sld (pc := 436) dL_law_436 ?_
        refine k_X7_text (pc := 437) lm_RL_41  (by decide) (Nat.le_of_ble_eq_true rfl) dL_law_437 (fun w13 h58 => ?_)
        refine r_aload_n (pc := 440) 2 dL_law_440 rfl rfl ?_
        refine r_aload_n (pc := 441) 0 dL_law_441 rfl rfl ?_
        refine r_iload_n (pc := 442) 3 dL_law_442 rfl rfl ?_
        refine r_iconst (pc := 443) dL_law_443 kc_iconst_1 ?_
        refine r_iadd (pc := 444) dL_law_444 ?_
        refine r_sld (pc := 445) dL_law_445 ?_
        refine r_aload_n (pc := 446) 0 dL_law_446 rfl rfl ?_
        refine r_iload_n (pc := 447) 3 dL_law_447 rfl rfl ?_
        refine r_iconst (pc := 448) dL_law_448 kc_iconst_2 ?_
        refine r_iadd (pc := 449) dL_law_449 ?_
        refine r_sld (pc := 450) dL_law_450 ?_
        refine k_X8_text (pc := 451) lm_RL_44  (by decide) (Nat.le_of_ble_eq_true rfl) dL_law_451 (fun w14 h61 => ?_)
        refine r_icmp_eq (pc := 454) 1311 dL_law_454 (by decide) (fun h62 => ?_) (fun h62 => ?_)
        · refine r_iinc (pc := 1311) 3 [(3, .int (v3 + (6 : Int32))), (0, .ref b), (1, .ref (ad en 0 0 0)), (2, .ref (ad en 21 0 0))] dL_law_1311 rfl rfl (by decide) rfl ?_
          refine r_goto (pc := 1314) 18 dL_law_1314 (by decide) ?_
          exact r_sub [1, 2, 3, 0] rfl (ih (v3 + (6 : Int32)) w14.2)
        · refine r_iconst (pc := 457) dL_law_457 kc_iconst_0 ?_
          exact r_zret (pc := 458) rfl rfl dL_law_458
      refine r_ite (fun h63 => ?_) (fun h63 => ?_)
      · refine r_tableIn (pc := 33) 459 dL_law_33 (by rw [h63]; decide) (by rw [h63]; decide) (by rw [h63]; rfl) (by decide) ?_
        refine r_aload_n (pc := 459) 1 dL_law_459 rfl rfl ?_
        refine r_aload_n (pc := 460) 0 dL_law_460 rfl rfl ?_
        refine r_iload_n (pc := 461) 3 dL_law_461 rfl rfl ?_
        refine r_iconst (pc := 462) dL_law_462 kc_iconst_1 ?_
        refine r_iadd (pc := 463) dL_law_463 ?_
        refine r_sld (pc := 464) dL_law_464 ?_
        refine r_aload_n (pc := 465) 0 dL_law_465 rfl rfl ?_
        refine r_iload_n (pc := 466) 3 dL_law_466 rfl rfl ?_
        refine r_iconst (pc := 467) dL_law_467 kc_iconst_2 ?_
        refine r_iadd (pc := 468) dL_law_468 ?_
        refine r_sld (pc := 469) dL_law_469 ?_
        refine r_aload_n (pc := 470) 0 dL_law_470 rfl rfl ?_
        refine r_iload_n (pc := 471) 3 dL_law_471 rfl rfl ?_
        refine r_iconst (pc := 472) dL_law_472 kc_iconst_3 ?_
        refine r_iadd (pc := 473) dL_law_473 ?_
        refine r_sld (pc := 474) dL_law_474 ?_
        refine k_X7_put (pc := 475) lm_RL_45  (by decide) (Nat.le_of_ble_eq_true rfl) dL_law_475 (fun w15 h67 => ?_)
        refine r_aload_n (pc := 478) 2 dL_law_478 rfl rfl ?_
        refine r_aload_n (pc := 479) 0 dL_law_479 rfl rfl ?_
        refine r_iload_n (pc := 480) 3 dL_law_480 rfl rfl ?_
        refine r_iconst (pc := 481) dL_law_481 kc_iconst_1 ?_
        refine r_iadd (pc := 482) dL_law_482 ?_
        refine r_sld (pc := 483) dL_law_483 ?_
        refine r_aload_n (pc := 484) 0 dL_law_484 rfl rfl ?_
        refine r_iload_n (pc := 485) 3 dL_law_485 rfl rfl ?_
        refine r_iconst (pc := 486) dL_law_486 kc_iconst_2 ?_
        refine r_iadd (pc := 487) dL_law_487 ?_
        refine r_sld (pc := 488) dL_law_488 ?_
        refine r_aload_n (pc := 489) 0 dL_law_489 rfl rfl ?_
        refine r_iload_n (pc := 490) 3 dL_law_490 rfl rfl ?_
        refine r_iconst (pc := 491) dL_law_491 kc_iconst_3 ?_
        refine r_iadd (pc := 492) dL_law_492 ?_
        refine r_sld (pc := 493) dL_law_493 ?_
        refine k_X8_put (pc := 494) lm_RL_48  (by decide) (Nat.le_of_ble_eq_true rfl) dL_law_494 (fun w16 h71 => ?_)
        refine r_icmp_eq (pc := 497) 1311 dL_law_497 (by decide) (fun h72 => ?_) (fun h72 => ?_)
        · refine r_iinc (pc := 1311) 3 [(3, .int (v3 + (6 : Int32))), (0, .ref b), (1, .ref (ad en 0 0 0)), (2, .ref (ad en 21 0 0))] dL_law_1311 rfl rfl (by decide) rfl ?_
          refine r_goto (pc := 1314) 18 dL_law_1314 (by decide) ?_
          exact r_sub [1, 2, 3, 0] rfl (ih (v3 + (6 : Int32)) w16.2)
        · refine r_iconst (pc := 500) dL_law_500 kc_iconst_0 ?_
          exact r_zret (pc := 501) rfl rfl dL_law_501
      refine r_ite (fun h73 => ?_) (fun h73 => ?_)
      · refine r_tableIn (pc := 33) 502 dL_law_33 (by rw [h73]; decide) (by rw [h73]; decide) (by rw [h73]; rfl) (by decide) ?_
        refine r_aload_n (pc := 502) 1 dL_law_502 rfl rfl ?_
        refine r_aload_n (pc := 503) 0 dL_law_503 rfl rfl ?_
        refine r_iload_n (pc := 504) 3 dL_law_504 rfl rfl ?_
        refine r_iconst (pc := 505) dL_law_505 kc_iconst_1 ?_
        refine r_iadd (pc := 506) dL_law_506 ?_
        refine r_sld (pc := 507) dL_law_507 ?_
        refine k_X7_fault (pc := 508) lm_RL_49  (by decide) (Nat.le_of_ble_eq_true rfl) dL_law_508 (fun w17 h75 => ?_)
        refine r_aload_n (pc := 511) 2 dL_law_511 rfl rfl ?_
        refine r_aload_n (pc := 512) 0 dL_law_512 rfl rfl ?_
        refine r_iload_n (pc := 513) 3 dL_law_513 rfl rfl ?_
        refine r_iconst (pc := 514) dL_law_514 kc_iconst_1 ?_
        refine r_iadd (pc := 515) dL_law_515 ?_
        refine r_sld (pc := 516) dL_law_516 ?_
        refine k_X8_fault (pc := 517) lm_RL_52  (by decide) (Nat.le_of_ble_eq_true rfl) dL_law_517 (fun w18 h77 => ?_)
        refine r_icmp_eq (pc := 520) 1311 dL_law_520 (by decide) (fun h78 => ?_) (fun h78 => ?_)
        · refine r_iinc (pc := 1311) 3 [(3, .int (v3 + (6 : Int32))), (0, .ref b), (1, .ref (ad en 0 0 0)), (2, .ref (ad en 21 0 0))] dL_law_1311 rfl rfl (by decide) rfl ?_
          refine r_goto (pc := 1314) 18 dL_law_1314 (by decide) ?_
          exact r_sub [1, 2, 3, 0] rfl (ih (v3 + (6 : Int32)) w18.2)
        · refine r_iconst (pc := 523) dL_law_523 kc_iconst_0 ?_
          exact r_zret (pc := 524) rfl rfl dL_law_524
      refine r_ite (fun h79 => ?_) (fun h79 => ?_)
      · refine r_tableIn (pc := 33) 525 dL_law_33 (by rw [h79]; decide) (by rw [h79]; decide) (by rw [h79]; rfl) (by decide) ?_
        refine r_aload_n (pc := 525) 1 dL_law_525 rfl rfl ?_
        refine r_aload_n (pc := 526) 0 dL_law_526 rfl rfl ?_
        refine r_iload_n (pc := 527) 3 dL_law_527 rfl rfl ?_
        refine r_iconst (pc := 528) dL_law_528 kc_iconst_1 ?_
        refine r_iadd (pc := 529) dL_law_529 ?_
        refine r_sld (pc := 530) dL_law_530 ?_
        refine k_X7_screen (pc := 531) lm_RL_53  (by decide) (Nat.le_of_ble_eq_true rfl) dL_law_531 (fun w19 h81 => ?_)
        refine r_aload_n (pc := 534) 2 dL_law_534 rfl rfl ?_
        refine r_aload_n (pc := 535) 0 dL_law_535 rfl rfl ?_
        refine r_iload_n (pc := 536) 3 dL_law_536 rfl rfl ?_
        refine r_iconst (pc := 537) dL_law_537 kc_iconst_1 ?_
        refine r_iadd (pc := 538) dL_law_538 ?_
        refine r_sld (pc := 539) dL_law_539 ?_
        refine k_X8_screen (pc := 540) lm_RL_56  (by decide) (Nat.le_of_ble_eq_true rfl) dL_law_540 (fun w20 h83 => ?_)
        refine r_icmp_eq (pc := 543) 1311 dL_law_543 (by decide) (fun h84 => ?_) (fun h84 => ?_)
        · refine r_iinc (pc := 1311) 3 [(3, .int (v3 + (6 : Int32))), (0, .ref b), (1, .ref (ad en 0 0 0)), (2, .ref (ad en 21 0 0))] dL_law_1311 rfl rfl (by decide) rfl ?_
          refine r_goto (pc := 1314) 18 dL_law_1314 (by decide) ?_
          exact r_sub [1, 2, 3, 0] rfl (ih (v3 + (6 : Int32)) w20.2)
        · refine r_iconst (pc := 546) dL_law_546 kc_iconst_0 ?_
          exact r_zret (pc := 547) rfl rfl dL_law_547
      refine r_ite (fun h85 => ?_) (fun h85 => ?_)
      · refine r_tableIn (pc := 33) 548 dL_law_33 (by rw [h85]; decide) (by rw [h85]; decide) (by rw [h85]; rfl) (by decide) ?_
        refine r_aload_n (pc := 548) 1 dL_law_548 rfl rfl ?_
        refine r_aload_n (pc := 549) 0 dL_law_549 rfl rfl ?_
        refine r_iload_n (pc := 550) 3 dL_law_550 rfl rfl ?_
        refine r_iconst (pc := 551) dL_law_551 kc_iconst_1 ?_
        refine r_iadd (pc := 552) dL_law_552 ?_
        refine r_sld (pc := 553) dL_law_553 ?_
        refine r_aload_n (pc := 554) 0 dL_law_554 rfl rfl ?_
        refine r_iload_n (pc := 555) 3 dL_law_555 rfl rfl ?_
        refine r_iconst (pc := 556) dL_law_556 kc_iconst_2 ?_
        refine r_iadd (pc := 557) dL_law_557 ?_
        refine r_sld (pc := 558) dL_law_558 ?_
        refine k_X7_pane (pc := 559) lm_RL_57  (by decide) (Nat.le_of_ble_eq_true rfl) dL_law_559 (fun w21 h88 => ?_)
        refine r_aload_n (pc := 562) 2 dL_law_562 rfl rfl ?_
        refine r_aload_n (pc := 563) 0 dL_law_563 rfl rfl ?_
        refine r_iload_n (pc := 564) 3 dL_law_564 rfl rfl ?_
        refine r_iconst (pc := 565) dL_law_565 kc_iconst_1 ?_
        refine r_iadd (pc := 566) dL_law_566 ?_
        refine r_sld (pc := 567) dL_law_567 ?_
        refine r_aload_n (pc := 568) 0 dL_law_568 rfl rfl ?_
        refine r_iload_n (pc := 569) 3 dL_law_569 rfl rfl ?_
        refine r_iconst (pc := 570) dL_law_570 kc_iconst_2 ?_
        refine r_iadd (pc := 571) dL_law_571 ?_
        refine r_sld (pc := 572) dL_law_572 ?_
        refine k_X8_pane (pc := 573) lm_RL_60  (by decide) (Nat.le_of_ble_eq_true rfl) dL_law_573 (fun w22 h91 => ?_)
        refine r_icmp_eq (pc := 576) 1311 dL_law_576 (by decide) (fun h92 => ?_) (fun h92 => ?_)
        · refine r_iinc (pc := 1311) 3 [(3, .int (v3 + (6 : Int32))), (0, .ref b), (1, .ref (ad en 0 0 0)), (2, .ref (ad en 21 0 0))] dL_law_1311 rfl rfl (by decide) rfl ?_
          refine r_goto (pc := 1314) 18 dL_law_1314 (by decide) ?_
          exact r_sub [1, 2, 3, 0] rfl (ih (v3 + (6 : Int32)) w22.2)
        · refine r_iconst (pc := 579) dL_law_579 kc_iconst_0 ?_
          exact r_zret (pc := 580) rfl rfl dL_law_580
      refine r_ite (fun h93 => ?_) (fun h93 => ?_)
      · refine r_tableIn (pc := 33) 581 dL_law_33 (by rw [h93]; decide) (by rw [h93]; decide) (by rw [h93]; rfl) (by decide) ?_
        refine r_aload_n (pc := 581) 1 dL_law_581 rfl rfl ?_
        refine r_aload_n (pc := 582) 0 dL_law_582 rfl rfl ?_
        refine r_iload_n (pc := 583) 3 dL_law_583 rfl rfl ?_
        refine r_iconst (pc := 584) dL_law_584 kc_iconst_1 ?_
        refine r_iadd (pc := 585) dL_law_585 ?_
        refine r_sld (pc := 586) dL_law_586 ?_
        refine r_aload_n (pc := 587) 0 dL_law_587 rfl rfl ?_
        refine r_iload_n (pc := 588) 3 dL_law_588 rfl rfl ?_
        refine r_iconst (pc := 589) dL_law_589 kc_iconst_2 ?_
        refine r_iadd (pc := 590) dL_law_590 ?_
        refine r_sld (pc := 591) dL_law_591 ?_
        refine k_X7_mark (pc := 592) lm_RL_61  (by decide) (Nat.le_of_ble_eq_true rfl) dL_law_592 (fun w23 h96 => ?_)
        refine r_aload_n (pc := 595) 2 dL_law_595 rfl rfl ?_
        refine r_aload_n (pc := 596) 0 dL_law_596 rfl rfl ?_
        refine r_iload_n (pc := 597) 3 dL_law_597 rfl rfl ?_
        refine r_iconst (pc := 598) dL_law_598 kc_iconst_1 ?_
        refine r_iadd (pc := 599) dL_law_599 ?_
        refine r_sld (pc := 600) dL_law_600 ?_
        refine r_aload_n (pc := 601) 0 dL_law_601 rfl rfl ?_
        refine r_iload_n (pc := 602) 3 dL_law_602 rfl rfl ?_
        refine r_iconst (pc := 603) dL_law_603 kc_iconst_2 ?_
        refine r_iadd (pc := 604) dL_law_604 ?_
        refine r_sld (pc := 605) dL_law_605 ?_
        refine k_X8_mark (pc := 606) lm_RL_64  (by decide) (Nat.le_of_ble_eq_true rfl) dL_law_606 (fun w24 h99 => ?_)
        refine r_icmp_eq (pc := 609) 1311 dL_law_609 (by decide) (fun h100 => ?_) (fun h100 => ?_)
        · refine r_iinc (pc := 1311) 3 [(3, .int (v3 + (6 : Int32))), (0, .ref b), (1, .ref (ad en 0 0 0)), (2, .ref (ad en 21 0 0))] dL_law_1311 rfl rfl (by decide) rfl ?_
          refine r_goto (pc := 1314) 18 dL_law_1314 (by decide) ?_
          exact r_sub [1, 2, 3, 0] rfl (ih (v3 + (6 : Int32)) w24.2)
        · refine r_iconst (pc := 612) dL_law_612 kc_iconst_0 ?_
          exact r_zret (pc := 613) rfl rfl dL_law_613
      refine r_ite (fun h101 => ?_) (fun h101 => ?_)
      · refine r_tableIn (pc := 33) 614 dL_law_33 (by rw [h101]; decide) (by rw [h101]; decide) (by rw [h101]; rfl) (by decide) ?_
        refine r_aload_n (pc := 614) 1 dL_law_614 rfl rfl ?_
        refine r_aload_n (pc := 615) 0 dL_law_615 rfl rfl ?_
        refine r_iload_n (pc := 616) 3 dL_law_616 rfl rfl ?_
        refine r_iconst (pc := 617) dL_law_617 kc_iconst_1 ?_
        refine r_iadd (pc := 618) dL_law_618 ?_
        refine r_sld (pc := 619) dL_law_619 ?_
        refine r_aload_n (pc := 620) 0 dL_law_620 rfl rfl ?_
        refine r_iload_n (pc := 621) 3 dL_law_621 rfl rfl ?_
        refine r_iconst (pc := 622) dL_law_622 kc_iconst_2 ?_
        refine r_iadd (pc := 623) dL_law_623 ?_
        refine r_sld (pc := 624) dL_law_624 ?_
        refine k_X7_covers (pc := 625) lm_RL_65  (by decide) (Nat.le_of_ble_eq_true rfl) dL_law_625 (fun w25 h104 => ?_)
        refine r_aload_n (pc := 628) 2 dL_law_628 rfl rfl ?_
        refine r_aload_n (pc := 629) 0 dL_law_629 rfl rfl ?_
        refine r_iload_n (pc := 630) 3 dL_law_630 rfl rfl ?_
        refine r_iconst (pc := 631) dL_law_631 kc_iconst_1 ?_
        refine r_iadd (pc := 632) dL_law_632 ?_
        refine r_sld (pc := 633) dL_law_633 ?_
        refine r_aload_n (pc := 634) 0 dL_law_634 rfl rfl ?_
        refine r_iload_n (pc := 635) 3 dL_law_635 rfl rfl ?_
        refine r_iconst (pc := 636) dL_law_636 kc_iconst_2 ?_
        refine r_iadd (pc := 637) dL_law_637 ?_
        refine r_sld (pc := 638) dL_law_638 ?_
        refine k_X8_covers (pc := 639) lm_RL_68  (by decide) (Nat.le_of_ble_eq_true rfl) dL_law_639 (fun w26 h107 => ?_)
        refine r_icmp_eq (pc := 642) 1311 dL_law_642 (by decide) (fun h108 => ?_) (fun h108 => ?_)
        · refine r_iinc (pc := 1311) 3 [(3, .int (v3 + (6 : Int32))), (0, .ref b), (1, .ref (ad en 0 0 0)), (2, .ref (ad en 21 0 0))] dL_law_1311 rfl rfl (by decide) rfl ?_
          refine r_goto (pc := 1314) 18 dL_law_1314 (by decide) ?_
          exact r_sub [1, 2, 3, 0] rfl (ih (v3 + (6 : Int32)) w26.2)
        · refine r_iconst (pc := 645) dL_law_645 kc_iconst_0 ?_
          exact r_zret (pc := 646) rfl rfl dL_law_646
      refine r_ite (fun h109 => ?_) (fun h109 => ?_)
      · refine r_tableIn (pc := 33) 647 dL_law_33 (by rw [h109]; decide) (by rw [h109]; decide) (by rw [h109]; rfl) (by decide) ?_
        refine r_aload_n (pc := 647) 1 dL_law_647 rfl rfl ?_
        refine r_aload_n (pc := 648) 0 dL_law_648 rfl rfl ?_
        refine r_iload_n (pc := 649) 3 dL_law_649 rfl rfl ?_
        refine r_iconst (pc := 650) dL_law_650 kc_iconst_1 ?_
        refine r_iadd (pc := 651) dL_law_651 ?_
        refine r_sld (pc := 652) dL_law_652 ?_
        refine k_X7_raise (pc := 653) lm_RL_69  (by decide) (Nat.le_of_ble_eq_true rfl) dL_law_653 (fun w27 h111 => ?_)
        refine r_aload_n (pc := 656) 2 dL_law_656 rfl rfl ?_
        refine r_aload_n (pc := 657) 0 dL_law_657 rfl rfl ?_
        refine r_iload_n (pc := 658) 3 dL_law_658 rfl rfl ?_
        refine r_iconst (pc := 659) dL_law_659 kc_iconst_1 ?_
        refine r_iadd (pc := 660) dL_law_660 ?_
        refine r_sld (pc := 661) dL_law_661 ?_
        refine k_X8_raise (pc := 662) lm_RL_72  (by decide) (Nat.le_of_ble_eq_true rfl) dL_law_662 (fun w28 h113 => ?_)
        refine r_icmp_eq (pc := 665) 1311 dL_law_665 (by decide) (fun h114 => ?_) (fun h114 => ?_)
        · refine r_iinc (pc := 1311) 3 [(3, .int (v3 + (6 : Int32))), (0, .ref b), (1, .ref (ad en 0 0 0)), (2, .ref (ad en 21 0 0))] dL_law_1311 rfl rfl (by decide) rfl ?_
          refine r_goto (pc := 1314) 18 dL_law_1314 (by decide) ?_
          exact r_sub [1, 2, 3, 0] rfl (ih (v3 + (6 : Int32)) w28.2)
        · refine r_iconst (pc := 668) dL_law_668 kc_iconst_0 ?_
          exact r_zret (pc := 669) rfl rfl dL_law_669
      refine r_ite (fun h115 => ?_) (fun h115 => ?_)
      · refine r_tableIn (pc := 33) 670 dL_law_33 (by rw [h115]; decide) (by rw [h115]; decide) (by rw [h115]; rfl) (by decide) ?_
        refine r_aload_n (pc := 670) 1 dL_law_670 rfl rfl ?_
        refine r_aload_n (pc := 671) 0 dL_law_671 rfl rfl ?_
        refine r_iload_n (pc := 672) 3 dL_law_672 rfl rfl ?_
        refine r_iconst (pc := 673) dL_law_673 kc_iconst_1 ?_
        refine r_iadd (pc := 674) dL_law_674 ?_
        refine r_sld (pc := 675) dL_law_675 ?_
        refine k_X7_sink (pc := 676) lm_RL_73  (by decide) (Nat.le_of_ble_eq_true rfl) dL_law_676 (fun w29 h117 => ?_)
        refine r_aload_n (pc := 679) 2 dL_law_679 rfl rfl ?_
        refine r_aload_n (pc := 680) 0 dL_law_680 rfl rfl ?_
        refine r_iload_n (pc := 681) 3 dL_law_681 rfl rfl ?_
        refine r_iconst (pc := 682) dL_law_682 kc_iconst_1 ?_
        refine r_iadd (pc := 683) dL_law_683 ?_
        refine r_sld (pc := 684) dL_law_684 ?_
        refine k_X8_sink (pc := 685) lm_RL_76  (by decide) (Nat.le_of_ble_eq_true rfl) dL_law_685 (fun w30 h119 => ?_)
        refine r_icmp_eq (pc := 688) 1311 dL_law_688 (by decide) (fun h120 => ?_) (fun h120 => ?_)
        · refine r_iinc (pc := 1311) 3 [(3, .int (v3 + (6 : Int32))), (0, .ref b), (1, .ref (ad en 0 0 0)), (2, .ref (ad en 21 0 0))] dL_law_1311 rfl rfl (by decide) rfl ?_
          refine r_goto (pc := 1314) 18 dL_law_1314 (by decide) ?_
          exact r_sub [1, 2, 3, 0] rfl (ih (v3 + (6 : Int32)) w30.2)
        · refine r_iconst (pc := 691) dL_law_691 kc_iconst_0 ?_
          exact r_zret (pc := 692) rfl rfl dL_law_692
      refine r_ite (fun h121 => ?_) (fun h121 => ?_)
      · refine r_tableIn (pc := 33) 693 dL_law_33 (by rw [h121]; decide) (by rw [h121]; decide) (by rw [h121]; rfl) (by decide) ?_
        refine r_aload_n (pc := 693) 1 dL_law_693 rfl rfl ?_
        refine r_aload_n (pc := 694) 0 dL_law_694 rfl rfl ?_
        refine r_iload_n (pc := 695) 3 dL_law_695 rfl rfl ?_
        refine r_iconst (pc := 696) dL_law_696 kc_iconst_1 ?_
        refine r_iadd (pc := 697) dL_law_697 ?_
        refine r_sld (pc := 698) dL_law_698 ?_
        refine r_aload_n (pc := 699) 0 dL_law_699 rfl rfl ?_
        refine r_iload_n (pc := 700) 3 dL_law_700 rfl rfl ?_
        refine r_iconst (pc := 701) dL_law_701 kc_iconst_2 ?_
        refine r_iadd (pc := 702) dL_law_702 ?_
        refine r_sld (pc := 703) dL_law_703 ?_
        refine r_aload_n (pc := 704) 0 dL_law_704 rfl rfl ?_
        refine r_iload_n (pc := 705) 3 dL_law_705 rfl rfl ?_
        refine r_iconst (pc := 706) dL_law_706 kc_iconst_3 ?_
        refine r_iadd (pc := 707) dL_law_707 ?_
        refine r_sld (pc := 708) dL_law_708 ?_
        refine k_X7_move (pc := 709) lm_RL_77  (by decide) (Nat.le_of_ble_eq_true rfl) dL_law_709 (fun w31 h125 => ?_)
        refine r_aload_n (pc := 712) 2 dL_law_712 rfl rfl ?_
        refine r_aload_n (pc := 713) 0 dL_law_713 rfl rfl ?_
        refine r_iload_n (pc := 714) 3 dL_law_714 rfl rfl ?_
        refine r_iconst (pc := 715) dL_law_715 kc_iconst_1 ?_
        refine r_iadd (pc := 716) dL_law_716 ?_
        refine r_sld (pc := 717) dL_law_717 ?_
        refine r_aload_n (pc := 718) 0 dL_law_718 rfl rfl ?_
        refine r_iload_n (pc := 719) 3 dL_law_719 rfl rfl ?_
        refine r_iconst (pc := 720) dL_law_720 kc_iconst_2 ?_
        refine r_iadd (pc := 721) dL_law_721 ?_
        refine r_sld (pc := 722) dL_law_722 ?_
        refine r_aload_n (pc := 723) 0 dL_law_723 rfl rfl ?_
        refine r_iload_n (pc := 724) 3 dL_law_724 rfl rfl ?_
        refine r_iconst (pc := 725) dL_law_725 kc_iconst_3 ?_
        refine r_iadd (pc := 726) dL_law_726 ?_
        refine r_sld (pc := 727) dL_law_727 ?_
        refine k_X8_move (pc := 728) lm_RL_80  (by decide) (Nat.le_of_ble_eq_true rfl) dL_law_728 (fun w32 h129 => ?_)
        refine r_icmp_eq (pc := 731) 1311 dL_law_731 (by decide) (fun h130 => ?_) (fun h130 => ?_)
        · refine r_iinc (pc := 1311) 3 [(3, .int (v3 + (6 : Int32))), (0, .ref b), (1, .ref (ad en 0 0 0)), (2, .ref (ad en 21 0 0))] dL_law_1311 rfl rfl (by decide) rfl ?_
          refine r_goto (pc := 1314) 18 dL_law_1314 (by decide) ?_
          exact r_sub [1, 2, 3, 0] rfl (ih (v3 + (6 : Int32)) w32.2)
        · refine r_iconst (pc := 734) dL_law_734 kc_iconst_0 ?_
          exact r_zret (pc := 735) rfl rfl dL_law_735
      refine r_ite (fun h131 => ?_) (fun h131 => ?_)
      · refine r_tableIn (pc := 33) 736 dL_law_33 (by rw [h131]; decide) (by rw [h131]; decide) (by rw [h131]; rfl) (by decide) ?_
        refine r_aload_n (pc := 736) 1 dL_law_736 rfl rfl ?_
        refine r_aload_n (pc := 737) 0 dL_law_737 rfl rfl ?_
        refine r_iload_n (pc := 738) 3 dL_law_738 rfl rfl ?_
        refine r_iconst (pc := 739) dL_law_739 kc_iconst_1 ?_
        refine r_iadd (pc := 740) dL_law_740 ?_
        refine r_sld (pc := 741) dL_law_741 ?_
        refine k_X7_shut (pc := 742) lm_RL_81  (by decide) (Nat.le_of_ble_eq_true rfl) dL_law_742 (fun w33 h133 => ?_)
        refine r_aload_n (pc := 745) 2 dL_law_745 rfl rfl ?_
        refine r_aload_n (pc := 746) 0 dL_law_746 rfl rfl ?_
        refine r_iload_n (pc := 747) 3 dL_law_747 rfl rfl ?_
        refine r_iconst (pc := 748) dL_law_748 kc_iconst_1 ?_
        refine r_iadd (pc := 749) dL_law_749 ?_
        refine r_sld (pc := 750) dL_law_750 ?_
        refine k_X8_shut (pc := 751) lm_RL_84  (by decide) (Nat.le_of_ble_eq_true rfl) dL_law_751 (fun w34 h135 => ?_)
        refine r_icmp_eq (pc := 754) 1311 dL_law_754 (by decide) (fun h136 => ?_) (fun h136 => ?_)
        · refine r_iinc (pc := 1311) 3 [(3, .int (v3 + (6 : Int32))), (0, .ref b), (1, .ref (ad en 0 0 0)), (2, .ref (ad en 21 0 0))] dL_law_1311 rfl rfl (by decide) rfl ?_
          refine r_goto (pc := 1314) 18 dL_law_1314 (by decide) ?_
          exact r_sub [1, 2, 3, 0] rfl (ih (v3 + (6 : Int32)) w34.2)
        · refine r_iconst (pc := 757) dL_law_757 kc_iconst_0 ?_
          exact r_zret (pc := 758) rfl rfl dL_law_758
      refine r_ite (fun h137 => ?_) (fun h137 => ?_)
      · refine r_tableIn (pc := 33) 759 dL_law_33 (by rw [h137]; decide) (by rw [h137]; decide) (by rw [h137]; rfl) (by decide) ?_
        refine r_aload_n (pc := 759) 1 dL_law_759 rfl rfl ?_
        refine r_aload_n (pc := 760) 0 dL_law_760 rfl rfl ?_
        refine r_iload_n (pc := 761) 3 dL_law_761 rfl rfl ?_
        refine r_iconst (pc := 762) dL_law_762 kc_iconst_1 ?_
        refine r_iadd (pc := 763) dL_law_763 ?_
        refine r_sld (pc := 764) dL_law_764 ?_
        refine k_X7_undo (pc := 765) lm_RL_85  (by decide) (Nat.le_of_ble_eq_true rfl) dL_law_765 (fun w35 h139 => ?_)
        refine r_aload_n (pc := 768) 2 dL_law_768 rfl rfl ?_
        refine r_aload_n (pc := 769) 0 dL_law_769 rfl rfl ?_
        refine r_iload_n (pc := 770) 3 dL_law_770 rfl rfl ?_
        refine r_iconst (pc := 771) dL_law_771 kc_iconst_1 ?_
        refine r_iadd (pc := 772) dL_law_772 ?_
        refine r_sld (pc := 773) dL_law_773 ?_
        refine k_X8_undo (pc := 774) lm_RL_88  (by decide) (Nat.le_of_ble_eq_true rfl) dL_law_774 (fun w36 h141 => ?_)
        refine r_icmp_eq (pc := 777) 1311 dL_law_777 (by decide) (fun h142 => ?_) (fun h142 => ?_)
        · refine r_iinc (pc := 1311) 3 [(3, .int (v3 + (6 : Int32))), (0, .ref b), (1, .ref (ad en 0 0 0)), (2, .ref (ad en 21 0 0))] dL_law_1311 rfl rfl (by decide) rfl ?_
          refine r_goto (pc := 1314) 18 dL_law_1314 (by decide) ?_
          exact r_sub [1, 2, 3, 0] rfl (ih (v3 + (6 : Int32)) w36.2)
        · refine r_iconst (pc := 780) dL_law_780 kc_iconst_0 ?_
          exact r_zret (pc := 781) rfl rfl dL_law_781
      refine r_ite (fun h143 => ?_) (fun h143 => ?_)
      · refine r_tableIn (pc := 33) 782 dL_law_33 (by rw [h143]; decide) (by rw [h143]; decide) (by rw [h143]; rfl) (by decide) ?_
        refine r_aload_n (pc := 782) 1 dL_law_782 rfl rfl ?_
        refine r_aload_n (pc := 783) 0 dL_law_783 rfl rfl ?_
        refine r_iload_n (pc := 784) 3 dL_law_784 rfl rfl ?_
        refine r_iconst (pc := 785) dL_law_785 kc_iconst_1 ?_
        refine r_iadd (pc := 786) dL_law_786 ?_
        refine r_sld (pc := 787) dL_law_787 ?_
        refine k_X7_keep (pc := 788) lm_RL_89  (by decide) (Nat.le_of_ble_eq_true rfl) dL_law_788 (fun w37 h145 => ?_)
        refine r_aload_n (pc := 791) 2 dL_law_791 rfl rfl ?_
        refine r_aload_n (pc := 792) 0 dL_law_792 rfl rfl ?_
        refine r_iload_n (pc := 793) 3 dL_law_793 rfl rfl ?_
        refine r_iconst (pc := 794) dL_law_794 kc_iconst_1 ?_
        refine r_iadd (pc := 795) dL_law_795 ?_
        refine r_sld (pc := 796) dL_law_796 ?_
        refine k_X8_keep (pc := 797) lm_RL_92  (by decide) (Nat.le_of_ble_eq_true rfl) dL_law_797 (fun w38 h147 => ?_)
        refine r_icmp_eq (pc := 800) 1311 dL_law_800 (by decide) (fun h148 => ?_) (fun h148 => ?_)
        · refine r_iinc (pc := 1311) 3 [(3, .int (v3 + (6 : Int32))), (0, .ref b), (1, .ref (ad en 0 0 0)), (2, .ref (ad en 21 0 0))] dL_law_1311 rfl rfl (by decide) rfl ?_
          refine r_goto (pc := 1314) 18 dL_law_1314 (by decide) ?_
          exact r_sub [1, 2, 3, 0] rfl (ih (v3 + (6 : Int32)) w38.2)
        · refine r_iconst (pc := 803) dL_law_803 kc_iconst_0 ?_
          exact r_zret (pc := 804) rfl rfl dL_law_804
      refine r_ite (fun h149 => ?_) (fun h149 => ?_)
      · refine r_tableIn (pc := 33) 805 dL_law_33 (by rw [h149]; decide) (by rw [h149]; decide) (by rw [h149]; rfl) (by decide) ?_
        refine r_aload_n (pc := 805) 1 dL_law_805 rfl rfl ?_
        refine r_aload_n (pc := 806) 0 dL_law_806 rfl rfl ?_
        refine r_iload_n (pc := 807) 3 dL_law_807 rfl rfl ?_
        refine r_iconst (pc := 808) dL_law_808 kc_iconst_1 ?_
        refine r_iadd (pc := 809) dL_law_809 ?_
        refine r_sld (pc := 810) dL_law_810 ?_
        refine k_X7_on (pc := 811) lm_RL_93  (by decide) (Nat.le_of_ble_eq_true rfl) dL_law_811 (fun w39 h151 => ?_)
        refine r_aload_n (pc := 814) 2 dL_law_814 rfl rfl ?_
        refine r_aload_n (pc := 815) 0 dL_law_815 rfl rfl ?_
        refine r_iload_n (pc := 816) 3 dL_law_816 rfl rfl ?_
        refine r_iconst (pc := 817) dL_law_817 kc_iconst_1 ?_
        refine r_iadd (pc := 818) dL_law_818 ?_
        refine r_sld (pc := 819) dL_law_819 ?_
        refine k_X8_on (pc := 820) lm_RL_96  (by decide) (Nat.le_of_ble_eq_true rfl) dL_law_820 (fun w40 h153 => ?_)
        refine r_icmp_eq (pc := 823) 1311 dL_law_823 (by decide) (fun h154 => ?_) (fun h154 => ?_)
        · refine r_iinc (pc := 1311) 3 [(3, .int (v3 + (6 : Int32))), (0, .ref b), (1, .ref (ad en 0 0 0)), (2, .ref (ad en 21 0 0))] dL_law_1311 rfl rfl (by decide) rfl ?_
          refine r_goto (pc := 1314) 18 dL_law_1314 (by decide) ?_
          exact r_sub [1, 2, 3, 0] rfl (ih (v3 + (6 : Int32)) w40.2)
        · refine r_iconst (pc := 826) dL_law_826 kc_iconst_0 ?_
          exact r_zret (pc := 827) rfl rfl dL_law_827
      refine r_ite (fun h155 => ?_) (fun h155 => ?_)
      · refine r_tableIn (pc := 33) 828 dL_law_33 (by rw [h155]; decide) (by rw [h155]; decide) (by rw [h155]; rfl) (by decide) ?_
        refine r_aload_n (pc := 828) 1 dL_law_828 rfl rfl ?_
        refine r_aload_n (pc := 829) 0 dL_law_829 rfl rfl ?_
        refine r_iload_n (pc := 830) 3 dL_law_830 rfl rfl ?_
        refine r_iconst (pc := 831) dL_law_831 kc_iconst_1 ?_
        refine r_iadd (pc := 832) dL_law_832 ?_
        refine r_sld (pc := 833) dL_law_833 ?_
        refine k_X7_seen (pc := 834) lm_RL_97  (by decide) (Nat.le_of_ble_eq_true rfl) dL_law_834 (fun w41 h157 => ?_)
        refine r_aload_n (pc := 837) 2 dL_law_837 rfl rfl ?_
        refine r_aload_n (pc := 838) 0 dL_law_838 rfl rfl ?_
        refine r_iload_n (pc := 839) 3 dL_law_839 rfl rfl ?_
        refine r_iconst (pc := 840) dL_law_840 kc_iconst_1 ?_
        refine r_iadd (pc := 841) dL_law_841 ?_
        refine r_sld (pc := 842) dL_law_842 ?_
        refine k_X8_seen (pc := 843) lm_RL_100  (by decide) (Nat.le_of_ble_eq_true rfl) dL_law_843 (fun w42 h159 => ?_)
        refine r_icmp_eq (pc := 846) 1311 dL_law_846 (by decide) (fun h160 => ?_) (fun h160 => ?_)
        · refine r_iinc (pc := 1311) 3 [(3, .int (v3 + (6 : Int32))), (0, .ref b), (1, .ref (ad en 0 0 0)), (2, .ref (ad en 21 0 0))] dL_law_1311 rfl rfl (by decide) rfl ?_
          refine r_goto (pc := 1314) 18 dL_law_1314 (by decide) ?_
          exact r_sub [1, 2, 3, 0] rfl (ih (v3 + (6 : Int32)) w42.2)
        · refine r_iconst (pc := 849) dL_law_849 kc_iconst_0 ?_
          exact r_zret (pc := 850) rfl rfl dL_law_850
      refine r_ite (fun h161 => ?_) (fun h161 => ?_)
      · refine r_tableIn (pc := 33) 851 dL_law_33 (by rw [h161]; decide) (by rw [h161]; decide) (by rw [h161]; rfl) (by decide) ?_
        refine r_aload_n (pc := 851) 1 dL_law_851 rfl rfl ?_
        refine k_X7_buried (pc := 852) lm_RL_101  (by decide) (Nat.le_of_ble_eq_true rfl) dL_law_852 (fun w43 h162 => ?_)
        refine r_aload_n (pc := 855) 2 dL_law_855 rfl rfl ?_
        refine k_X8_buried (pc := 856) lm_RL_105  (by decide) (Nat.le_of_ble_eq_true rfl) dL_law_856 (fun w44 h163 => ?_)
        refine r_icmp_eq (pc := 859) 1311 dL_law_859 (by decide) (fun h164 => ?_) (fun h164 => ?_)
        · refine r_iinc (pc := 1311) 3 [(3, .int (v3 + (6 : Int32))), (0, .ref b), (1, .ref (ad en 0 0 0)), (2, .ref (ad en 21 0 0))] dL_law_1311 rfl rfl (by decide) rfl ?_
          refine r_goto (pc := 1314) 18 dL_law_1314 (by decide) ?_
          exact r_sub [1, 2, 3, 0] rfl (ih (v3 + (6 : Int32)) w44.2)
        · refine r_iconst (pc := 862) dL_law_862 kc_iconst_0 ?_
          exact r_zret (pc := 863) rfl rfl dL_law_863
      refine r_ite (fun h165 => ?_) (fun h165 => ?_)
      · refine r_tableIn (pc := 33) 864 dL_law_33 (by rw [h165]; decide) (by rw [h165]; decide) (by rw [h165]; rfl) (by decide) ?_
        refine r_aload_n (pc := 864) 1 dL_law_864 rfl rfl ?_
        refine r_aload_n (pc := 865) 0 dL_law_865 rfl rfl ?_
        refine r_iload_n (pc := 866) 3 dL_law_866 rfl rfl ?_
        refine r_iconst (pc := 867) dL_law_867 kc_iconst_1 ?_
        refine r_iadd (pc := 868) dL_law_868 ?_
        refine r_sld (pc := 869) dL_law_869 ?_
        refine r_aload_n (pc := 870) 0 dL_law_870 rfl rfl ?_
        refine r_iload_n (pc := 871) 3 dL_law_871 rfl rfl ?_
        refine r_iconst (pc := 872) dL_law_872 kc_iconst_2 ?_
        refine r_iadd (pc := 873) dL_law_873 ?_
        refine r_sld (pc := 874) dL_law_874 ?_
        refine k_X7_both (pc := 875) lm_RL_106  (by decide) (Nat.le_of_ble_eq_true rfl) dL_law_875 (fun w45 h168 => ?_)
        refine r_aload_n (pc := 878) 2 dL_law_878 rfl rfl ?_
        refine r_aload_n (pc := 879) 0 dL_law_879 rfl rfl ?_
        refine r_iload_n (pc := 880) 3 dL_law_880 rfl rfl ?_
        refine r_iconst (pc := 881) dL_law_881 kc_iconst_1 ?_
        refine r_iadd (pc := 882) dL_law_882 ?_
        refine r_sld (pc := 883) dL_law_883 ?_
        refine r_aload_n (pc := 884) 0 dL_law_884 rfl rfl ?_
        refine r_iload_n (pc := 885) 3 dL_law_885 rfl rfl ?_
        refine r_iconst (pc := 886) dL_law_886 kc_iconst_2 ?_
        refine r_iadd (pc := 887) dL_law_887 ?_
        refine r_sld (pc := 888) dL_law_888 ?_
        refine k_X8_both (pc := 889) lm_RL_109  (by decide) (Nat.le_of_ble_eq_true rfl) dL_law_889 (fun w46 h171 => ?_)
        refine r_icmp_eq (pc := 892) 1311 dL_law_892 (by decide) (fun h172 => ?_) (fun h172 => ?_)
        · refine r_iinc (pc := 1311) 3 [(3, .int (v3 + (6 : Int32))), (0, .ref b), (1, .ref (ad en 0 0 0)), (2, .ref (ad en 21 0 0))] dL_law_1311 rfl rfl (by decide) rfl ?_
          refine r_goto (pc := 1314) 18 dL_law_1314 (by decide) ?_
          exact r_sub [1, 2, 3, 0] rfl (ih (v3 + (6 : Int32)) w46.2)
        · refine r_iconst (pc := 895) dL_law_895 kc_iconst_0 ?_
          exact r_zret (pc := 896) rfl rfl dL_law_896
      refine r_ite (fun h173 => ?_) (fun h173 => ?_)
      · refine r_tableIn (pc := 33) 897 dL_law_33 (by rw [h173]; decide) (by rw [h173]; decide) (by rw [h173]; rfl) (by decide) ?_
        refine r_aload_n (pc := 897) 1 dL_law_897 rfl rfl ?_
        refine r_aload_n (pc := 898) 0 dL_law_898 rfl rfl ?_
        refine r_iload_n (pc := 899) 3 dL_law_899 rfl rfl ?_
        refine r_iconst (pc := 900) dL_law_900 kc_iconst_1 ?_
        refine r_iadd (pc := 901) dL_law_901 ?_
        refine r_sld (pc := 902) dL_law_902 ?_
        refine k_X7_free (pc := 903) lm_RL_110  (by decide) (Nat.le_of_ble_eq_true rfl) dL_law_903 (fun w47 h175 => ?_)
        refine r_aload_n (pc := 906) 2 dL_law_906 rfl rfl ?_
        refine r_aload_n (pc := 907) 0 dL_law_907 rfl rfl ?_
        refine r_iload_n (pc := 908) 3 dL_law_908 rfl rfl ?_
        refine r_iconst (pc := 909) dL_law_909 kc_iconst_1 ?_
        refine r_iadd (pc := 910) dL_law_910 ?_
        refine r_sld (pc := 911) dL_law_911 ?_
        refine k_X8_free (pc := 912) lm_RL_113  (by decide) (Nat.le_of_ble_eq_true rfl) dL_law_912 (fun w48 h177 => ?_)
        refine r_icmp_eq (pc := 915) 1311 dL_law_915 (by decide) (fun h178 => ?_) (fun h178 => ?_)
        · refine r_iinc (pc := 1311) 3 [(3, .int (v3 + (6 : Int32))), (0, .ref b), (1, .ref (ad en 0 0 0)), (2, .ref (ad en 21 0 0))] dL_law_1311 rfl rfl (by decide) rfl ?_
          refine r_goto (pc := 1314) 18 dL_law_1314 (by decide) ?_
          exact r_sub [1, 2, 3, 0] rfl (ih (v3 + (6 : Int32)) w48.2)
        · refine r_iconst (pc := 918) dL_law_918 kc_iconst_0 ?_
          exact r_zret (pc := 919) rfl rfl dL_law_919
      refine r_ite (fun h179 => ?_) (fun h179 => ?_)
      · refine r_tableIn (pc := 33) 920 dL_law_33 (by rw [h179]; decide) (by rw [h179]; decide) (by rw [h179]; rfl) (by decide) ?_
        refine r_aload_n (pc := 920) 1 dL_law_920 rfl rfl ?_
        refine r_aload_n (pc := 921) 0 dL_law_921 rfl rfl ?_
        refine r_iload_n (pc := 922) 3 dL_law_922 rfl rfl ?_
        refine r_iconst (pc := 923) dL_law_923 kc_iconst_1 ?_
        refine r_iadd (pc := 924) dL_law_924 ?_
        refine r_sld (pc := 925) dL_law_925 ?_
        refine k_X7_shift (pc := 926) lm_RL_114  (by decide) (Nat.le_of_ble_eq_true rfl) dL_law_926 (fun w49 h181 => ?_)
        refine r_aload_n (pc := 929) 2 dL_law_929 rfl rfl ?_
        refine r_aload_n (pc := 930) 0 dL_law_930 rfl rfl ?_
        refine r_iload_n (pc := 931) 3 dL_law_931 rfl rfl ?_
        refine r_iconst (pc := 932) dL_law_932 kc_iconst_1 ?_
        refine r_iadd (pc := 933) dL_law_933 ?_
        refine r_sld (pc := 934) dL_law_934 ?_
        refine k_X8_shift (pc := 935) lm_RL_117  (by decide) (Nat.le_of_ble_eq_true rfl) dL_law_935 (fun w50 h183 => ?_)
        refine r_icmp_eq (pc := 938) 1311 dL_law_938 (by decide) (fun h184 => ?_) (fun h184 => ?_)
        · refine r_iinc (pc := 1311) 3 [(3, .int (v3 + (6 : Int32))), (0, .ref b), (1, .ref (ad en 0 0 0)), (2, .ref (ad en 21 0 0))] dL_law_1311 rfl rfl (by decide) rfl ?_
          refine r_goto (pc := 1314) 18 dL_law_1314 (by decide) ?_
          exact r_sub [1, 2, 3, 0] rfl (ih (v3 + (6 : Int32)) w50.2)
        · refine r_iconst (pc := 941) dL_law_941 kc_iconst_0 ?_
          exact r_zret (pc := 942) rfl rfl dL_law_942
      refine r_ite (fun h185 => ?_) (fun h185 => ?_)
      · refine r_tableIn (pc := 33) 943 dL_law_33 (by rw [h185]; decide) (by rw [h185]; decide) (by rw [h185]; rfl) (by decide) ?_
        refine r_aload_n (pc := 943) 1 dL_law_943 rfl rfl ?_
        refine r_aload_n (pc := 944) 0 dL_law_944 rfl rfl ?_
        refine r_iload_n (pc := 945) 3 dL_law_945 rfl rfl ?_
        refine r_iconst (pc := 946) dL_law_946 kc_iconst_1 ?_
        refine r_iadd (pc := 947) dL_law_947 ?_
        refine r_sld (pc := 948) dL_law_948 ?_
        refine k_X7_order (pc := 949) lm_RL_118  (by decide) (Nat.le_of_ble_eq_true rfl) dL_law_949 (fun w51 h187 => ?_)
        refine r_aload_n (pc := 952) 2 dL_law_952 rfl rfl ?_
        refine r_aload_n (pc := 953) 0 dL_law_953 rfl rfl ?_
        refine r_iload_n (pc := 954) 3 dL_law_954 rfl rfl ?_
        refine r_iconst (pc := 955) dL_law_955 kc_iconst_1 ?_
        refine r_iadd (pc := 956) dL_law_956 ?_
        refine r_sld (pc := 957) dL_law_957 ?_
        refine k_X8_order (pc := 958) lm_RL_121  (by decide) (Nat.le_of_ble_eq_true rfl) dL_law_958 (fun w52 h189 => ?_)
        refine r_icmp_eq (pc := 961) 1311 dL_law_961 (by decide) (fun h190 => ?_) (fun h190 => ?_)
        · refine r_iinc (pc := 1311) 3 [(3, .int (v3 + (6 : Int32))), (0, .ref b), (1, .ref (ad en 0 0 0)), (2, .ref (ad en 21 0 0))] dL_law_1311 rfl rfl (by decide) rfl ?_
          refine r_goto (pc := 1314) 18 dL_law_1314 (by decide) ?_
          exact r_sub [1, 2, 3, 0] rfl (ih (v3 + (6 : Int32)) w52.2)
        · refine r_iconst (pc := 964) dL_law_964 kc_iconst_0 ?_
          exact r_zret (pc := 965) rfl rfl dL_law_965
      refine r_ite (fun h191 => ?_) (fun h191 => ?_)
      · refine r_tableIn (pc := 33) 966 dL_law_33 (by rw [h191]; decide) (by rw [h191]; decide) (by rw [h191]; rfl) (by decide) ?_
        refine r_aload_n (pc := 966) 1 dL_law_966 rfl rfl ?_
        refine r_aload_n (pc := 967) 0 dL_law_967 rfl rfl ?_
        refine r_iload_n (pc := 968) 3 dL_law_968 rfl rfl ?_
        refine r_iconst (pc := 969) dL_law_969 kc_iconst_1 ?_
        refine r_iadd (pc := 970) dL_law_970 ?_
        refine r_sld (pc := 971) dL_law_971 ?_
        refine r_aload_n (pc := 972) 0 dL_law_972 rfl rfl ?_
        refine r_iload_n (pc := 973) 3 dL_law_973 rfl rfl ?_
        refine r_iconst (pc := 974) dL_law_974 kc_iconst_2 ?_
        refine r_iadd (pc := 975) dL_law_975 ?_
        refine r_sld (pc := 976) dL_law_976 ?_
        refine k_X7_kinds (pc := 977) lm_RL_122  (by decide) (Nat.le_of_ble_eq_true rfl) dL_law_977 (fun w53 h194 => ?_)
        refine r_aload_n (pc := 980) 2 dL_law_980 rfl rfl ?_
        refine r_aload_n (pc := 981) 0 dL_law_981 rfl rfl ?_
        refine r_iload_n (pc := 982) 3 dL_law_982 rfl rfl ?_
        refine r_iconst (pc := 983) dL_law_983 kc_iconst_1 ?_
        refine r_iadd (pc := 984) dL_law_984 ?_
        refine r_sld (pc := 985) dL_law_985 ?_
        refine r_aload_n (pc := 986) 0 dL_law_986 rfl rfl ?_
        refine r_iload_n (pc := 987) 3 dL_law_987 rfl rfl ?_
        refine r_iconst (pc := 988) dL_law_988 kc_iconst_2 ?_
        refine r_iadd (pc := 989) dL_law_989 ?_
        refine r_sld (pc := 990) dL_law_990 ?_
        refine k_X8_kinds (pc := 991) lm_RL_125  (by decide) (Nat.le_of_ble_eq_true rfl) dL_law_991 (fun w54 h197 => ?_)
        refine r_icmp_eq (pc := 994) 1311 dL_law_994 (by decide) (fun h198 => ?_) (fun h198 => ?_)
        · refine r_iinc (pc := 1311) 3 [(3, .int (v3 + (6 : Int32))), (0, .ref b), (1, .ref (ad en 0 0 0)), (2, .ref (ad en 21 0 0))] dL_law_1311 rfl rfl (by decide) rfl ?_
          refine r_goto (pc := 1314) 18 dL_law_1314 (by decide) ?_
          exact r_sub [1, 2, 3, 0] rfl (ih (v3 + (6 : Int32)) w54.2)
        · refine r_iconst (pc := 997) dL_law_997 kc_iconst_0 ?_
          exact r_zret (pc := 998) rfl rfl dL_law_998
      refine r_ite (fun h199 => ?_) (fun h199 => ?_)
      · refine r_tableIn (pc := 33) 999 dL_law_33 (by rw [h199]; decide) (by rw [h199]; decide) (by rw [h199]; rfl) (by decide) ?_
        refine r_aload_n (pc := 999) 1 dL_law_999 rfl rfl ?_
        refine r_aload_n (pc := 1000) 0 dL_law_1000 rfl rfl ?_
        refine r_iload_n (pc := 1001) 3 dL_law_1001 rfl rfl ?_
        refine r_iconst (pc := 1002) dL_law_1002 kc_iconst_1 ?_
        refine r_iadd (pc := 1003) dL_law_1003 ?_
        refine r_sld (pc := 1004) dL_law_1004 ?_
        refine r_aload_n (pc := 1005) 0 dL_law_1005 rfl rfl ?_
        refine r_iload_n (pc := 1006) 3 dL_law_1006 rfl rfl ?_
        refine r_iconst (pc := 1007) dL_law_1007 kc_iconst_2 ?_
        refine r_iadd (pc := 1008) dL_law_1008 ?_
        refine r_sld (pc := 1009) dL_law_1009 ?_
        refine k_X7_places (pc := 1010) lm_RL_126  (by decide) (Nat.le_of_ble_eq_true rfl) dL_law_1010 (fun w55 h202 => ?_)
        refine r_aload_n (pc := 1013) 2 dL_law_1013 rfl rfl ?_
        refine r_aload_n (pc := 1014) 0 dL_law_1014 rfl rfl ?_
        refine r_iload_n (pc := 1015) 3 dL_law_1015 rfl rfl ?_
        refine r_iconst (pc := 1016) dL_law_1016 kc_iconst_1 ?_
        refine r_iadd (pc := 1017) dL_law_1017 ?_
        refine r_sld (pc := 1018) dL_law_1018 ?_
        refine r_aload_n (pc := 1019) 0 dL_law_1019 rfl rfl ?_
        refine r_iload_n (pc := 1020) 3 dL_law_1020 rfl rfl ?_
        refine r_iconst (pc := 1021) dL_law_1021 kc_iconst_2 ?_
        refine r_iadd (pc := 1022) dL_law_1022 ?_
        refine r_sld (pc := 1023) dL_law_1023 ?_
        refine k_X8_places (pc := 1024) lm_RL_129  (by decide) (Nat.le_of_ble_eq_true rfl) dL_law_1024 (fun w56 h205 => ?_)
        refine r_icmp_eq (pc := 1027) 1311 dL_law_1027 (by decide) (fun h206 => ?_) (fun h206 => ?_)
        · refine r_iinc (pc := 1311) 3 [(3, .int (v3 + (6 : Int32))), (0, .ref b), (1, .ref (ad en 0 0 0)), (2, .ref (ad en 21 0 0))] dL_law_1311 rfl rfl (by decide) rfl ?_
          refine r_goto (pc := 1314) 18 dL_law_1314 (by decide) ?_
          exact r_sub [1, 2, 3, 0] rfl (ih (v3 + (6 : Int32)) w56.2)
        · refine r_iconst (pc := 1030) dL_law_1030 kc_iconst_0 ?_
          exact r_zret (pc := 1031) rfl rfl dL_law_1031
      refine r_ite (fun h207 => ?_) (fun h207 => ?_)
      · refine r_tableIn (pc := 33) 1032 dL_law_33 (by rw [h207]; decide) (by rw [h207]; decide) (by rw [h207]; rfl) (by decide) ?_
        refine r_aload_n (pc := 1032) 1 dL_law_1032 rfl rfl ?_
        refine r_aload_n (pc := 1033) 0 dL_law_1033 rfl rfl ?_
        refine r_iload_n (pc := 1034) 3 dL_law_1034 rfl rfl ?_
        refine r_iconst (pc := 1035) dL_law_1035 kc_iconst_1 ?_
        refine r_iadd (pc := 1036) dL_law_1036 ?_
        refine r_sld (pc := 1037) dL_law_1037 ?_
        refine r_aload_n (pc := 1038) 0 dL_law_1038 rfl rfl ?_
        refine r_iload_n (pc := 1039) 3 dL_law_1039 rfl rfl ?_
        refine r_iconst (pc := 1040) dL_law_1040 kc_iconst_2 ?_
        refine r_iadd (pc := 1041) dL_law_1041 ?_
        refine r_sld (pc := 1042) dL_law_1042 ?_
        refine k_X7_test (pc := 1043) lm_RL_130  (by decide) (Nat.le_of_ble_eq_true rfl) dL_law_1043 (fun w57 h210 => ?_)
        refine r_aload_n (pc := 1046) 2 dL_law_1046 rfl rfl ?_
        refine r_aload_n (pc := 1047) 0 dL_law_1047 rfl rfl ?_
        refine r_iload_n (pc := 1048) 3 dL_law_1048 rfl rfl ?_
        refine r_iconst (pc := 1049) dL_law_1049 kc_iconst_1 ?_
        refine r_iadd (pc := 1050) dL_law_1050 ?_
        refine r_sld (pc := 1051) dL_law_1051 ?_
        refine r_aload_n (pc := 1052) 0 dL_law_1052 rfl rfl ?_
        refine r_iload_n (pc := 1053) 3 dL_law_1053 rfl rfl ?_
        refine r_iconst (pc := 1054) dL_law_1054 kc_iconst_2 ?_
        refine r_iadd (pc := 1055) dL_law_1055 ?_
        refine r_sld (pc := 1056) dL_law_1056 ?_
        refine k_X8_test (pc := 1057) lm_RL_133  (by decide) (Nat.le_of_ble_eq_true rfl) dL_law_1057 (fun w58 h213 => ?_)
        refine r_icmp_eq (pc := 1060) 1311 dL_law_1060 (by decide) (fun h214 => ?_) (fun h214 => ?_)
        · refine r_iinc (pc := 1311) 3 [(3, .int (v3 + (6 : Int32))), (0, .ref b), (1, .ref (ad en 0 0 0)), (2, .ref (ad en 21 0 0))] dL_law_1311 rfl rfl (by decide) rfl ?_
          refine r_goto (pc := 1314) 18 dL_law_1314 (by decide) ?_
          exact r_sub [1, 2, 3, 0] rfl (ih (v3 + (6 : Int32)) w58.2)
        · refine r_iconst (pc := 1063) dL_law_1063 kc_iconst_0 ?_
          exact r_zret (pc := 1064) rfl rfl dL_law_1064
      refine r_ite (fun h215 => ?_) (fun h215 => ?_)
      · refine r_tableIn (pc := 33) 1065 dL_law_33 (by rw [h215]; decide) (by rw [h215]; decide) (by rw [h215]; rfl) (by decide) ?_
        refine r_aload_n (pc := 1065) 1 dL_law_1065 rfl rfl ?_
        refine r_aload_n (pc := 1066) 0 dL_law_1066 rfl rfl ?_
        refine r_iload_n (pc := 1067) 3 dL_law_1067 rfl rfl ?_
        refine r_iconst (pc := 1068) dL_law_1068 kc_iconst_1 ?_
        refine r_iadd (pc := 1069) dL_law_1069 ?_
        refine r_sld (pc := 1070) dL_law_1070 ?_
        refine r_aload_n (pc := 1071) 0 dL_law_1071 rfl rfl ?_
        refine r_iload_n (pc := 1072) 3 dL_law_1072 rfl rfl ?_
        refine r_iconst (pc := 1073) dL_law_1073 kc_iconst_2 ?_
        refine r_iadd (pc := 1074) dL_law_1074 ?_
        refine r_sld (pc := 1075) dL_law_1075 ?_
        refine k_X7_duel (pc := 1076) lm_RL_134  (by decide) (Nat.le_of_ble_eq_true rfl) dL_law_1076 (fun w59 h218 => ?_)
        refine r_aload_n (pc := 1079) 2 dL_law_1079 rfl rfl ?_
        refine r_aload_n (pc := 1080) 0 dL_law_1080 rfl rfl ?_
        refine r_iload_n (pc := 1081) 3 dL_law_1081 rfl rfl ?_
        refine r_iconst (pc := 1082) dL_law_1082 kc_iconst_1 ?_
        refine r_iadd (pc := 1083) dL_law_1083 ?_
        refine r_sld (pc := 1084) dL_law_1084 ?_
        refine r_aload_n (pc := 1085) 0 dL_law_1085 rfl rfl ?_
        refine r_iload_n (pc := 1086) 3 dL_law_1086 rfl rfl ?_
        refine r_iconst (pc := 1087) dL_law_1087 kc_iconst_2 ?_
        refine r_iadd (pc := 1088) dL_law_1088 ?_
        refine r_sld (pc := 1089) dL_law_1089 ?_
        refine k_X8_duel (pc := 1090) lm_RL_137  (by decide) (Nat.le_of_ble_eq_true rfl) dL_law_1090 (fun w60 h221 => ?_)
        refine r_icmp_eq (pc := 1093) 1311 dL_law_1093 (by decide) (fun h222 => ?_) (fun h222 => ?_)
        · refine r_iinc (pc := 1311) 3 [(3, .int (v3 + (6 : Int32))), (0, .ref b), (1, .ref (ad en 0 0 0)), (2, .ref (ad en 21 0 0))] dL_law_1311 rfl rfl (by decide) rfl ?_
          refine r_goto (pc := 1314) 18 dL_law_1314 (by decide) ?_
          exact r_sub [1, 2, 3, 0] rfl (ih (v3 + (6 : Int32)) w60.2)
        · refine r_iconst (pc := 1096) dL_law_1096 kc_iconst_0 ?_
          exact r_zret (pc := 1097) rfl rfl dL_law_1097
      refine r_ite (fun h223 => ?_) (fun h223 => ?_)
      · refine r_tableIn (pc := 33) 1098 dL_law_33 (by rw [h223]; decide) (by rw [h223]; decide) (by rw [h223]; rfl) (by decide) ?_
        refine r_aload_n (pc := 1098) 1 dL_law_1098 rfl rfl ?_
        refine r_aload_n (pc := 1099) 0 dL_law_1099 rfl rfl ?_
        refine r_iload_n (pc := 1100) 3 dL_law_1100 rfl rfl ?_
        refine r_iconst (pc := 1101) dL_law_1101 kc_iconst_1 ?_
        refine r_iadd (pc := 1102) dL_law_1102 ?_
        refine r_sld (pc := 1103) dL_law_1103 ?_
        refine r_aload_n (pc := 1104) 0 dL_law_1104 rfl rfl ?_
        refine r_iload_n (pc := 1105) 3 dL_law_1105 rfl rfl ?_
        refine r_iconst (pc := 1106) dL_law_1106 kc_iconst_2 ?_
        refine r_iadd (pc := 1107) dL_law_1107 ?_
        refine r_sld (pc := 1108) dL_law_1108 ?_
        refine k_X7_odds (pc := 1109) lm_RL_138  (by decide) (Nat.le_of_ble_eq_true rfl) dL_law_1109 (fun w61 h226 => ?_)
        refine r_aload_n (pc := 1112) 2 dL_law_1112 rfl rfl ?_
        refine r_aload_n (pc := 1113) 0 dL_law_1113 rfl rfl ?_
        refine r_iload_n (pc := 1114) 3 dL_law_1114 rfl rfl ?_
        refine r_iconst (pc := 1115) dL_law_1115 kc_iconst_1 ?_
        refine r_iadd (pc := 1116) dL_law_1116 ?_
        refine r_sld (pc := 1117) dL_law_1117 ?_
        refine r_aload_n (pc := 1118) 0 dL_law_1118 rfl rfl ?_
        refine r_iload_n (pc := 1119) 3 dL_law_1119 rfl rfl ?_
        refine r_iconst (pc := 1120) dL_law_1120 kc_iconst_2 ?_
        refine r_iadd (pc := 1121) dL_law_1121 ?_
        refine r_sld (pc := 1122) dL_law_1122 ?_
        refine k_X8_odds (pc := 1123) lm_RL_141  (by decide) (Nat.le_of_ble_eq_true rfl) dL_law_1123 (fun w62 h229 => ?_)
        refine r_icmp_eq (pc := 1126) 1311 dL_law_1126 (by decide) (fun h230 => ?_) (fun h230 => ?_)
        · refine r_iinc (pc := 1311) 3 [(3, .int (v3 + (6 : Int32))), (0, .ref b), (1, .ref (ad en 0 0 0)), (2, .ref (ad en 21 0 0))] dL_law_1311 rfl rfl (by decide) rfl ?_
          refine r_goto (pc := 1314) 18 dL_law_1314 (by decide) ?_
          exact r_sub [1, 2, 3, 0] rfl (ih (v3 + (6 : Int32)) w62.2)
        · refine r_iconst (pc := 1129) dL_law_1129 kc_iconst_0 ?_
          exact r_zret (pc := 1130) rfl rfl dL_law_1130
      refine r_ite (fun h231 => ?_) (fun h231 => ?_)
      · refine r_tableIn (pc := 33) 1131 dL_law_33 (by rw [h231]; decide) (by rw [h231]; decide) (by rw [h231]; rfl) (by decide) ?_
        refine r_aload_n (pc := 1131) 1 dL_law_1131 rfl rfl ?_
        refine r_aload_n (pc := 1132) 0 dL_law_1132 rfl rfl ?_
        refine r_iload_n (pc := 1133) 3 dL_law_1133 rfl rfl ?_
        refine r_iconst (pc := 1134) dL_law_1134 kc_iconst_1 ?_
        refine r_iadd (pc := 1135) dL_law_1135 ?_
        refine r_sld (pc := 1136) dL_law_1136 ?_
        refine r_aload_n (pc := 1137) 0 dL_law_1137 rfl rfl ?_
        refine r_iload_n (pc := 1138) 3 dL_law_1138 rfl rfl ?_
        refine r_iconst (pc := 1139) dL_law_1139 kc_iconst_2 ?_
        refine r_iadd (pc := 1140) dL_law_1140 ?_
        refine r_sld (pc := 1141) dL_law_1141 ?_
        refine k_X7_mid (pc := 1142) lm_RL_142  (by decide) (Nat.le_of_ble_eq_true rfl) dL_law_1142 (fun w63 h234 => ?_)
        refine r_aload_n (pc := 1145) 2 dL_law_1145 rfl rfl ?_
        refine r_aload_n (pc := 1146) 0 dL_law_1146 rfl rfl ?_
        refine r_iload_n (pc := 1147) 3 dL_law_1147 rfl rfl ?_
        refine r_iconst (pc := 1148) dL_law_1148 kc_iconst_1 ?_
        refine r_iadd (pc := 1149) dL_law_1149 ?_
        refine r_sld (pc := 1150) dL_law_1150 ?_
        refine r_aload_n (pc := 1151) 0 dL_law_1151 rfl rfl ?_
        refine r_iload_n (pc := 1152) 3 dL_law_1152 rfl rfl ?_
        refine r_iconst (pc := 1153) dL_law_1153 kc_iconst_2 ?_
        refine r_iadd (pc := 1154) dL_law_1154 ?_
        refine r_sld (pc := 1155) dL_law_1155 ?_
        refine k_X8_mid (pc := 1156) lm_RL_145  (by decide) (Nat.le_of_ble_eq_true rfl) dL_law_1156 (fun w64 h237 => ?_)
        refine r_icmp_eq (pc := 1159) 1311 dL_law_1159 (by decide) (fun h238 => ?_) (fun h238 => ?_)
        · refine r_iinc (pc := 1311) 3 [(3, .int (v3 + (6 : Int32))), (0, .ref b), (1, .ref (ad en 0 0 0)), (2, .ref (ad en 21 0 0))] dL_law_1311 rfl rfl (by decide) rfl ?_
          refine r_goto (pc := 1314) 18 dL_law_1314 (by decide) ?_
          exact r_sub [1, 2, 3, 0] rfl (ih (v3 + (6 : Int32)) w64.2)
        · refine r_iconst (pc := 1162) dL_law_1162 kc_iconst_0 ?_
          exact r_zret (pc := 1163) rfl rfl dL_law_1163
      refine r_ite (fun h239 => ?_) (fun h239 => ?_)
      · refine r_tableIn (pc := 33) 1164 dL_law_33 (by rw [h239]; decide) (by rw [h239]; decide) (by rw [h239]; rfl) (by decide) ?_
        refine r_aload_n (pc := 1164) 1 dL_law_1164 rfl rfl ?_
        refine r_aload_n (pc := 1165) 0 dL_law_1165 rfl rfl ?_
        refine r_iload_n (pc := 1166) 3 dL_law_1166 rfl rfl ?_
        refine r_iconst (pc := 1167) dL_law_1167 kc_iconst_1 ?_
        refine r_iadd (pc := 1168) dL_law_1168 ?_
        refine r_sld (pc := 1169) dL_law_1169 ?_
        refine r_aload_n (pc := 1170) 0 dL_law_1170 rfl rfl ?_
        refine r_iload_n (pc := 1171) 3 dL_law_1171 rfl rfl ?_
        refine r_iconst (pc := 1172) dL_law_1172 kc_iconst_2 ?_
        refine r_iadd (pc := 1173) dL_law_1173 ?_
        refine r_sld (pc := 1174) dL_law_1174 ?_
        refine k_X7_lots (pc := 1175) lm_RL_146  (by decide) (Nat.le_of_ble_eq_true rfl) dL_law_1175 (fun w65 h242 => ?_)
        refine r_aload_n (pc := 1178) 2 dL_law_1178 rfl rfl ?_
        refine r_aload_n (pc := 1179) 0 dL_law_1179 rfl rfl ?_
        refine r_iload_n (pc := 1180) 3 dL_law_1180 rfl rfl ?_
        refine r_iconst (pc := 1181) dL_law_1181 kc_iconst_1 ?_
        refine r_iadd (pc := 1182) dL_law_1182 ?_
        refine r_sld (pc := 1183) dL_law_1183 ?_
        refine r_aload_n (pc := 1184) 0 dL_law_1184 rfl rfl ?_
        refine r_iload_n (pc := 1185) 3 dL_law_1185 rfl rfl ?_
        refine r_iconst (pc := 1186) dL_law_1186 kc_iconst_2 ?_
        refine r_iadd (pc := 1187) dL_law_1187 ?_
        refine r_sld (pc := 1188) dL_law_1188 ?_
        refine k_X8_lots (pc := 1189) lm_RL_149  (by decide) (Nat.le_of_ble_eq_true rfl) dL_law_1189 (fun w66 h245 => ?_)
        refine r_icmp_eq (pc := 1192) 1311 dL_law_1192 (by decide) (fun h246 => ?_) (fun h246 => ?_)
        · refine r_iinc (pc := 1311) 3 [(3, .int (v3 + (6 : Int32))), (0, .ref b), (1, .ref (ad en 0 0 0)), (2, .ref (ad en 21 0 0))] dL_law_1311 rfl rfl (by decide) rfl ?_
          refine r_goto (pc := 1314) 18 dL_law_1314 (by decide) ?_
          exact r_sub [1, 2, 3, 0] rfl (ih (v3 + (6 : Int32)) w66.2)
        · refine r_iconst (pc := 1195) dL_law_1195 kc_iconst_0 ?_
          exact r_zret (pc := 1196) rfl rfl dL_law_1196
      refine r_ite (fun h247 => ?_) (fun h247 => ?_)
      · refine r_tableIn (pc := 33) 1197 dL_law_33 (by rw [h247]; decide) (by rw [h247]; decide) (by rw [h247]; rfl) (by decide) ?_
        refine r_aload_n (pc := 1197) 1 dL_law_1197 rfl rfl ?_
        refine k_X7_asked (pc := 1198) lm_RL_150  (by decide) (Nat.le_of_ble_eq_true rfl) dL_law_1198 (fun w67 h248 => ?_)
        refine r_aload_n (pc := 1201) 2 dL_law_1201 rfl rfl ?_
        refine k_X8_asked (pc := 1202) lm_RL_153  (by decide) (Nat.le_of_ble_eq_true rfl) dL_law_1202 (fun w68 h249 => ?_)
        refine r_icmp_eq (pc := 1205) 1311 dL_law_1205 (by decide) (fun h250 => ?_) (fun h250 => ?_)
        · refine r_iinc (pc := 1311) 3 [(3, .int (v3 + (6 : Int32))), (0, .ref b), (1, .ref (ad en 0 0 0)), (2, .ref (ad en 21 0 0))] dL_law_1311 rfl rfl (by decide) rfl ?_
          refine r_goto (pc := 1314) 18 dL_law_1314 (by decide) ?_
          exact r_sub [1, 2, 3, 0] rfl (ih (v3 + (6 : Int32)) w68.2)
        · refine r_iconst (pc := 1208) dL_law_1208 kc_iconst_0 ?_
          exact r_zret (pc := 1209) rfl rfl dL_law_1209
      refine r_ite (fun h251 => ?_) (fun h251 => ?_)
      · refine r_tableIn (pc := 33) 1210 dL_law_33 (by rw [h251]; decide) (by rw [h251]; decide) (by rw [h251]; rfl) (by decide) ?_
        refine r_aload_n (pc := 1210) 1 dL_law_1210 rfl rfl ?_
        refine k_X7_upper (pc := 1211) lm_RL_154  (by decide) (Nat.le_of_ble_eq_true rfl) dL_law_1211 (fun w69 h252 => ?_)
        refine r_aload_n (pc := 1214) 2 dL_law_1214 rfl rfl ?_
        refine k_X8_upper (pc := 1215) lm_RL_158  (by decide) (Nat.le_of_ble_eq_true rfl) dL_law_1215 (fun w70 h253 => ?_)
        refine r_lcmp (pc := 1218) dL_law_1218 ?_
        refine r_if_eq (pc := 1219) 1311 dL_law_1219 (by decide) (fun h254 => ?_) (fun h254 => ?_)
        · refine r_iinc (pc := 1311) 3 [(3, .int (v3 + (6 : Int32))), (0, .ref b), (1, .ref (ad en 0 0 0)), (2, .ref (ad en 21 0 0))] dL_law_1311 rfl rfl (by decide) rfl ?_
          refine r_goto (pc := 1314) 18 dL_law_1314 (by decide) ?_
          exact r_sub [1, 2, 3, 0] rfl (ih (v3 + (6 : Int32)) w70.2)
        · refine r_iconst (pc := 1222) dL_law_1222 kc_iconst_0 ?_
          exact r_zret (pc := 1223) rfl rfl dL_law_1223
      refine r_ite (fun h255 => ?_) (fun h255 => ?_)
      · refine r_tableIn (pc := 33) 1224 dL_law_33 (by rw [h255]; decide) (by rw [h255]; decide) (by rw [h255]; rfl) (by decide) ?_
        refine r_aload_n (pc := 1224) 1 dL_law_1224 rfl rfl ?_
        refine k_X7_lower (pc := 1225) lm_RL_159  (by decide) (Nat.le_of_ble_eq_true rfl) dL_law_1225 (fun w71 h256 => ?_)
        refine r_aload_n (pc := 1228) 2 dL_law_1228 rfl rfl ?_
        refine k_X8_lower (pc := 1229) lm_RL_162  (by decide) (Nat.le_of_ble_eq_true rfl) dL_law_1229 (fun w72 h257 => ?_)
        refine r_lcmp (pc := 1232) dL_law_1232 ?_
        refine r_if_eq (pc := 1233) 1311 dL_law_1233 (by decide) (fun h258 => ?_) (fun h258 => ?_)
        · refine r_iinc (pc := 1311) 3 [(3, .int (v3 + (6 : Int32))), (0, .ref b), (1, .ref (ad en 0 0 0)), (2, .ref (ad en 21 0 0))] dL_law_1311 rfl rfl (by decide) rfl ?_
          refine r_goto (pc := 1314) 18 dL_law_1314 (by decide) ?_
          exact r_sub [1, 2, 3, 0] rfl (ih (v3 + (6 : Int32)) w72.2)
        · refine r_iconst (pc := 1236) dL_law_1236 kc_iconst_0 ?_
          exact r_zret (pc := 1237) rfl rfl dL_law_1237
      refine r_ite (fun h259 => ?_) (fun h259 => ?_)
      · refine r_tableIn (pc := 33) 1238 dL_law_33 (by rw [h259]; decide) (by rw [h259]; decide) (by rw [h259]; rfl) (by decide) ?_
        refine r_aload_n (pc := 1238) 1 dL_law_1238 rfl rfl ?_
        refine r_aload_n (pc := 1239) 0 dL_law_1239 rfl rfl ?_
        refine r_iload_n (pc := 1240) 3 dL_law_1240 rfl rfl ?_
        refine r_iconst (pc := 1241) dL_law_1241 kc_iconst_1 ?_
        refine r_iadd (pc := 1242) dL_law_1242 ?_
        refine r_sld (pc := 1243) dL_law_1243 ?_
        refine k_X7_count (pc := 1244) lm_RL_163  (by decide) (Nat.le_of_ble_eq_true rfl) dL_law_1244 (fun w73 h261 => ?_)
        refine r_aload_n (pc := 1247) 2 dL_law_1247 rfl rfl ?_
        refine r_aload_n (pc := 1248) 0 dL_law_1248 rfl rfl ?_
        refine r_iload_n (pc := 1249) 3 dL_law_1249 rfl rfl ?_
        refine r_iconst (pc := 1250) dL_law_1250 kc_iconst_1 ?_
        refine r_iadd (pc := 1251) dL_law_1251 ?_
        refine r_sld (pc := 1252) dL_law_1252 ?_
        refine k_X8_count (pc := 1253) lm_RL_166  (by decide) (Nat.le_of_ble_eq_true rfl) dL_law_1253 (fun w74 h263 => ?_)
        refine r_icmp_eq (pc := 1256) 1311 dL_law_1256 (by decide) (fun h264 => ?_) (fun h264 => ?_)
        · refine r_iinc (pc := 1311) 3 [(3, .int (v3 + (6 : Int32))), (0, .ref b), (1, .ref (ad en 0 0 0)), (2, .ref (ad en 21 0 0))] dL_law_1311 rfl rfl (by decide) rfl ?_
          refine r_goto (pc := 1314) 18 dL_law_1314 (by decide) ?_
          exact r_sub [1, 2, 3, 0] rfl (ih (v3 + (6 : Int32)) w74.2)
        · refine r_iconst (pc := 1259) dL_law_1259 kc_iconst_0 ?_
          exact r_zret (pc := 1260) rfl rfl dL_law_1260
      refine r_ite (fun h265 => ?_) (fun h265 => ?_)
      · refine r_tableIn (pc := 33) 1261 dL_law_33 (by rw [h265]; decide) (by rw [h265]; decide) (by rw [h265]; rfl) (by decide) ?_
        refine r_aload_n (pc := 1261) 1 dL_law_1261 rfl rfl ?_
        refine k_X7_finding (pc := 1262) lm_RL_167  (by decide) (Nat.le_of_ble_eq_true rfl) dL_law_1262 (fun w75 h266 => ?_)
        refine r_aload_n (pc := 1265) 2 dL_law_1265 rfl rfl ?_
        refine k_X8_finding (pc := 1266) lm_RL_170  (by decide) (Nat.le_of_ble_eq_true rfl) dL_law_1266 (fun w76 h267 => ?_)
        refine r_icmp_eq (pc := 1269) 1311 dL_law_1269 (by decide) (fun h268 => ?_) (fun h268 => ?_)
        · refine r_iinc (pc := 1311) 3 [(3, .int (v3 + (6 : Int32))), (0, .ref b), (1, .ref (ad en 0 0 0)), (2, .ref (ad en 21 0 0))] dL_law_1311 rfl rfl (by decide) rfl ?_
          refine r_goto (pc := 1314) 18 dL_law_1314 (by decide) ?_
          exact r_sub [1, 2, 3, 0] rfl (ih (v3 + (6 : Int32)) w76.2)
        · refine r_iconst (pc := 1272) dL_law_1272 kc_iconst_0 ?_
          exact r_zret (pc := 1273) rfl rfl dL_law_1273
      refine r_ite (fun h269 => ?_) (fun h269 => ?_)
      · refine r_tableIn (pc := 33) 1274 dL_law_33 (by rw [h269]; decide) (by rw [h269]; decide) (by rw [h269]; rfl) (by decide) ?_
        refine r_aload_n (pc := 1274) 1 dL_law_1274 rfl rfl ?_
        refine r_aload_n (pc := 1275) 0 dL_law_1275 rfl rfl ?_
        refine r_iload_n (pc := 1276) 3 dL_law_1276 rfl rfl ?_
        refine r_iconst (pc := 1277) dL_law_1277 kc_iconst_1 ?_
        refine r_iadd (pc := 1278) dL_law_1278 ?_
        refine r_sld (pc := 1279) dL_law_1279 ?_
        refine k_X7_findings (pc := 1280) lm_RL_171  (by decide) (Nat.le_of_ble_eq_true rfl) dL_law_1280 (fun w77 h271 => ?_)
        refine r_aload_n (pc := 1283) 2 dL_law_1283 rfl rfl ?_
        refine r_aload_n (pc := 1284) 0 dL_law_1284 rfl rfl ?_
        refine r_iload_n (pc := 1285) 3 dL_law_1285 rfl rfl ?_
        refine r_iconst (pc := 1286) dL_law_1286 kc_iconst_1 ?_
        refine r_iadd (pc := 1287) dL_law_1287 ?_
        refine r_sld (pc := 1288) dL_law_1288 ?_
        refine k_X8_findings (pc := 1289) lm_RL_174  (by decide) (Nat.le_of_ble_eq_true rfl) dL_law_1289 (fun w78 h273 => ?_)
        refine r_icmp_eq (pc := 1292) 1311 dL_law_1292 (by decide) (fun h274 => ?_) (fun h274 => ?_)
        · refine r_iinc (pc := 1311) 3 [(3, .int (v3 + (6 : Int32))), (0, .ref b), (1, .ref (ad en 0 0 0)), (2, .ref (ad en 21 0 0))] dL_law_1311 rfl rfl (by decide) rfl ?_
          refine r_goto (pc := 1314) 18 dL_law_1314 (by decide) ?_
          exact r_sub [1, 2, 3, 0] rfl (ih (v3 + (6 : Int32)) w78.2)
        · refine r_iconst (pc := 1295) dL_law_1295 kc_iconst_0 ?_
          exact r_zret (pc := 1296) rfl rfl dL_law_1296
      refine r_ite (fun h275 => ?_) (fun h275 => ?_)
      · refine r_tableIn (pc := 33) 1297 dL_law_33 (by rw [h275]; decide) (by rw [h275]; decide) (by rw [h275]; rfl) (by decide) ?_
        refine r_aload_n (pc := 1297) 1 dL_law_1297 rfl rfl ?_
        refine k_X7_digest (pc := 1298) lm_RL_175  (by decide) (Nat.le_of_ble_eq_true rfl) dL_law_1298 (fun w79 h276 => ?_)
        refine r_aload_n (pc := 1301) 2 dL_law_1301 rfl rfl ?_
        refine k_X8_digest (pc := 1302) lm_RL_178  (by decide) (Nat.le_of_ble_eq_true rfl) dL_law_1302 (fun w80 h277 => ?_)
        refine r_lcmp (pc := 1305) dL_law_1305 ?_
        refine r_if_eq (pc := 1306) 1311 dL_law_1306 (by decide) (fun h278 => ?_) (fun h278 => ?_)
        · refine r_iinc (pc := 1311) 3 [(3, .int (v3 + (6 : Int32))), (0, .ref b), (1, .ref (ad en 0 0 0)), (2, .ref (ad en 21 0 0))] dL_law_1311 rfl rfl (by decide) rfl ?_
          refine r_goto (pc := 1314) 18 dL_law_1314 (by decide) ?_
          exact r_sub [1, 2, 3, 0] rfl (ih (v3 + (6 : Int32)) w80.2)
        · refine r_iconst (pc := 1309) dL_law_1309 kc_iconst_0 ?_
          exact r_zret (pc := 1310) rfl rfl dL_law_1310
      refine r_tableOut (pc := 33) 1311 dL_law_33 (sw_out (0) 40 (fun v hv => by rcases (show v = 0 ∨ v = 1 ∨ v = 2 ∨ v = 3 ∨ v = 4 ∨ v = 5 ∨ v = 6 ∨ v = 7 ∨ v = 8 ∨ v = 9 ∨ v = 10 ∨ v = 11 ∨ v = 12 ∨ v = 13 ∨ v = 14 ∨ v = 15 ∨ v = 16 ∨ v = 17 ∨ v = 18 ∨ v = 19 ∨ v = 20 ∨ v = 21 ∨ v = 22 ∨ v = 23 ∨ v = 24 ∨ v = 25 ∨ v = 26 ∨ v = 27 ∨ v = 28 ∨ v = 29 ∨ v = 30 ∨ v = 31 ∨ v = 32 ∨ v = 33 ∨ v = 34 ∨ v = 35 ∨ v = 36 ∨ v = 37 ∨ v = 38 ∨ v = 39 by omega) with rfl | rfl | rfl | rfl | rfl | rfl | rfl | rfl | rfl | rfl | rfl | rfl | rfl | rfl | rfl | rfl | rfl | rfl | rfl | rfl | rfl | rfl | rfl | rfl | rfl | rfl | rfl | rfl | rfl | rfl | rfl | rfl | rfl | rfl | rfl | rfl | rfl | rfl | rfl | rfl <;> assumption)) (by decide) ?_
      refine r_iinc (pc := 1311) 3 [(3, .int (v3 + (6 : Int32))), (0, .ref b), (1, .ref (ad en 0 0 0)), (2, .ref (ad en 21 0 0))] dL_law_1311 rfl rfl (by decide) rfl ?_
      refine r_goto (pc := 1314) 18 dL_law_1314 (by decide) ?_
      exact r_sub [1, 2, 3, 0] rfl (ih (v3 + (6 : Int32)) σ)
set_option maxHeartbeats 4000000 in
theorem R_L_law (en : En) (N : Nat) (b L : Nat) (xs : Nat → Int32)  (σ : Sg) : RR en (ExS b L xs) mi_L_law evI 16 [(2, .ref (ad en 21 0 0)), (1, .ref (ad en 0 0 0)), (0, .ref b)] [] σ (f_L_law N L xs σ) := by
  unfold f_L_law
  refine r_iconst (pc := 16) dL_law_16 kc_iconst_0 ?_
  refine r_istore_n (pc := 17) [(3, .int (0 : Int32)), (2, .ref (ad en 21 0 0)), (1, .ref (ad en 0 0 0)), (0, .ref b)] dL_law_17 rfl (by decide) rfl ?_
  refine r_sub [3, 2, 1, 0] rfl (RL_L_law_18 en N b L xs   (fun v3_81 σ_81 => ?_) N (0 : Int32) σ)
  refine r_iconst (pc := 1317) dL_law_1317 kc_iconst_1 ?_
  exact r_zret (pc := 1318) rfl rfl dL_law_1318
