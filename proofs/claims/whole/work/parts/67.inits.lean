theorem ci_X4_1 {D : va_G} {T : ClassId × ClassId × ClassId} {l : Launch} : CtI D T l 1 1 240 mi_X4_init (.inr (4, [.null, .int 0, .int 0, .int 0, .int 0])) 1 [1, 2] := by
  intro h sz
  refine met_of (k := 0) (by decide +kernel) rfl rfl rfl (fun p e s m below meth c hsz X => ?_)
  refine k_a0 X dX4_init_0 ?_
  refine k_obj X dX4_init_1 oi_X4 (by decide) (by decide) ?_
  refine k_a0 X dX4_init_4 ?_
  refine k_sipush (v := nI 240) X dX4_init_5 (by decide) ?_
  refine k_newI (n := 240) X dX4_init_8 (by decide) (by decide) (by decide) (fun q1 => ?_)
  refine k_putF X dX4_init_10 ff_X4_9 (Nat.le_of_ble_eq_true rfl) ?_
  refine k_a0 X dX4_init_13 ?_
  refine k_iconst (v := -1) X dX4_init_14 (by decide) ?_
  refine k_putI X dX4_init_15 fpi_X4_15 (Nat.le_of_ble_eq_true rfl) ?_
  have ef : fam D T l (fun k => if k = 1 then h else if k = 2 then q1 else 0) [1, 2] = [(h, .inr (4, [.ref q1, .int 0, .int 0, .int 0, .int (-1)])), (q1, .inl (T.1, 240, .inl (fun _ => 0)))] := rfl
  exact k_ret X dX4_init_18 rfl (fun t hP hD hK hF => ⟨⟨fun k => if k = 1 then h else if k = 2 then q1 else 0, rfl, if_pos rfl, by rw [ef]; exact hP, by rw [ef]; exact hD, hK⟩, hF⟩)
theorem ci_X1_3 {D : va_G} {T : ClassId × ClassId × ClassId} {l : Launch} : CtI D T l 1 4 36 mi_X1_init (.inr (1, [.int 0, .int 0, .int 0, .null, .null, .null, .null])) 3 [3, 4, 5, 6, 7] := by
  intro h sz
  refine met_of (k := 0) (by decide +kernel) rfl rfl rfl (fun p e s m below meth c hsz X => ?_)
  refine k_a0 X dX1_init_0 ?_
  refine k_obj X dX1_init_1 oi_X1 (by decide) (by decide) ?_
  refine k_a0 X dX1_init_4 ?_
  refine k_bipush (v := nI 9) X dX1_init_5 (by decide) ?_
  refine k_newI (n := 9) X dX1_init_7 (by decide) (by decide) (by decide) (fun q1 => ?_)
  refine k_putF X dX1_init_9 ff_X1_9 (Nat.le_of_ble_eq_true rfl) ?_
  refine k_a0 X dX1_init_12 ?_
  refine k_bipush (v := nI 9) X dX1_init_13 (by decide) ?_
  refine k_newI (n := 9) X dX1_init_15 (by decide) (by decide) (by decide) (fun q2 => ?_)
  refine k_putF X dX1_init_17 ff_X1_15 (Nat.le_of_ble_eq_true rfl) ?_
  refine k_a0 X dX1_init_20 ?_
  refine k_bipush (v := nI 9) X dX1_init_21 (by decide) ?_
  refine k_newI (n := 9) X dX1_init_23 (by decide) (by decide) (by decide) (fun q3 => ?_)
  refine k_putF X dX1_init_25 ff_X1_18 (Nat.le_of_ble_eq_true rfl) ?_
  refine k_a0 X dX1_init_28 ?_
  refine k_bipush (v := nI 9) X dX1_init_29 (by decide) ?_
  refine k_newI (n := 9) X dX1_init_31 (by decide) (by decide) (by decide) (fun q4 => ?_)
  refine k_putF X dX1_init_33 ff_X1_21 (Nat.le_of_ble_eq_true rfl) ?_
  have ef : fam D T l (fun k => if k = 3 then h else if k = 4 then q1 else if k = 5 then q2 else if k = 6 then q3 else if k = 7 then q4 else 0) [3, 4, 5, 6, 7] = [(h, .inr (1, [.int 0, .int 0, .int 0, .ref q1, .ref q2, .ref q3, .ref q4])), (q1, .inl (T.1, 9, .inl (fun _ => 0))), (q2, .inl (T.1, 9, .inl (fun _ => 0))), (q3, .inl (T.1, 9, .inl (fun _ => 0))), (q4, .inl (T.1, 9, .inl (fun _ => 0)))] := rfl
  exact k_ret X dX1_init_36 rfl (fun t hP hD hK hF => ⟨⟨fun k => if k = 3 then h else if k = 4 then q1 else if k = 5 then q2 else if k = 6 then q3 else if k = 7 then q4 else 0, rfl, if_pos rfl, by rw [ef]; exact hP, by rw [ef]; exact hD, hK⟩, hF⟩)
theorem ci_X1_8 {D : va_G} {T : ClassId × ClassId × ClassId} {l : Launch} : CtI D T l 1 4 36 mi_X1_init (.inr (1, [.int 0, .int 0, .int 0, .null, .null, .null, .null])) 8 [8, 9, 10, 11, 12] := by
  intro h sz
  refine met_of (k := 0) (by decide +kernel) rfl rfl rfl (fun p e s m below meth c hsz X => ?_)
  refine k_a0 X dX1_init_0 ?_
  refine k_obj X dX1_init_1 oi_X1 (by decide) (by decide) ?_
  refine k_a0 X dX1_init_4 ?_
  refine k_bipush (v := nI 9) X dX1_init_5 (by decide) ?_
  refine k_newI (n := 9) X dX1_init_7 (by decide) (by decide) (by decide) (fun q1 => ?_)
  refine k_putF X dX1_init_9 ff_X1_9 (Nat.le_of_ble_eq_true rfl) ?_
  refine k_a0 X dX1_init_12 ?_
  refine k_bipush (v := nI 9) X dX1_init_13 (by decide) ?_
  refine k_newI (n := 9) X dX1_init_15 (by decide) (by decide) (by decide) (fun q2 => ?_)
  refine k_putF X dX1_init_17 ff_X1_15 (Nat.le_of_ble_eq_true rfl) ?_
  refine k_a0 X dX1_init_20 ?_
  refine k_bipush (v := nI 9) X dX1_init_21 (by decide) ?_
  refine k_newI (n := 9) X dX1_init_23 (by decide) (by decide) (by decide) (fun q3 => ?_)
  refine k_putF X dX1_init_25 ff_X1_18 (Nat.le_of_ble_eq_true rfl) ?_
  refine k_a0 X dX1_init_28 ?_
  refine k_bipush (v := nI 9) X dX1_init_29 (by decide) ?_
  refine k_newI (n := 9) X dX1_init_31 (by decide) (by decide) (by decide) (fun q4 => ?_)
  refine k_putF X dX1_init_33 ff_X1_21 (Nat.le_of_ble_eq_true rfl) ?_
  have ef : fam D T l (fun k => if k = 8 then h else if k = 9 then q1 else if k = 10 then q2 else if k = 11 then q3 else if k = 12 then q4 else 0) [8, 9, 10, 11, 12] = [(h, .inr (1, [.int 0, .int 0, .int 0, .ref q1, .ref q2, .ref q3, .ref q4])), (q1, .inl (T.1, 9, .inl (fun _ => 0))), (q2, .inl (T.1, 9, .inl (fun _ => 0))), (q3, .inl (T.1, 9, .inl (fun _ => 0))), (q4, .inl (T.1, 9, .inl (fun _ => 0)))] := rfl
  exact k_ret X dX1_init_36 rfl (fun t hP hD hK hF => ⟨⟨fun k => if k = 8 then h else if k = 9 then q1 else if k = 10 then q2 else if k = 11 then q3 else if k = 12 then q4 else 0, rfl, if_pos rfl, by rw [ef]; exact hP, by rw [ef]; exact hD, hK⟩, hF⟩)
theorem ci_X2_17 {D : va_G} {T : ClassId × ClassId × ClassId} {l : Launch} : CtI D T l 1 3 21 mi_X2_init (.inr (2, [.null, .null, .null, .int 0])) 17 [17, 18, 19, 20] := by
  intro h sz
  refine met_of (k := 0) (by decide +kernel) rfl rfl rfl (fun p e s m below meth c hsz X => ?_)
  refine k_a0 X dX2_init_0 ?_
  refine k_obj X dX2_init_1 oi_X2 (by decide) (by decide) ?_
  refine k_a0 X dX2_init_4 ?_
  refine k_bipush (v := nI 6) X dX2_init_5 (by decide) ?_
  refine k_newI (n := 6) X dX2_init_7 (by decide) (by decide) (by decide) (fun q1 => ?_)
  refine k_putF X dX2_init_9 ff_X2_9 (Nat.le_of_ble_eq_true rfl) ?_
  refine k_a0 X dX2_init_12 ?_
  refine k_bipush (v := nI 6) X dX2_init_13 (by decide) ?_
  refine k_newI (n := 6) X dX2_init_15 (by decide) (by decide) (by decide) (fun q2 => ?_)
  refine k_putF X dX2_init_17 ff_X2_15 (Nat.le_of_ble_eq_true rfl) ?_
  refine k_a0 X dX2_init_20 ?_
  refine k_bipush (v := nI 9) X dX2_init_21 (by decide) ?_
  refine k_newI (n := 9) X dX2_init_23 (by decide) (by decide) (by decide) (fun q3 => ?_)
  refine k_putF X dX2_init_25 ff_X2_18 (Nat.le_of_ble_eq_true rfl) ?_
  have ef : fam D T l (fun k => if k = 17 then h else if k = 18 then q1 else if k = 19 then q2 else if k = 20 then q3 else 0) [17, 18, 19, 20] = [(h, .inr (2, [.ref q1, .ref q2, .ref q3, .int 0])), (q1, .inl (T.1, 6, .inl (fun _ => 0))), (q2, .inl (T.1, 6, .inl (fun _ => 0))), (q3, .inl (T.1, 9, .inl (fun _ => 0)))] := rfl
  exact k_ret X dX2_init_28 rfl (fun t hP hD hK hF => ⟨⟨fun k => if k = 17 then h else if k = 18 then q1 else if k = 19 then q2 else if k = 20 then q3 else 0, rfl, if_pos rfl, by rw [ef]; exact hP, by rw [ef]; exact hD, hK⟩, hF⟩)
theorem ci_X0_21 {D : va_G} {T : ClassId × ClassId × ClassId} {l : Launch} : CtI D T l 1 2 30 mi_X0_init (.inr (0, [.null, .null, .int 0])) 21 [21, 22, 23] := by
  intro h sz
  refine met_of (k := 0) (by decide +kernel) rfl rfl rfl (fun p e s m below meth c hsz X => ?_)
  refine k_a0 X dX0_init_0 ?_
  refine k_obj X dX0_init_1 oi_X0 (by decide) (by decide) ?_
  refine k_a0 X dX0_init_4 ?_
  refine k_bipush (v := nI 15) X dX0_init_5 (by decide) ?_
  refine k_newI (n := 15) X dX0_init_7 (by decide) (by decide) (by decide) (fun q1 => ?_)
  refine k_putF X dX0_init_9 ff_X0_9 (Nat.le_of_ble_eq_true rfl) ?_
  refine k_a0 X dX0_init_12 ?_
  refine k_bipush (v := nI 15) X dX0_init_13 (by decide) ?_
  refine k_newI (n := 15) X dX0_init_15 (by decide) (by decide) (by decide) (fun q2 => ?_)
  refine k_putF X dX0_init_17 ff_X0_15 (Nat.le_of_ble_eq_true rfl) ?_
  have ef : fam D T l (fun k => if k = 21 then h else if k = 22 then q1 else if k = 23 then q2 else 0) [21, 22, 23] = [(h, .inr (0, [.ref q1, .ref q2, .int 0])), (q1, .inl (T.1, 15, .inl (fun _ => 0))), (q2, .inl (T.1, 15, .inl (fun _ => 0)))] := rfl
  exact k_ret X dX0_init_20 rfl (fun t hP hD hK hF => ⟨⟨fun k => if k = 21 then h else if k = 22 then q1 else if k = 23 then q2 else 0, rfl, if_pos rfl, by rw [ef]; exact hP, by rw [ef]; exact hD, hK⟩, hF⟩)
theorem fam_w {D : va_G} {T : ClassId × ClassId × ClassId} {l : Launch} {ad : Nat → Nat} {w : Nat} (hw : isW w) : fam D T l ad [w, w + 1, w + 2, w + 3, w + 4, w + 5] = [(ad w, .inr (5, [.int 0, .int 0, .int 0, .int 0, .int 0, .int 0, .int 0, .int 0, .ref (ad (w + 1)), .ref (ad (w + 2)), .ref (ad (w + 3)), .ref (ad (w + 4)), .ref (ad (w + 5))])), (ad (w + 1), .inl (T.1, 48, .inl (fun _ => 0))), (ad (w + 2), .inl (T.1, 80, .inl (fun _ => 0))), (ad (w + 3), .inl (T.1, 9, .inl (fun _ => 0))), (ad (w + 4), .inl (T.1, 9, .inl (fun _ => 0))), (ad (w + 5), .inl (T.1, 9, .inl (fun _ => 0)))] := by
  have e1 : w ≠ 1 ∧ w ≠ 144 ∧ w + 1 ≠ 1 ∧ w + 1 ≠ 144 ∧ w + 2 ≠ 1 ∧ w + 2 ≠ 144 ∧ w + 3 ≠ 1 ∧ w + 3 ≠ 144 ∧ w + 4 ≠ 1 ∧ w + 4 ≠ 144 ∧ w + 5 ≠ 1 ∧ w + 5 ≠ 144 := by
    obtain ⟨i, hi, rfl⟩ := hw
    omega
  obtain ⟨a1, a2, b1, b2, c1, c2, d1, d2, e1, e2, f1, f2⟩ := e1
  unfold fam
  simp only [List.map_cons, List.map_nil]
  rw [eC_obj (isW_sh hw), eC_arr (isW_sh1 hw), eC_arr (isW_sh2 hw), eC_arr (isW_sh3 hw), eC_arr (isW_sh4 hw), eC_arr (isW_sh5 hw), MU0_row b1 b2, MU0_row c1 c2, MU0_row d1 d2, MU0_row e1 e2, MU0_row f1 f2]
  simp only [fsWorld, eF, MU0_row a1 a2]
  rfl
def adW (w h q1 q2 q3 q4 q5 k : Nat) : Nat := if k = w then h else if k = w + 1 then q1 else if k = w + 2 then q2 else if k = w + 3 then q3 else if k = w + 4 then q4 else q5
theorem adW0 (w h q1 q2 q3 q4 q5 : Nat) : adW w h q1 q2 q3 q4 q5 w = h := by unfold adW; rw [if_pos rfl]
theorem adW1 (w h q1 q2 q3 q4 q5 : Nat) : adW w h q1 q2 q3 q4 q5 (w + 1) = q1 := by unfold adW; rw [if_neg (by omega), if_pos rfl]
theorem adW2 (w h q1 q2 q3 q4 q5 : Nat) : adW w h q1 q2 q3 q4 q5 (w + 2) = q2 := by unfold adW; rw [if_neg (by omega), if_neg (by omega), if_pos rfl]
theorem adW3 (w h q1 q2 q3 q4 q5 : Nat) : adW w h q1 q2 q3 q4 q5 (w + 3) = q3 := by unfold adW; rw [if_neg (by omega), if_neg (by omega), if_neg (by omega), if_pos rfl]
theorem adW4 (w h q1 q2 q3 q4 q5 : Nat) : adW w h q1 q2 q3 q4 q5 (w + 4) = q4 := by unfold adW; rw [if_neg (by omega), if_neg (by omega), if_neg (by omega), if_neg (by omega), if_pos rfl]
theorem adW5 (w h q1 q2 q3 q4 q5 : Nat) : adW w h q1 q2 q3 q4 q5 (w + 5) = q5 := by unfold adW; rw [if_neg (by omega), if_neg (by omega), if_neg (by omega), if_neg (by omega), if_neg (by omega)]
theorem ci_X5 {D : va_G} {T : ClassId × ClassId × ClassId} {l : Launch} {w : Nat} (hw : isW w) : CtI D T l 1 5 155 mi_X5_init (.inr (5, [.int 0, .int 0, .int 0, .int 0, .int 0, .int 0, .int 0, .int 0, .null, .null, .null, .null, .null])) w [w, w + 1, w + 2, w + 3, w + 4, w + 5] := by
  intro h sz
  refine met_of (k := 0) (by decide +kernel) rfl rfl rfl (fun p e s m below meth c hsz X => ?_)
  refine k_a0 X dX5_init_0 ?_
  refine k_obj X dX5_init_1 oi_X5 (by decide) (by decide) ?_
  refine k_a0 X dX5_init_4 ?_
  refine k_bipush (v := nI 48) X dX5_init_5 (by decide) ?_
  refine k_newI (n := 48) X dX5_init_7 (by decide) (by decide) (by decide) (fun q1 => ?_)
  refine k_putF X dX5_init_9 ff_X5_9 (Nat.le_of_ble_eq_true rfl) ?_
  refine k_a0 X dX5_init_12 ?_
  refine k_bipush (v := nI 80) X dX5_init_13 (by decide) ?_
  refine k_newI (n := 80) X dX5_init_15 (by decide) (by decide) (by decide) (fun q2 => ?_)
  refine k_putF X dX5_init_17 ff_X5_15 (Nat.le_of_ble_eq_true rfl) ?_
  refine k_a0 X dX5_init_20 ?_
  refine k_bipush (v := nI 9) X dX5_init_21 (by decide) ?_
  refine k_newI (n := 9) X dX5_init_23 (by decide) (by decide) (by decide) (fun q3 => ?_)
  refine k_putF X dX5_init_25 ff_X5_18 (Nat.le_of_ble_eq_true rfl) ?_
  refine k_a0 X dX5_init_28 ?_
  refine k_bipush (v := nI 9) X dX5_init_29 (by decide) ?_
  refine k_newI (n := 9) X dX5_init_31 (by decide) (by decide) (by decide) (fun q4 => ?_)
  refine k_putF X dX5_init_33 ff_X5_21 (Nat.le_of_ble_eq_true rfl) ?_
  refine k_a0 X dX5_init_36 ?_
  refine k_bipush (v := nI 9) X dX5_init_37 (by decide) ?_
  refine k_newI (n := 9) X dX5_init_39 (by decide) (by decide) (by decide) (fun q5 => ?_)
  refine k_putF X dX5_init_41 ff_X5_24 (Nat.le_of_ble_eq_true rfl) ?_
  have ef := fam_w (D := D) (T := T) (l := l) (ad := adW w h q1 q2 q3 q4 q5) hw
  rw [adW0, adW1, adW2, adW3, adW4, adW5] at ef
  exact k_ret X dX5_init_44 rfl (fun t hP hD hK hF => ⟨⟨adW w h q1 q2 q3 q4 q5, rfl, adW0 _ _ _ _ _ _ _, by rw [ef]; exact hP, by rw [ef]; exact hD, hK⟩, hF⟩)
