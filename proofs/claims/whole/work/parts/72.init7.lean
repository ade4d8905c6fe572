/-! BeckTalkModel(), by program (wip/whole/mk_init7.py) -/
abbrev RM : Room := rmI 2 21 1706
abbrev e7 : va_E := .inr (7, [.int 0, .int 0, .int 0, .null, .null, .null, .null, .null, .int 0, .null, .int 0, .int 0, .int 0, .int 0, .int 0, .int 0, .int 0, .int 0, .null, .null, .null, .null, .null, .null, .int 0, .null, .null, .int 0, .null, .null, .null, .int 0, .null, .null, .null, .null])
theorem ef_X7 {D : va_G} {T : ClassId × ClassId × ClassId} {l : Launch} (ad : Nat → Nat) : eW (ad, D, T, l, 144, 22) MU0 = [(ad 144, .inr (7, [.int 0, .int 0, .int 0, .ref (ad 145), .ref (ad 146), .ref (ad 147), .ref (ad 148), .ref (ad 149), .int 0, .ref (ad 150), .int 0, .int (-1), .int 0, .int 0, .int 0, .int 0, .int 0, .int 0, .ref (ad 151), .ref (ad 152), .ref (ad 153), .ref (ad 154), .ref (ad 155), .ref (ad 156), .int 0, .ref (ad 157), .ref (ad 158), .int 0, .ref (ad 159), .ref (ad 160), .ref (ad 161), .int 0, .ref (ad 162), .ref (ad 163), .ref (ad 164), .ref (ad 165)])), (ad 145, .inl (T.1, 9, .inl (fun _ => 0))), (ad 146, .inl (T.1, 9, .inl (fun _ => 0))), (ad 147, .inl (T.1, 9, .inl (fun _ => 0))), (ad 148, .inl (T.1, 9, .inl (fun _ => 0))), (ad 149, .inl (T.1, 66, .inl (fun _ => 0))), (ad 150, .inl (T.1, 240, .inl (fun _ => 0))), (ad 151, .inl (T.1, 9, .inl (fun _ => 0))), (ad 152, .inl (T.1, 9, .inl (fun _ => 0))), (ad 153, .inl (T.1, 9, .inl (fun _ => 0))), (ad 154, .inl (T.1, 9, .inl (fun _ => 0))), (ad 155, .inl (T.1, 9, .inl (fun _ => 0))), (ad 156, .inl (T.2.1, 9, .inl (fun _ => 0))), (ad 157, .inl (T.1, 1056, .inl (fun _ => 0))), (ad 158, .inl (T.1, 66, .inl (fun _ => 0))), (ad 159, .inl (T.1, 6, .inl (fun _ => 0))), (ad 160, .inl (T.1, 6, .inl (fun _ => 0))), (ad 161, .inl (T.1, 10, .inl (fun _ => 0))), (ad 162, .inl (T.1, 15, .inl (fun _ => 0))), (ad 163, .inl (T.1, 15, .inl (fun _ => 0))), (ad 164, .inl (T.1, 134, .inl (fun _ => 0))), (ad 165, .inl (T.2.1, 2, .inl (fun _ => 0)))] := rfl
theorem ci_X7 {D : va_G} {T : ClassId × ClassId × ClassId} {l : Launch} (h sz : Nat) : Met l yX7_init (.code yX7_init cX7_init 1 none :: wG) RM (va_Pc [.ref h] (fun U => U.heap.size = sz ∧ va_P D vwCl [(h, e7)] U.heap ∧ KS D T l U)) (va_Qv (fun u : (Nat → Nat) × MM => u.1 144 = h ∧ f_X7_emptyAll MU0 = some u.2) (fun u t => VP (u.1, D, T, l, 144, 22) u.2 t.heap ∧ INJ (u.1, D, T, l, 144, 22) ∧ (∀ k, dom (u.1, D, T, l, 144, 22) k → va_A [(h, e7)] sz (u.1 k)) ∧ KS D T l t) (va_A [(h, e7)] sz)) 21 1706 (va_A [(h, e7)] sz) := by
  refine met_of (mi := mi_X7_init) (k := 0) (by decide +kernel) rfl rfl rfl (fun p e s m below meth c hsz X => ?_)
  refine k_a0 X dX7_init_0 ?_
  refine k_obj X dX7_init_1 oi_X7 (by decide) (by decide) ?_
  refine k_a0 X dX7_init_4 ?_
  refine k_bipush (v := nI 9) X dX7_init_5 (by decide) ?_
  refine k_newI (n := 9) X dX7_init_7 (by decide) (Nat.le_of_ble_eq_true rfl) (Nat.le_of_ble_eq_true rfl) (fun q1 => ?_)
  refine k_putF X dX7_init_9 ff_X7_7 (Nat.le_of_ble_eq_true rfl) ?_
  refine k_a0 X dX7_init_12 ?_
  refine k_bipush (v := nI 9) X dX7_init_13 (by decide) ?_
  refine k_newI (n := 9) X dX7_init_15 (by decide) (Nat.le_of_ble_eq_true rfl) (Nat.le_of_ble_eq_true rfl) (fun q2 => ?_)
  refine k_putF X dX7_init_17 ff_X7_13 (Nat.le_of_ble_eq_true rfl) ?_
  refine k_a0 X dX7_init_20 ?_
  refine k_bipush (v := nI 9) X dX7_init_21 (by decide) ?_
  refine k_newI (n := 9) X dX7_init_23 (by decide) (Nat.le_of_ble_eq_true rfl) (Nat.le_of_ble_eq_true rfl) (fun q3 => ?_)
  refine k_putF X dX7_init_25 ff_X7_16 (Nat.le_of_ble_eq_true rfl) ?_
  refine k_a0 X dX7_init_28 ?_
  refine k_bipush (v := nI 9) X dX7_init_29 (by decide) ?_
  refine k_newI (n := 9) X dX7_init_31 (by decide) (Nat.le_of_ble_eq_true rfl) (Nat.le_of_ble_eq_true rfl) (fun q4 => ?_)
  refine k_putF X dX7_init_33 ff_X7_19 (Nat.le_of_ble_eq_true rfl) ?_
  refine k_a0 X dX7_init_36 ?_
  refine k_bipush (v := nI 66) X dX7_init_37 (by decide) ?_
  refine k_newI (n := 66) X dX7_init_39 (by decide) (Nat.le_of_ble_eq_true rfl) (Nat.le_of_ble_eq_true rfl) (fun q5 => ?_)
  refine k_putF X dX7_init_41 ff_X7_22 (Nat.le_of_ble_eq_true rfl) ?_
  refine k_a0 X dX7_init_44 ?_
  refine k_sipush (v := nI 240) X dX7_init_45 (by decide) ?_
  refine k_newI (n := 240) X dX7_init_48 (by decide) (Nat.le_of_ble_eq_true rfl) (Nat.le_of_ble_eq_true rfl) (fun q6 => ?_)
  refine k_putF X dX7_init_50 ff_X7_25 (Nat.le_of_ble_eq_true rfl) ?_
  refine k_a0 X dX7_init_53 ?_
  refine k_iconst (v := -1) X dX7_init_54 (by decide) ?_
  refine k_putI X dX7_init_55 fpi_X7_28 (Nat.le_of_ble_eq_true rfl) ?_
  refine k_a0 X dX7_init_58 ?_
  refine k_bipush (v := nI 9) X dX7_init_59 (by decide) ?_
  refine k_newI (n := 9) X dX7_init_61 (by decide) (Nat.le_of_ble_eq_true rfl) (Nat.le_of_ble_eq_true rfl) (fun q7 => ?_)
  refine k_putF X dX7_init_63 ff_X7_32 (Nat.le_of_ble_eq_true rfl) ?_
  refine k_a0 X dX7_init_66 ?_
  refine k_bipush (v := nI 9) X dX7_init_67 (by decide) ?_
  refine k_newI (n := 9) X dX7_init_69 (by decide) (Nat.le_of_ble_eq_true rfl) (Nat.le_of_ble_eq_true rfl) (fun q8 => ?_)
  refine k_putF X dX7_init_71 ff_X7_35 (Nat.le_of_ble_eq_true rfl) ?_
  refine k_a0 X dX7_init_74 ?_
  refine k_bipush (v := nI 9) X dX7_init_75 (by decide) ?_
  refine k_newI (n := 9) X dX7_init_77 (by decide) (Nat.le_of_ble_eq_true rfl) (Nat.le_of_ble_eq_true rfl) (fun q9 => ?_)
  refine k_putF X dX7_init_79 ff_X7_38 (Nat.le_of_ble_eq_true rfl) ?_
  refine k_a0 X dX7_init_82 ?_
  refine k_bipush (v := nI 9) X dX7_init_83 (by decide) ?_
  refine k_newI (n := 9) X dX7_init_85 (by decide) (Nat.le_of_ble_eq_true rfl) (Nat.le_of_ble_eq_true rfl) (fun q10 => ?_)
  refine k_putF X dX7_init_87 ff_X7_41 (Nat.le_of_ble_eq_true rfl) ?_
  refine k_a0 X dX7_init_90 ?_
  refine k_bipush (v := nI 9) X dX7_init_91 (by decide) ?_
  refine k_newI (n := 9) X dX7_init_93 (by decide) (Nat.le_of_ble_eq_true rfl) (Nat.le_of_ble_eq_true rfl) (fun q11 => ?_)
  refine k_putF X dX7_init_95 ff_X7_44 (Nat.le_of_ble_eq_true rfl) ?_
  refine k_a0 X dX7_init_98 ?_
  refine k_bipush (v := nI 9) X dX7_init_99 (by decide) ?_
  refine k_newZ (n := 9) X dX7_init_101 (by decide) (Nat.le_of_ble_eq_true rfl) (Nat.le_of_ble_eq_true rfl) (fun q12 => ?_)
  refine k_putF X dX7_init_103 ff_X7_47 (Nat.le_of_ble_eq_true rfl) ?_
  refine k_a0 X dX7_init_106 ?_
  refine k_sipush (v := nI 1056) X dX7_init_107 (by decide) ?_
  refine k_newI (n := 1056) X dX7_init_110 (by decide) (Nat.le_of_ble_eq_true rfl) (Nat.le_of_ble_eq_true rfl) (fun q13 => ?_)
  refine k_putF X dX7_init_112 ff_X7_51 (Nat.le_of_ble_eq_true rfl) ?_
  refine k_a0 X dX7_init_115 ?_
  refine k_bipush (v := nI 66) X dX7_init_116 (by decide) ?_
  refine k_newI (n := 66) X dX7_init_118 (by decide) (Nat.le_of_ble_eq_true rfl) (Nat.le_of_ble_eq_true rfl) (fun q14 => ?_)
  refine k_putF X dX7_init_120 ff_X7_54 (Nat.le_of_ble_eq_true rfl) ?_
  refine k_a0 X dX7_init_123 ?_
  refine k_bipush (v := nI 6) X dX7_init_124 (by decide) ?_
  refine k_newI (n := 6) X dX7_init_126 (by decide) (Nat.le_of_ble_eq_true rfl) (Nat.le_of_ble_eq_true rfl) (fun q15 => ?_)
  refine k_putF X dX7_init_128 ff_X7_57 (Nat.le_of_ble_eq_true rfl) ?_
  refine k_a0 X dX7_init_131 ?_
  refine k_bipush (v := nI 6) X dX7_init_132 (by decide) ?_
  refine k_newI (n := 6) X dX7_init_134 (by decide) (Nat.le_of_ble_eq_true rfl) (Nat.le_of_ble_eq_true rfl) (fun q16 => ?_)
  refine k_putF X dX7_init_136 ff_X7_60 (Nat.le_of_ble_eq_true rfl) ?_
  refine k_a0 X dX7_init_139 ?_
  refine k_bipush (v := nI 10) X dX7_init_140 (by decide) ?_
  refine k_newI (n := 10) X dX7_init_142 (by decide) (Nat.le_of_ble_eq_true rfl) (Nat.le_of_ble_eq_true rfl) (fun q17 => ?_)
  refine k_putF X dX7_init_144 ff_X7_63 (Nat.le_of_ble_eq_true rfl) ?_
  refine k_a0 X dX7_init_147 ?_
  refine k_bipush (v := nI 15) X dX7_init_148 (by decide) ?_
  refine k_newI (n := 15) X dX7_init_150 (by decide) (Nat.le_of_ble_eq_true rfl) (Nat.le_of_ble_eq_true rfl) (fun q18 => ?_)
  refine k_putF X dX7_init_152 ff_X7_66 (Nat.le_of_ble_eq_true rfl) ?_
  refine k_a0 X dX7_init_155 ?_
  refine k_bipush (v := nI 15) X dX7_init_156 (by decide) ?_
  refine k_newI (n := 15) X dX7_init_158 (by decide) (Nat.le_of_ble_eq_true rfl) (Nat.le_of_ble_eq_true rfl) (fun q19 => ?_)
  refine k_putF X dX7_init_160 ff_X7_69 (Nat.le_of_ble_eq_true rfl) ?_
  refine k_a0 X dX7_init_163 ?_
  refine k_sipush (v := nI 134) X dX7_init_164 (by decide) ?_
  refine k_newI (n := 134) X dX7_init_167 (by decide) (Nat.le_of_ble_eq_true rfl) (Nat.le_of_ble_eq_true rfl) (fun q20 => ?_)
  refine k_putF X dX7_init_169 ff_X7_72 (Nat.le_of_ble_eq_true rfl) ?_
  refine k_a0 X dX7_init_172 ?_
  refine k_iconst (v := nI 2) X dX7_init_173 (by decide) ?_
  refine k_newZ (n := 2) X dX7_init_174 (by decide) (Nat.le_of_ble_eq_true rfl) (Nat.le_of_ble_eq_true rfl) (fun q21 => ?_)
  refine k_putF X dX7_init_176 ff_X7_75 (Nat.le_of_ble_eq_true rfl) ?_
  refine k_a0 X dX7_init_179 ?_
  obtain ⟨ad, b144, b145, b146, b147, b148, b149, b150, b151, b152, b153, b154, b155, b156, b157, b158, b159, b160, b161, b162, b163, b164, b165⟩ : ∃ ad : Nat → Nat, ad 144 = h ∧ ad 145 = q1 ∧ ad 146 = q2 ∧ ad 147 = q3 ∧ ad 148 = q4 ∧ ad 149 = q5 ∧ ad 150 = q6 ∧ ad 151 = q7 ∧ ad 152 = q8 ∧ ad 153 = q9 ∧ ad 154 = q10 ∧ ad 155 = q11 ∧ ad 156 = q12 ∧ ad 157 = q13 ∧ ad 158 = q14 ∧ ad 159 = q15 ∧ ad 160 = q16 ∧ ad 161 = q17 ∧ ad 162 = q18 ∧ ad 163 = q19 ∧ ad 164 = q20 ∧ ad 165 = q21 := ⟨(fun k => if k = 144 then h else if k = 145 then q1 else if k = 146 then q2 else if k = 147 then q3 else if k = 148 then q4 else if k = 149 then q5 else if k = 150 then q6 else if k = 151 then q7 else if k = 152 then q8 else if k = 153 then q9 else if k = 154 then q10 else if k = 155 then q11 else if k = 156 then q12 else if k = 157 then q13 else if k = 158 then q14 else if k = 159 then q15 else if k = 160 then q16 else if k = 161 then q17 else if k = 162 then q18 else if k = 163 then q19 else if k = 164 then q20 else if k = 165 then q21 else 0), rfl, rfl, rfl, rfl, rfl, rfl, rfl, rfl, rfl, rfl, rfl, rfl, rfl, rfl, rfl, rfl, rfl, rfl, rfl, rfl, rfl, rfl⟩
  have ef := ef_X7 (D := D) (T := T) (l := l) ad
  rw [b144, b145, b146, b147, b148, b149, b150, b151, b152, b153, b154, b155, b156, b157, b158, b159, b160, b161, b162, b163, b164, b165] at ef
  obtain ⟨mm, hmm, -⟩ := emX MU0
  refine k_eq (ws' := eW (ad, D, T, l, 144, 22) MU0) ef.symm ?_
  rw [← b144]
  exact k_callEnd (As := []) (k0 := 144) X dX7_init_180 dX7_init_183 rfl cv_X7_78 (fun hi => ct_X7_emptyAll ⟨hi, rfl⟩ MU0 hmm) (Nat.le_of_ble_eq_true rfl) (Nat.le_of_ble_eq_true rfl) ⟨Nat.le_of_ble_eq_true rfl, Nat.le_of_ble_eq_true rfl⟩ ⟨Nat.le_refl _, by show 144 < 144 + 22; decide⟩ (show sh 144 = .inl (7, _) from rfl) rfl (fun t hP hI hAk hK hF => ⟨⟨(ad, mm), rfl, ⟨b144, hmm⟩, hP, hI, hAk, hK⟩, hF⟩)
