/-! BeckTalkModel(), by program (wip/whole/mk_init7.py) -/
abbrev RM : Room := rmI 2 21 1706
abbrev e7 : va_E := .inr (7, [.int 0, .int 0, .int 0, .null, .null, .null, .null, .null, .int 0, .null, .int 0, .int 0, .int 0, .int 0, .int 0, .int 0, .int 0, .int 0, .null, .null, .null, .null, .null, .null, .int 0, .null, .null, .int 0, .null, .null, .null, .int 0, .null, .null, .null, .null])
abbrev aI (T : ClassId × ClassId × ClassId) (n : Nat) : va_E := .inl (T.1, n, .inl (fun _ => 0))
abbrev aZ (T : ClassId × ClassId × ClassId) (n : Nat) : va_E := .inl (T.2.1, n, .inl (fun _ => 0))
section MODEL
variable {D : va_G} {T : ClassId × ClassId × ClassId} {l : Launch} {R : Room} {mi : MI} {A : Nat → Prop} {Qf : State → Prop} {p : Program} {e : Env} {s : State} {m : MethodId} {args : Array Value} {below : List Frame} {meth : Method} {c : Code} {lv : List (Nat × Value)} {pc cells slots h0 : Nat} {st : List Value} {ws : va_W}
theorem k_nfI {n ci k idx : Nat} {fs : List Value} {rest : va_W} (X : AtK D T l mi p s m args meth c A) (d1 : decode mi.2.1 pc = .ok (.newarray .int, 2)) (hn : n < 100000) (hcells : cells + 1 ≤ R.cells) (hslots : slots + n ≤ R.slots) (d2 : decode mi.2.1 (pc + 2) = .ok (.putfield idx, 3)) (hf : FF mi.1 idx ci k) (hl : k < fs.length) (kk : ∀ q, KJ D l R mi A Qf p e s m args below meth c lv (pc + 2 + 3) (cells + 1) (slots + n) st ((h0, .inr (ci, fs.set k (.ref q))) :: (rest ++ [(q, aI T n)]))) : KJ D l R mi A Qf p e s m args below meth c lv pc cells slots (.int (nI n) :: .ref h0 :: st) ((h0, .inr (ci, fs)) :: rest) := by
  refine k_newI X d1 hn hcells hslots (fun q => ?_)
  exact k_putF X d2 hf hl (kk q)
theorem k_nfZ {n ci k idx : Nat} {fs : List Value} {rest : va_W} (X : AtK D T l mi p s m args meth c A) (d1 : decode mi.2.1 pc = .ok (.newarray .boolean, 2)) (hn : n < 100000) (hcells : cells + 1 ≤ R.cells) (hslots : slots + n ≤ R.slots) (d2 : decode mi.2.1 (pc + 2) = .ok (.putfield idx, 3)) (hf : FF mi.1 idx ci k) (hl : k < fs.length) (kk : ∀ q, KJ D l R mi A Qf p e s m args below meth c lv (pc + 2 + 3) (cells + 1) (slots + n) st ((h0, .inr (ci, fs.set k (.ref q))) :: (rest ++ [(q, aZ T n)]))) : KJ D l R mi A Qf p e s m args below meth c lv pc cells slots (.int (nI n) :: .ref h0 :: st) ((h0, .inr (ci, fs)) :: rest) := by
  refine k_newZ X d1 hn hcells hslots (fun q => ?_)
  exact k_putF X d2 hf hl (kk q)
theorem k_st {st2 : List Value} (h : st = st2) (kk : KJ D l R mi A Qf p e s m args below meth c lv pc cells slots st2 ws) : KJ D l R mi A Qf p e s m args below meth c lv pc cells slots st ws := by rw [h]; exact kk
end MODEL
theorem e7_144 {D : va_G} {T : ClassId × ClassId × ClassId} {l : Launch} (ad : Nat → Nat) : eC (ad, D, T, l, 144, 22) MU0 144 = .inr (7, [.int 0, .int 0, .int 0, .ref (ad 145), .ref (ad 146), .ref (ad 147), .ref (ad 148), .ref (ad 149), .int 0, .ref (ad 150), .int 0, .int (-1), .int 0, .int 0, .int 0, .int 0, .int 0, .int 0, .ref (ad 151), .ref (ad 152), .ref (ad 153), .ref (ad 154), .ref (ad 155), .ref (ad 156), .int 0, .ref (ad 157), .ref (ad 158), .int 0, .ref (ad 159), .ref (ad 160), .ref (ad 161), .int 0, .ref (ad 162), .ref (ad 163), .ref (ad 164), .ref (ad 165)]) := by
  rw [eC_obj (show sh 144 = .inl (7, _) from rfl)]
  rfl
theorem e7_145 {D : va_G} {T : ClassId × ClassId × ClassId} {l : Launch} (ad : Nat → Nat) : eC (ad, D, T, l, 144, 22) MU0 145 = aI T 9 := by
  rw [eC_arr (show sh 145 = .inr (.inl (0, 9)) from rfl), MU0_row (by decide) (by decide)]
  rfl
theorem e7_146 {D : va_G} {T : ClassId × ClassId × ClassId} {l : Launch} (ad : Nat → Nat) : eC (ad, D, T, l, 144, 22) MU0 146 = aI T 9 := by
  rw [eC_arr (show sh 146 = .inr (.inl (0, 9)) from rfl), MU0_row (by decide) (by decide)]
  rfl
theorem e7_147 {D : va_G} {T : ClassId × ClassId × ClassId} {l : Launch} (ad : Nat → Nat) : eC (ad, D, T, l, 144, 22) MU0 147 = aI T 9 := by
  rw [eC_arr (show sh 147 = .inr (.inl (0, 9)) from rfl), MU0_row (by decide) (by decide)]
  rfl
theorem e7_148 {D : va_G} {T : ClassId × ClassId × ClassId} {l : Launch} (ad : Nat → Nat) : eC (ad, D, T, l, 144, 22) MU0 148 = aI T 9 := by
  rw [eC_arr (show sh 148 = .inr (.inl (0, 9)) from rfl), MU0_row (by decide) (by decide)]
  rfl
theorem e7_149 {D : va_G} {T : ClassId × ClassId × ClassId} {l : Launch} (ad : Nat → Nat) : eC (ad, D, T, l, 144, 22) MU0 149 = aI T 66 := by
  rw [eC_arr (show sh 149 = .inr (.inl (0, 66)) from rfl), MU0_row (by decide) (by decide)]
  rfl
theorem e7_150 {D : va_G} {T : ClassId × ClassId × ClassId} {l : Launch} (ad : Nat → Nat) : eC (ad, D, T, l, 144, 22) MU0 150 = aI T 240 := by
  rw [eC_arr (show sh 150 = .inr (.inl (0, 240)) from rfl), MU0_row (by decide) (by decide)]
  rfl
theorem e7_151 {D : va_G} {T : ClassId × ClassId × ClassId} {l : Launch} (ad : Nat → Nat) : eC (ad, D, T, l, 144, 22) MU0 151 = aI T 9 := by
  rw [eC_arr (show sh 151 = .inr (.inl (0, 9)) from rfl), MU0_row (by decide) (by decide)]
  rfl
theorem e7_152 {D : va_G} {T : ClassId × ClassId × ClassId} {l : Launch} (ad : Nat → Nat) : eC (ad, D, T, l, 144, 22) MU0 152 = aI T 9 := by
  rw [eC_arr (show sh 152 = .inr (.inl (0, 9)) from rfl), MU0_row (by decide) (by decide)]
  rfl
theorem e7_153 {D : va_G} {T : ClassId × ClassId × ClassId} {l : Launch} (ad : Nat → Nat) : eC (ad, D, T, l, 144, 22) MU0 153 = aI T 9 := by
  rw [eC_arr (show sh 153 = .inr (.inl (0, 9)) from rfl), MU0_row (by decide) (by decide)]
  rfl
theorem e7_154 {D : va_G} {T : ClassId × ClassId × ClassId} {l : Launch} (ad : Nat → Nat) : eC (ad, D, T, l, 144, 22) MU0 154 = aI T 9 := by
  rw [eC_arr (show sh 154 = .inr (.inl (0, 9)) from rfl), MU0_row (by decide) (by decide)]
  rfl
theorem e7_155 {D : va_G} {T : ClassId × ClassId × ClassId} {l : Launch} (ad : Nat → Nat) : eC (ad, D, T, l, 144, 22) MU0 155 = aI T 9 := by
  rw [eC_arr (show sh 155 = .inr (.inl (0, 9)) from rfl), MU0_row (by decide) (by decide)]
  rfl
theorem e7_156 {D : va_G} {T : ClassId × ClassId × ClassId} {l : Launch} (ad : Nat → Nat) : eC (ad, D, T, l, 144, 22) MU0 156 = aZ T 9 := by
  rw [eC_arr (show sh 156 = .inr (.inl (1, 9)) from rfl), MU0_row (by decide) (by decide)]
  rfl
theorem e7_157 {D : va_G} {T : ClassId × ClassId × ClassId} {l : Launch} (ad : Nat → Nat) : eC (ad, D, T, l, 144, 22) MU0 157 = aI T 1056 := by
  rw [eC_arr (show sh 157 = .inr (.inl (0, 1056)) from rfl), MU0_row (by decide) (by decide)]
  rfl
theorem e7_158 {D : va_G} {T : ClassId × ClassId × ClassId} {l : Launch} (ad : Nat → Nat) : eC (ad, D, T, l, 144, 22) MU0 158 = aI T 66 := by
  rw [eC_arr (show sh 158 = .inr (.inl (0, 66)) from rfl), MU0_row (by decide) (by decide)]
  rfl
theorem e7_159 {D : va_G} {T : ClassId × ClassId × ClassId} {l : Launch} (ad : Nat → Nat) : eC (ad, D, T, l, 144, 22) MU0 159 = aI T 6 := by
  rw [eC_arr (show sh 159 = .inr (.inl (0, 6)) from rfl), MU0_row (by decide) (by decide)]
  rfl
theorem e7_160 {D : va_G} {T : ClassId × ClassId × ClassId} {l : Launch} (ad : Nat → Nat) : eC (ad, D, T, l, 144, 22) MU0 160 = aI T 6 := by
  rw [eC_arr (show sh 160 = .inr (.inl (0, 6)) from rfl), MU0_row (by decide) (by decide)]
  rfl
theorem e7_161 {D : va_G} {T : ClassId × ClassId × ClassId} {l : Launch} (ad : Nat → Nat) : eC (ad, D, T, l, 144, 22) MU0 161 = aI T 10 := by
  rw [eC_arr (show sh 161 = .inr (.inl (0, 10)) from rfl), MU0_row (by decide) (by decide)]
  rfl
theorem e7_162 {D : va_G} {T : ClassId × ClassId × ClassId} {l : Launch} (ad : Nat → Nat) : eC (ad, D, T, l, 144, 22) MU0 162 = aI T 15 := by
  rw [eC_arr (show sh 162 = .inr (.inl (0, 15)) from rfl), MU0_row (by decide) (by decide)]
  rfl
theorem e7_163 {D : va_G} {T : ClassId × ClassId × ClassId} {l : Launch} (ad : Nat → Nat) : eC (ad, D, T, l, 144, 22) MU0 163 = aI T 15 := by
  rw [eC_arr (show sh 163 = .inr (.inl (0, 15)) from rfl), MU0_row (by decide) (by decide)]
  rfl
theorem e7_164 {D : va_G} {T : ClassId × ClassId × ClassId} {l : Launch} (ad : Nat → Nat) : eC (ad, D, T, l, 144, 22) MU0 164 = aI T 134 := by
  rw [eC_arr (show sh 164 = .inr (.inl (0, 134)) from rfl), MU0_row (by decide) (by decide)]
  rfl
theorem e7_165 {D : va_G} {T : ClassId × ClassId × ClassId} {l : Launch} (ad : Nat → Nat) : eC (ad, D, T, l, 144, 22) MU0 165 = aZ T 2 := by
  rw [eC_arr (show sh 165 = .inr (.inl (1, 2)) from rfl), MU0_row (by decide) (by decide)]
  rfl
theorem rng22 : List.range 22 = [0, 1, 2, 3, 4, 5, 6, 7, 8, 9, 10, 11, 12, 13, 14, 15, 16, 17, 18, 19, 20, 21] := by decide
theorem ef_X7 {D : va_G} {T : ClassId × ClassId × ClassId} {l : Launch} (ad : Nat → Nat) : eW (ad, D, T, l, 144, 22) MU0 = (ad 144, .inr (7, [.int 0, .int 0, .int 0, .ref (ad 145), .ref (ad 146), .ref (ad 147), .ref (ad 148), .ref (ad 149), .int 0, .ref (ad 150), .int 0, .int (-1), .int 0, .int 0, .int 0, .int 0, .int 0, .int 0, .ref (ad 151), .ref (ad 152), .ref (ad 153), .ref (ad 154), .ref (ad 155), .ref (ad 156), .int 0, .ref (ad 157), .ref (ad 158), .int 0, .ref (ad 159), .ref (ad 160), .ref (ad 161), .int 0, .ref (ad 162), .ref (ad 163), .ref (ad 164), .ref (ad 165)])) :: [(ad 145, aI T 9), (ad 146, aI T 9), (ad 147, aI T 9), (ad 148, aI T 9), (ad 149, aI T 66), (ad 150, aI T 240), (ad 151, aI T 9), (ad 152, aI T 9), (ad 153, aI T 9), (ad 154, aI T 9), (ad 155, aI T 9), (ad 156, aZ T 9), (ad 157, aI T 1056), (ad 158, aI T 66), (ad 159, aI T 6), (ad 160, aI T 6), (ad 161, aI T 10), (ad 162, aI T 15), (ad 163, aI T 15), (ad 164, aI T 134), (ad 165, aZ T 2)] := by
  unfold eW
  show (List.range 22).map (fun k => (ad (144 + k), eC (ad, D, T, l, 144, 22) MU0 (144 + k))) = _
  rw [rng22]
  show [(ad 144, eC (ad, D, T, l, 144, 22) MU0 144), (ad 145, eC (ad, D, T, l, 144, 22) MU0 145), (ad 146, eC (ad, D, T, l, 144, 22) MU0 146), (ad 147, eC (ad, D, T, l, 144, 22) MU0 147), (ad 148, eC (ad, D, T, l, 144, 22) MU0 148), (ad 149, eC (ad, D, T, l, 144, 22) MU0 149), (ad 150, eC (ad, D, T, l, 144, 22) MU0 150), (ad 151, eC (ad, D, T, l, 144, 22) MU0 151), (ad 152, eC (ad, D, T, l, 144, 22) MU0 152), (ad 153, eC (ad, D, T, l, 144, 22) MU0 153), (ad 154, eC (ad, D, T, l, 144, 22) MU0 154), (ad 155, eC (ad, D, T, l, 144, 22) MU0 155), (ad 156, eC (ad, D, T, l, 144, 22) MU0 156), (ad 157, eC (ad, D, T, l, 144, 22) MU0 157), (ad 158, eC (ad, D, T, l, 144, 22) MU0 158), (ad 159, eC (ad, D, T, l, 144, 22) MU0 159), (ad 160, eC (ad, D, T, l, 144, 22) MU0 160), (ad 161, eC (ad, D, T, l, 144, 22) MU0 161), (ad 162, eC (ad, D, T, l, 144, 22) MU0 162), (ad 163, eC (ad, D, T, l, 144, 22) MU0 163), (ad 164, eC (ad, D, T, l, 144, 22) MU0 164), (ad 165, eC (ad, D, T, l, 144, 22) MU0 165)] = _
  rw [e7_144, e7_145, e7_146, e7_147, e7_148, e7_149, e7_150, e7_151, e7_152, e7_153, e7_154, e7_155, e7_156, e7_157, e7_158, e7_159, e7_160, e7_161, e7_162, e7_163, e7_164, e7_165]
theorem ci_X7 {D : va_G} {T : ClassId × ClassId × ClassId} {l : Launch} (h sz : Nat) : Met l yX7_init (.code yX7_init cX7_init 1 none :: wG) RM (va_Pc [.ref h] (fun U => U.heap.size = sz ∧ va_P D vwCl [(h, e7)] U.heap ∧ KS D T l U)) (va_Qv (fun u : (Nat → Nat) × MM => u.1 144 = h ∧ f_X7_emptyAll MU0 = some u.2) (fun u t => VP (u.1, D, T, l, 144, 22) u.2 t.heap ∧ INJ (u.1, D, T, l, 144, 22) ∧ (∀ k, dom (u.1, D, T, l, 144, 22) k → va_A [(h, e7)] sz (u.1 k)) ∧ KS D T l t) (va_A [(h, e7)] sz)) 21 1706 (va_A [(h, e7)] sz) := by
  refine met_of (mi := mi_X7_init) (k := 0) (by decide +kernel) rfl rfl rfl (fun p e s m below meth c hsz X => ?_)
  refine k_a0 X dX7_init_0 ?_
  refine k_obj X dX7_init_1 oi_X7 (by decide) (by decide) ?_
  refine k_a0 X dX7_init_4 ?_
  refine k_bipush (v := nI 9) X dX7_init_5 (by decide) ?_
  refine k_nfI (n := 9) X dX7_init_7 (by decide) (Nat.le_of_ble_eq_true rfl) (Nat.le_of_ble_eq_true rfl) dX7_init_9 ff_X7_7 (Nat.le_of_ble_eq_true rfl) (fun q1 => ?_)
  refine k_eq (ws' := (h, .inr (7, [.int 0, .int 0, .int 0, .ref q1, .null, .null, .null, .null, .int 0, .null, .int 0, .int 0, .int 0, .int 0, .int 0, .int 0, .int 0, .int 0, .null, .null, .null, .null, .null, .null, .int 0, .null, .null, .int 0, .null, .null, .null, .int 0, .null, .null, .null, .null])) :: [(q1, aI T 9)]) rfl ?_
  refine k_cs (c2 := 1) (s2 := 9) rfl rfl ?_
  refine k_a0 X dX7_init_12 ?_
  refine k_bipush (v := nI 9) X dX7_init_13 (by decide) ?_
  refine k_nfI (n := 9) X dX7_init_15 (by decide) (Nat.le_of_ble_eq_true rfl) (Nat.le_of_ble_eq_true rfl) dX7_init_17 ff_X7_13 (Nat.le_of_ble_eq_true rfl) (fun q2 => ?_)
  refine k_eq (ws' := (h, .inr (7, [.int 0, .int 0, .int 0, .ref q1, .ref q2, .null, .null, .null, .int 0, .null, .int 0, .int 0, .int 0, .int 0, .int 0, .int 0, .int 0, .int 0, .null, .null, .null, .null, .null, .null, .int 0, .null, .null, .int 0, .null, .null, .null, .int 0, .null, .null, .null, .null])) :: [(q1, aI T 9), (q2, aI T 9)]) rfl ?_
  refine k_cs (c2 := 2) (s2 := 18) rfl rfl ?_
  refine k_a0 X dX7_init_20 ?_
  refine k_bipush (v := nI 9) X dX7_init_21 (by decide) ?_
  refine k_nfI (n := 9) X dX7_init_23 (by decide) (Nat.le_of_ble_eq_true rfl) (Nat.le_of_ble_eq_true rfl) dX7_init_25 ff_X7_16 (Nat.le_of_ble_eq_true rfl) (fun q3 => ?_)
  refine k_eq (ws' := (h, .inr (7, [.int 0, .int 0, .int 0, .ref q1, .ref q2, .ref q3, .null, .null, .int 0, .null, .int 0, .int 0, .int 0, .int 0, .int 0, .int 0, .int 0, .int 0, .null, .null, .null, .null, .null, .null, .int 0, .null, .null, .int 0, .null, .null, .null, .int 0, .null, .null, .null, .null])) :: [(q1, aI T 9), (q2, aI T 9), (q3, aI T 9)]) rfl ?_
  refine k_cs (c2 := 3) (s2 := 27) rfl rfl ?_
  refine k_a0 X dX7_init_28 ?_
  refine k_bipush (v := nI 9) X dX7_init_29 (by decide) ?_
  refine k_nfI (n := 9) X dX7_init_31 (by decide) (Nat.le_of_ble_eq_true rfl) (Nat.le_of_ble_eq_true rfl) dX7_init_33 ff_X7_19 (Nat.le_of_ble_eq_true rfl) (fun q4 => ?_)
  refine k_eq (ws' := (h, .inr (7, [.int 0, .int 0, .int 0, .ref q1, .ref q2, .ref q3, .ref q4, .null, .int 0, .null, .int 0, .int 0, .int 0, .int 0, .int 0, .int 0, .int 0, .int 0, .null, .null, .null, .null, .null, .null, .int 0, .null, .null, .int 0, .null, .null, .null, .int 0, .null, .null, .null, .null])) :: [(q1, aI T 9), (q2, aI T 9), (q3, aI T 9), (q4, aI T 9)]) rfl ?_
  refine k_cs (c2 := 4) (s2 := 36) rfl rfl ?_
  refine k_a0 X dX7_init_36 ?_
  refine k_bipush (v := nI 66) X dX7_init_37 (by decide) ?_
  refine k_nfI (n := 66) X dX7_init_39 (by decide) (Nat.le_of_ble_eq_true rfl) (Nat.le_of_ble_eq_true rfl) dX7_init_41 ff_X7_22 (Nat.le_of_ble_eq_true rfl) (fun q5 => ?_)
  refine k_eq (ws' := (h, .inr (7, [.int 0, .int 0, .int 0, .ref q1, .ref q2, .ref q3, .ref q4, .ref q5, .int 0, .null, .int 0, .int 0, .int 0, .int 0, .int 0, .int 0, .int 0, .int 0, .null, .null, .null, .null, .null, .null, .int 0, .null, .null, .int 0, .null, .null, .null, .int 0, .null, .null, .null, .null])) :: [(q1, aI T 9), (q2, aI T 9), (q3, aI T 9), (q4, aI T 9), (q5, aI T 66)]) rfl ?_
  refine k_cs (c2 := 5) (s2 := 102) rfl rfl ?_
  refine k_a0 X dX7_init_44 ?_
  refine k_sipush (v := nI 240) X dX7_init_45 (by decide) ?_
  refine k_nfI (n := 240) X dX7_init_48 (by decide) (Nat.le_of_ble_eq_true rfl) (Nat.le_of_ble_eq_true rfl) dX7_init_50 ff_X7_25 (Nat.le_of_ble_eq_true rfl) (fun q6 => ?_)
  refine k_eq (ws' := (h, .inr (7, [.int 0, .int 0, .int 0, .ref q1, .ref q2, .ref q3, .ref q4, .ref q5, .int 0, .ref q6, .int 0, .int 0, .int 0, .int 0, .int 0, .int 0, .int 0, .int 0, .null, .null, .null, .null, .null, .null, .int 0, .null, .null, .int 0, .null, .null, .null, .int 0, .null, .null, .null, .null])) :: [(q1, aI T 9), (q2, aI T 9), (q3, aI T 9), (q4, aI T 9), (q5, aI T 66), (q6, aI T 240)]) rfl ?_
  refine k_cs (c2 := 6) (s2 := 342) rfl rfl ?_
  refine k_a0 X dX7_init_53 ?_
  refine k_iconst (v := -1) X dX7_init_54 (by decide) ?_
  refine k_putI X dX7_init_55 fpi_X7_28 (Nat.le_of_ble_eq_true rfl) ?_
  refine k_eq (ws' := (h, .inr (7, [.int 0, .int 0, .int 0, .ref q1, .ref q2, .ref q3, .ref q4, .ref q5, .int 0, .ref q6, .int 0, .int (-1), .int 0, .int 0, .int 0, .int 0, .int 0, .int 0, .null, .null, .null, .null, .null, .null, .int 0, .null, .null, .int 0, .null, .null, .null, .int 0, .null, .null, .null, .null])) :: [(q1, aI T 9), (q2, aI T 9), (q3, aI T 9), (q4, aI T 9), (q5, aI T 66), (q6, aI T 240)]) rfl ?_
  refine k_cs (c2 := 6) (s2 := 342) rfl rfl ?_
  refine k_a0 X dX7_init_58 ?_
  refine k_bipush (v := nI 9) X dX7_init_59 (by decide) ?_
  refine k_nfI (n := 9) X dX7_init_61 (by decide) (Nat.le_of_ble_eq_true rfl) (Nat.le_of_ble_eq_true rfl) dX7_init_63 ff_X7_32 (Nat.le_of_ble_eq_true rfl) (fun q7 => ?_)
  refine k_eq (ws' := (h, .inr (7, [.int 0, .int 0, .int 0, .ref q1, .ref q2, .ref q3, .ref q4, .ref q5, .int 0, .ref q6, .int 0, .int (-1), .int 0, .int 0, .int 0, .int 0, .int 0, .int 0, .ref q7, .null, .null, .null, .null, .null, .int 0, .null, .null, .int 0, .null, .null, .null, .int 0, .null, .null, .null, .null])) :: [(q1, aI T 9), (q2, aI T 9), (q3, aI T 9), (q4, aI T 9), (q5, aI T 66), (q6, aI T 240), (q7, aI T 9)]) rfl ?_
  refine k_cs (c2 := 7) (s2 := 351) rfl rfl ?_
  refine k_a0 X dX7_init_66 ?_
  refine k_bipush (v := nI 9) X dX7_init_67 (by decide) ?_
  refine k_nfI (n := 9) X dX7_init_69 (by decide) (Nat.le_of_ble_eq_true rfl) (Nat.le_of_ble_eq_true rfl) dX7_init_71 ff_X7_35 (Nat.le_of_ble_eq_true rfl) (fun q8 => ?_)
  refine k_eq (ws' := (h, .inr (7, [.int 0, .int 0, .int 0, .ref q1, .ref q2, .ref q3, .ref q4, .ref q5, .int 0, .ref q6, .int 0, .int (-1), .int 0, .int 0, .int 0, .int 0, .int 0, .int 0, .ref q7, .ref q8, .null, .null, .null, .null, .int 0, .null, .null, .int 0, .null, .null, .null, .int 0, .null, .null, .null, .null])) :: [(q1, aI T 9), (q2, aI T 9), (q3, aI T 9), (q4, aI T 9), (q5, aI T 66), (q6, aI T 240), (q7, aI T 9), (q8, aI T 9)]) rfl ?_
  refine k_cs (c2 := 8) (s2 := 360) rfl rfl ?_
  refine k_a0 X dX7_init_74 ?_
  refine k_bipush (v := nI 9) X dX7_init_75 (by decide) ?_
  refine k_nfI (n := 9) X dX7_init_77 (by decide) (Nat.le_of_ble_eq_true rfl) (Nat.le_of_ble_eq_true rfl) dX7_init_79 ff_X7_38 (Nat.le_of_ble_eq_true rfl) (fun q9 => ?_)
  refine k_eq (ws' := (h, .inr (7, [.int 0, .int 0, .int 0, .ref q1, .ref q2, .ref q3, .ref q4, .ref q5, .int 0, .ref q6, .int 0, .int (-1), .int 0, .int 0, .int 0, .int 0, .int 0, .int 0, .ref q7, .ref q8, .ref q9, .null, .null, .null, .int 0, .null, .null, .int 0, .null, .null, .null, .int 0, .null, .null, .null, .null])) :: [(q1, aI T 9), (q2, aI T 9), (q3, aI T 9), (q4, aI T 9), (q5, aI T 66), (q6, aI T 240), (q7, aI T 9), (q8, aI T 9), (q9, aI T 9)]) rfl ?_
  refine k_cs (c2 := 9) (s2 := 369) rfl rfl ?_
  refine k_a0 X dX7_init_82 ?_
  refine k_bipush (v := nI 9) X dX7_init_83 (by decide) ?_
  refine k_nfI (n := 9) X dX7_init_85 (by decide) (Nat.le_of_ble_eq_true rfl) (Nat.le_of_ble_eq_true rfl) dX7_init_87 ff_X7_41 (Nat.le_of_ble_eq_true rfl) (fun q10 => ?_)
  refine k_eq (ws' := (h, .inr (7, [.int 0, .int 0, .int 0, .ref q1, .ref q2, .ref q3, .ref q4, .ref q5, .int 0, .ref q6, .int 0, .int (-1), .int 0, .int 0, .int 0, .int 0, .int 0, .int 0, .ref q7, .ref q8, .ref q9, .ref q10, .null, .null, .int 0, .null, .null, .int 0, .null, .null, .null, .int 0, .null, .null, .null, .null])) :: [(q1, aI T 9), (q2, aI T 9), (q3, aI T 9), (q4, aI T 9), (q5, aI T 66), (q6, aI T 240), (q7, aI T 9), (q8, aI T 9), (q9, aI T 9), (q10, aI T 9)]) rfl ?_
  refine k_cs (c2 := 10) (s2 := 378) rfl rfl ?_
  refine k_a0 X dX7_init_90 ?_
  refine k_bipush (v := nI 9) X dX7_init_91 (by decide) ?_
  refine k_nfI (n := 9) X dX7_init_93 (by decide) (Nat.le_of_ble_eq_true rfl) (Nat.le_of_ble_eq_true rfl) dX7_init_95 ff_X7_44 (Nat.le_of_ble_eq_true rfl) (fun q11 => ?_)
  refine k_eq (ws' := (h, .inr (7, [.int 0, .int 0, .int 0, .ref q1, .ref q2, .ref q3, .ref q4, .ref q5, .int 0, .ref q6, .int 0, .int (-1), .int 0, .int 0, .int 0, .int 0, .int 0, .int 0, .ref q7, .ref q8, .ref q9, .ref q10, .ref q11, .null, .int 0, .null, .null, .int 0, .null, .null, .null, .int 0, .null, .null, .null, .null])) :: [(q1, aI T 9), (q2, aI T 9), (q3, aI T 9), (q4, aI T 9), (q5, aI T 66), (q6, aI T 240), (q7, aI T 9), (q8, aI T 9), (q9, aI T 9), (q10, aI T 9), (q11, aI T 9)]) rfl ?_
  refine k_cs (c2 := 11) (s2 := 387) rfl rfl ?_
  refine k_a0 X dX7_init_98 ?_
  refine k_bipush (v := nI 9) X dX7_init_99 (by decide) ?_
  refine k_nfZ (n := 9) X dX7_init_101 (by decide) (Nat.le_of_ble_eq_true rfl) (Nat.le_of_ble_eq_true rfl) dX7_init_103 ff_X7_47 (Nat.le_of_ble_eq_true rfl) (fun q12 => ?_)
  refine k_eq (ws' := (h, .inr (7, [.int 0, .int 0, .int 0, .ref q1, .ref q2, .ref q3, .ref q4, .ref q5, .int 0, .ref q6, .int 0, .int (-1), .int 0, .int 0, .int 0, .int 0, .int 0, .int 0, .ref q7, .ref q8, .ref q9, .ref q10, .ref q11, .ref q12, .int 0, .null, .null, .int 0, .null, .null, .null, .int 0, .null, .null, .null, .null])) :: [(q1, aI T 9), (q2, aI T 9), (q3, aI T 9), (q4, aI T 9), (q5, aI T 66), (q6, aI T 240), (q7, aI T 9), (q8, aI T 9), (q9, aI T 9), (q10, aI T 9), (q11, aI T 9), (q12, aZ T 9)]) rfl ?_
  refine k_cs (c2 := 12) (s2 := 396) rfl rfl ?_
  refine k_a0 X dX7_init_106 ?_
  refine k_sipush (v := nI 1056) X dX7_init_107 (by decide) ?_
  refine k_nfI (n := 1056) X dX7_init_110 (by decide) (Nat.le_of_ble_eq_true rfl) (Nat.le_of_ble_eq_true rfl) dX7_init_112 ff_X7_51 (Nat.le_of_ble_eq_true rfl) (fun q13 => ?_)
  refine k_eq (ws' := (h, .inr (7, [.int 0, .int 0, .int 0, .ref q1, .ref q2, .ref q3, .ref q4, .ref q5, .int 0, .ref q6, .int 0, .int (-1), .int 0, .int 0, .int 0, .int 0, .int 0, .int 0, .ref q7, .ref q8, .ref q9, .ref q10, .ref q11, .ref q12, .int 0, .ref q13, .null, .int 0, .null, .null, .null, .int 0, .null, .null, .null, .null])) :: [(q1, aI T 9), (q2, aI T 9), (q3, aI T 9), (q4, aI T 9), (q5, aI T 66), (q6, aI T 240), (q7, aI T 9), (q8, aI T 9), (q9, aI T 9), (q10, aI T 9), (q11, aI T 9), (q12, aZ T 9), (q13, aI T 1056)]) rfl ?_
  refine k_cs (c2 := 13) (s2 := 1452) rfl rfl ?_
  refine k_a0 X dX7_init_115 ?_
  refine k_bipush (v := nI 66) X dX7_init_116 (by decide) ?_
  refine k_nfI (n := 66) X dX7_init_118 (by decide) (Nat.le_of_ble_eq_true rfl) (Nat.le_of_ble_eq_true rfl) dX7_init_120 ff_X7_54 (Nat.le_of_ble_eq_true rfl) (fun q14 => ?_)
  refine k_eq (ws' := (h, .inr (7, [.int 0, .int 0, .int 0, .ref q1, .ref q2, .ref q3, .ref q4, .ref q5, .int 0, .ref q6, .int 0, .int (-1), .int 0, .int 0, .int 0, .int 0, .int 0, .int 0, .ref q7, .ref q8, .ref q9, .ref q10, .ref q11, .ref q12, .int 0, .ref q13, .ref q14, .int 0, .null, .null, .null, .int 0, .null, .null, .null, .null])) :: [(q1, aI T 9), (q2, aI T 9), (q3, aI T 9), (q4, aI T 9), (q5, aI T 66), (q6, aI T 240), (q7, aI T 9), (q8, aI T 9), (q9, aI T 9), (q10, aI T 9), (q11, aI T 9), (q12, aZ T 9), (q13, aI T 1056), (q14, aI T 66)]) rfl ?_
  refine k_cs (c2 := 14) (s2 := 1518) rfl rfl ?_
  refine k_a0 X dX7_init_123 ?_
  refine k_bipush (v := nI 6) X dX7_init_124 (by decide) ?_
  refine k_nfI (n := 6) X dX7_init_126 (by decide) (Nat.le_of_ble_eq_true rfl) (Nat.le_of_ble_eq_true rfl) dX7_init_128 ff_X7_57 (Nat.le_of_ble_eq_true rfl) (fun q15 => ?_)
  refine k_eq (ws' := (h, .inr (7, [.int 0, .int 0, .int 0, .ref q1, .ref q2, .ref q3, .ref q4, .ref q5, .int 0, .ref q6, .int 0, .int (-1), .int 0, .int 0, .int 0, .int 0, .int 0, .int 0, .ref q7, .ref q8, .ref q9, .ref q10, .ref q11, .ref q12, .int 0, .ref q13, .ref q14, .int 0, .ref q15, .null, .null, .int 0, .null, .null, .null, .null])) :: [(q1, aI T 9), (q2, aI T 9), (q3, aI T 9), (q4, aI T 9), (q5, aI T 66), (q6, aI T 240), (q7, aI T 9), (q8, aI T 9), (q9, aI T 9), (q10, aI T 9), (q11, aI T 9), (q12, aZ T 9), (q13, aI T 1056), (q14, aI T 66), (q15, aI T 6)]) rfl ?_
  refine k_cs (c2 := 15) (s2 := 1524) rfl rfl ?_
  refine k_a0 X dX7_init_131 ?_
  refine k_bipush (v := nI 6) X dX7_init_132 (by decide) ?_
  refine k_nfI (n := 6) X dX7_init_134 (by decide) (Nat.le_of_ble_eq_true rfl) (Nat.le_of_ble_eq_true rfl) dX7_init_136 ff_X7_60 (Nat.le_of_ble_eq_true rfl) (fun q16 => ?_)
  refine k_eq (ws' := (h, .inr (7, [.int 0, .int 0, .int 0, .ref q1, .ref q2, .ref q3, .ref q4, .ref q5, .int 0, .ref q6, .int 0, .int (-1), .int 0, .int 0, .int 0, .int 0, .int 0, .int 0, .ref q7, .ref q8, .ref q9, .ref q10, .ref q11, .ref q12, .int 0, .ref q13, .ref q14, .int 0, .ref q15, .ref q16, .null, .int 0, .null, .null, .null, .null])) :: [(q1, aI T 9), (q2, aI T 9), (q3, aI T 9), (q4, aI T 9), (q5, aI T 66), (q6, aI T 240), (q7, aI T 9), (q8, aI T 9), (q9, aI T 9), (q10, aI T 9), (q11, aI T 9), (q12, aZ T 9), (q13, aI T 1056), (q14, aI T 66), (q15, aI T 6), (q16, aI T 6)]) rfl ?_
  refine k_cs (c2 := 16) (s2 := 1530) rfl rfl ?_
  refine k_a0 X dX7_init_139 ?_
  refine k_bipush (v := nI 10) X dX7_init_140 (by decide) ?_
  refine k_nfI (n := 10) X dX7_init_142 (by decide) (Nat.le_of_ble_eq_true rfl) (Nat.le_of_ble_eq_true rfl) dX7_init_144 ff_X7_63 (Nat.le_of_ble_eq_true rfl) (fun q17 => ?_)
  refine k_eq (ws' := (h, .inr (7, [.int 0, .int 0, .int 0, .ref q1, .ref q2, .ref q3, .ref q4, .ref q5, .int 0, .ref q6, .int 0, .int (-1), .int 0, .int 0, .int 0, .int 0, .int 0, .int 0, .ref q7, .ref q8, .ref q9, .ref q10, .ref q11, .ref q12, .int 0, .ref q13, .ref q14, .int 0, .ref q15, .ref q16, .ref q17, .int 0, .null, .null, .null, .null])) :: [(q1, aI T 9), (q2, aI T 9), (q3, aI T 9), (q4, aI T 9), (q5, aI T 66), (q6, aI T 240), (q7, aI T 9), (q8, aI T 9), (q9, aI T 9), (q10, aI T 9), (q11, aI T 9), (q12, aZ T 9), (q13, aI T 1056), (q14, aI T 66), (q15, aI T 6), (q16, aI T 6), (q17, aI T 10)]) rfl ?_
  refine k_cs (c2 := 17) (s2 := 1540) rfl rfl ?_
  refine k_a0 X dX7_init_147 ?_
  refine k_bipush (v := nI 15) X dX7_init_148 (by decide) ?_
  refine k_nfI (n := 15) X dX7_init_150 (by decide) (Nat.le_of_ble_eq_true rfl) (Nat.le_of_ble_eq_true rfl) dX7_init_152 ff_X7_66 (Nat.le_of_ble_eq_true rfl) (fun q18 => ?_)
  refine k_eq (ws' := (h, .inr (7, [.int 0, .int 0, .int 0, .ref q1, .ref q2, .ref q3, .ref q4, .ref q5, .int 0, .ref q6, .int 0, .int (-1), .int 0, .int 0, .int 0, .int 0, .int 0, .int 0, .ref q7, .ref q8, .ref q9, .ref q10, .ref q11, .ref q12, .int 0, .ref q13, .ref q14, .int 0, .ref q15, .ref q16, .ref q17, .int 0, .ref q18, .null, .null, .null])) :: [(q1, aI T 9), (q2, aI T 9), (q3, aI T 9), (q4, aI T 9), (q5, aI T 66), (q6, aI T 240), (q7, aI T 9), (q8, aI T 9), (q9, aI T 9), (q10, aI T 9), (q11, aI T 9), (q12, aZ T 9), (q13, aI T 1056), (q14, aI T 66), (q15, aI T 6), (q16, aI T 6), (q17, aI T 10), (q18, aI T 15)]) rfl ?_
  refine k_cs (c2 := 18) (s2 := 1555) rfl rfl ?_
  refine k_a0 X dX7_init_155 ?_
  refine k_bipush (v := nI 15) X dX7_init_156 (by decide) ?_
  refine k_nfI (n := 15) X dX7_init_158 (by decide) (Nat.le_of_ble_eq_true rfl) (Nat.le_of_ble_eq_true rfl) dX7_init_160 ff_X7_69 (Nat.le_of_ble_eq_true rfl) (fun q19 => ?_)
  refine k_eq (ws' := (h, .inr (7, [.int 0, .int 0, .int 0, .ref q1, .ref q2, .ref q3, .ref q4, .ref q5, .int 0, .ref q6, .int 0, .int (-1), .int 0, .int 0, .int 0, .int 0, .int 0, .int 0, .ref q7, .ref q8, .ref q9, .ref q10, .ref q11, .ref q12, .int 0, .ref q13, .ref q14, .int 0, .ref q15, .ref q16, .ref q17, .int 0, .ref q18, .ref q19, .null, .null])) :: [(q1, aI T 9), (q2, aI T 9), (q3, aI T 9), (q4, aI T 9), (q5, aI T 66), (q6, aI T 240), (q7, aI T 9), (q8, aI T 9), (q9, aI T 9), (q10, aI T 9), (q11, aI T 9), (q12, aZ T 9), (q13, aI T 1056), (q14, aI T 66), (q15, aI T 6), (q16, aI T 6), (q17, aI T 10), (q18, aI T 15), (q19, aI T 15)]) rfl ?_
  refine k_cs (c2 := 19) (s2 := 1570) rfl rfl ?_
  refine k_a0 X dX7_init_163 ?_
  refine k_sipush (v := nI 134) X dX7_init_164 (by decide) ?_
  refine k_nfI (n := 134) X dX7_init_167 (by decide) (Nat.le_of_ble_eq_true rfl) (Nat.le_of_ble_eq_true rfl) dX7_init_169 ff_X7_72 (Nat.le_of_ble_eq_true rfl) (fun q20 => ?_)
  refine k_eq (ws' := (h, .inr (7, [.int 0, .int 0, .int 0, .ref q1, .ref q2, .ref q3, .ref q4, .ref q5, .int 0, .ref q6, .int 0, .int (-1), .int 0, .int 0, .int 0, .int 0, .int 0, .int 0, .ref q7, .ref q8, .ref q9, .ref q10, .ref q11, .ref q12, .int 0, .ref q13, .ref q14, .int 0, .ref q15, .ref q16, .ref q17, .int 0, .ref q18, .ref q19, .ref q20, .null])) :: [(q1, aI T 9), (q2, aI T 9), (q3, aI T 9), (q4, aI T 9), (q5, aI T 66), (q6, aI T 240), (q7, aI T 9), (q8, aI T 9), (q9, aI T 9), (q10, aI T 9), (q11, aI T 9), (q12, aZ T 9), (q13, aI T 1056), (q14, aI T 66), (q15, aI T 6), (q16, aI T 6), (q17, aI T 10), (q18, aI T 15), (q19, aI T 15), (q20, aI T 134)]) rfl ?_
  refine k_cs (c2 := 20) (s2 := 1704) rfl rfl ?_
  refine k_a0 X dX7_init_172 ?_
  refine k_iconst (v := nI 2) X dX7_init_173 (by decide) ?_
  refine k_nfZ (n := 2) X dX7_init_174 (by decide) (Nat.le_of_ble_eq_true rfl) (Nat.le_of_ble_eq_true rfl) dX7_init_176 ff_X7_75 (Nat.le_of_ble_eq_true rfl) (fun q21 => ?_)
  refine k_eq (ws' := (h, .inr (7, [.int 0, .int 0, .int 0, .ref q1, .ref q2, .ref q3, .ref q4, .ref q5, .int 0, .ref q6, .int 0, .int (-1), .int 0, .int 0, .int 0, .int 0, .int 0, .int 0, .ref q7, .ref q8, .ref q9, .ref q10, .ref q11, .ref q12, .int 0, .ref q13, .ref q14, .int 0, .ref q15, .ref q16, .ref q17, .int 0, .ref q18, .ref q19, .ref q20, .ref q21])) :: [(q1, aI T 9), (q2, aI T 9), (q3, aI T 9), (q4, aI T 9), (q5, aI T 66), (q6, aI T 240), (q7, aI T 9), (q8, aI T 9), (q9, aI T 9), (q10, aI T 9), (q11, aI T 9), (q12, aZ T 9), (q13, aI T 1056), (q14, aI T 66), (q15, aI T 6), (q16, aI T 6), (q17, aI T 10), (q18, aI T 15), (q19, aI T 15), (q20, aI T 134), (q21, aZ T 2)]) rfl ?_
  refine k_cs (c2 := 21) (s2 := 1706) rfl rfl ?_
  refine k_a0 X dX7_init_179 ?_
  obtain ⟨ad, b144, b145, b146, b147, b148, b149, b150, b151, b152, b153, b154, b155, b156, b157, b158, b159, b160, b161, b162, b163, b164, b165⟩ : ∃ ad : Nat → Nat, ad 144 = h ∧ ad 145 = q1 ∧ ad 146 = q2 ∧ ad 147 = q3 ∧ ad 148 = q4 ∧ ad 149 = q5 ∧ ad 150 = q6 ∧ ad 151 = q7 ∧ ad 152 = q8 ∧ ad 153 = q9 ∧ ad 154 = q10 ∧ ad 155 = q11 ∧ ad 156 = q12 ∧ ad 157 = q13 ∧ ad 158 = q14 ∧ ad 159 = q15 ∧ ad 160 = q16 ∧ ad 161 = q17 ∧ ad 162 = q18 ∧ ad 163 = q19 ∧ ad 164 = q20 ∧ ad 165 = q21 := ⟨(fun k => if k = 144 then h else if k = 145 then q1 else if k = 146 then q2 else if k = 147 then q3 else if k = 148 then q4 else if k = 149 then q5 else if k = 150 then q6 else if k = 151 then q7 else if k = 152 then q8 else if k = 153 then q9 else if k = 154 then q10 else if k = 155 then q11 else if k = 156 then q12 else if k = 157 then q13 else if k = 158 then q14 else if k = 159 then q15 else if k = 160 then q16 else if k = 161 then q17 else if k = 162 then q18 else if k = 163 then q19 else if k = 164 then q20 else if k = 165 then q21 else 0), rfl, rfl, rfl, rfl, rfl, rfl, rfl, rfl, rfl, rfl, rfl, rfl, rfl, rfl, rfl, rfl, rfl, rfl, rfl, rfl, rfl, rfl⟩
  have ef := ef_X7 (D := D) (T := T) (l := l) ad
  rw [b144, b145, b146, b147, b148, b149, b150, b151, b152, b153, b154, b155, b156, b157, b158, b159, b160, b161, b162, b163, b164, b165] at ef
  obtain ⟨mm, hmm, -⟩ := emX MU0
  refine k_eq (ws' := eW (ad, D, T, l, 144, 22) MU0) ef.symm ?_
  refine k_st (st2 := [.ref (ad 144)]) (by rw [b144]) ?_
  exact k_callEnd (As := []) (k0 := 144) X dX7_init_180 dX7_init_183 rfl cv_X7_78 (fun hi => ct_X7_emptyAll ⟨hi, rfl⟩ MU0 hmm) (Nat.le_of_ble_eq_true rfl) (Nat.le_of_ble_eq_true rfl) ⟨Nat.le_of_ble_eq_true rfl, Nat.le_of_ble_eq_true rfl⟩ ⟨Nat.le_refl _, by show 144 < 144 + 22; decide⟩ (show sh 144 = .inl (7, _) from rfl) rfl (fun t hP hI hAk hK hF => ⟨⟨(ad, mm), rfl, ⟨b144, hmm⟩, hP, hI, hAk, hK⟩, hF⟩)
