/-! BeckTalk() -/
abbrev RB : Room := rmI 3 143 3772
abbrev e6 : va_E := .inr (6, [.null, .null, .null, .null, .null, .null, .null, .null, .int 0, .int 0, .null, .null])
abbrev ixB : List Nat := [1, 2] ++ [3, 4, 5, 6, 7] ++ [8, 9, 10, 11, 12] ++ [24, 24 + 1, 24 + 2, 24 + 3, 24 + 4, 24 + 5] ++ [30, 30 + 1, 30 + 2, 30 + 3, 30 + 4, 30 + 5] ++ (13 :: 14 :: List.range' 48 96) ++ List.range' 36 6 ++ List.range' 42 6 ++ [17, 18, 19, 20] ++ [21, 22, 23]
theorem clB : ∀ k ∈ ixB, ∀ q ∈ rfs k, q ∈ ixB := by decide +kernel
theorem pmB : ([0, 15, 16] ++ ixB).Perm (List.range 144) := by decide +kernel
theorem eF_rng {ad : Nat → Nat} {D : va_G} {T : ClassId × ClassId × ClassId} {l : Launch} {a b a' b' : Nat} (μ : MM) (r : Nat) : ∀ (fs : List (Option Nat)) (j : Nat), eF (ad, D, T, l, a, b) μ r j fs = eF (ad, D, T, l, a', b') μ r j fs
  | [], j => rfl
  | none :: fs, j => by simp only [eF]; rw [eF_rng μ r fs (j + 1)]
  | some q :: fs, j => by simp only [eF]; rw [eF_rng μ r fs (j + 1)]
theorem eC_rng {ad : Nat → Nat} {D : va_G} {T : ClassId × ClassId × ClassId} {l : Launch} {a b a' b' : Nat} {μ : MM} {k : Nat} : eC (ad, D, T, l, a, b) μ k = eC (ad, D, T, l, a', b') μ k := by
  unfold eC
  rcases sh k with ⟨ci, fs⟩ | ⟨t, n⟩ | qs
  · simp only [eC']; rw [eF_rng μ k fs 0]
  · rfl
  · rfl
theorem eW_fam {D : va_G} {T : ClassId × ClassId × ClassId} {l : Launch} {ad : Nat → Nat} : eW (ad, D, T, l, 0, 144) MU0 = fam D T l ad (List.range 144) := by
  unfold eW fam
  apply List.map_congr_left
  intro k _
  show (ad (0 + k), eC (ad, D, T, l, 0, 144) MU0 (0 + k)) = _
  rw [Nat.zero_add]
  exact congrArg (fun z => (ad k, z)) eC_rng
/-- BeckTalk(): all its cells, its world not yet begun -/
theorem ci_X6 {D : va_G} {T : ClassId × ClassId × ClassId} {l : Launch} (h sz : Nat) : Met l yX6_init (.code yX6_init cX6_init 2 none :: wG) RB (va_Pc [.ref h] (fun U => U.heap.size = sz ∧ va_P D vwCl [(h, e6)] U.heap ∧ KS D T l U)) (va_Qv (fun u : (Nat → Nat) × MM => u.1 0 = h ∧ u.2 = MU0) (fun u t => VP (u.1, D, T, l, 0, 144) u.2 t.heap ∧ INJ (u.1, D, T, l, 0, 144) ∧ (∀ k, dom (u.1, D, T, l, 0, 144) k → va_A [(h, e6)] sz (u.1 k)) ∧ KS D T l t) (va_A [(h, e6)] sz)) 143 3772 (va_A [(h, e6)] sz) := by
  refine met_of (mi := mi_X6_init) (k := 1) (by decide +kernel) rfl rfl rfl (fun p e s m below meth c hsz X => ?_)
  refine k_a0 X dX6_init_0 ?_
  refine k_obj X dX6_init_1 oi_X6 (by decide) (by decide) ?_
  refine k_eq (ws' := (h, e6) :: ([] ++ fam D T l (fun _ => 0) [])) rfl ?_
  refine k_mkN (ext := []) (w := 1) (k := 0) X nw_X6_7 (Or.inl in_X6_9) ci_X4_1 ff_X6_10 (by decide +kernel) (by decide +kernel) (by decide +kernel) (by decide +kernel) (Nat.le_of_ble_eq_true rfl) (Nat.le_of_ble_eq_true rfl) (Nat.le_of_ble_eq_true rfl) (Nat.le_of_ble_eq_true rfl) (Nat.le_of_ble_eq_true rfl) dX6_init_4 dX6_init_5 dX6_init_8 dX6_init_9 dX6_init_12 (fun a1 q1 e1 g1 => ?_)
  refine k_mkN (ext := []) (w := 3) (k := 1) X nw_X6_16 (Or.inl in_X6_18) ci_X1_3 ff_X6_19 (by decide +kernel) (by decide +kernel) (by decide +kernel) (by decide +kernel) (Nat.le_of_ble_eq_true rfl) (Nat.le_of_ble_eq_true rfl) (Nat.le_of_ble_eq_true rfl) (Nat.le_of_ble_eq_true rfl) (Nat.le_of_ble_eq_true rfl) dX6_init_15 dX6_init_16 dX6_init_19 dX6_init_20 dX6_init_23 (fun a3 q3 e3 g3 => ?_)
  refine k_mkN (ext := []) (w := 8) (k := 2) X nw_X6_16 (Or.inl in_X6_18) ci_X1_8 ff_X6_23 (by decide +kernel) (by decide +kernel) (by decide +kernel) (by decide +kernel) (Nat.le_of_ble_eq_true rfl) (Nat.le_of_ble_eq_true rfl) (Nat.le_of_ble_eq_true rfl) (Nat.le_of_ble_eq_true rfl) (Nat.le_of_ble_eq_true rfl) dX6_init_26 dX6_init_27 dX6_init_30 dX6_init_31 dX6_init_34 (fun a8 q8 e8 g8 => ?_)
  refine k_mkN (ext := []) (w := 24) (k := 3) X nw_X6_26 (Or.inl in_X6_28) (ci_X5 w24) ff_X6_29 (by decide +kernel) (by decide +kernel) (by decide +kernel) (by decide +kernel) (Nat.le_of_ble_eq_true rfl) (Nat.le_of_ble_eq_true rfl) (Nat.le_of_ble_eq_true rfl) (Nat.le_of_ble_eq_true rfl) (Nat.le_of_ble_eq_true rfl) dX6_init_37 dX6_init_38 dX6_init_41 dX6_init_42 dX6_init_45 (fun a24 q24 e24 g24 => ?_)
  refine k_mkN (ext := []) (w := 30) (k := 4) X nw_X6_26 (Or.inl in_X6_28) (ci_X5 w30) ff_X6_33 (by decide +kernel) (by decide +kernel) (by decide +kernel) (by decide +kernel) (Nat.le_of_ble_eq_true rfl) (Nat.le_of_ble_eq_true rfl) (Nat.le_of_ble_eq_true rfl) (Nat.le_of_ble_eq_true rfl) (Nat.le_of_ble_eq_true rfl) dX6_init_48 dX6_init_49 dX6_init_52 dX6_init_53 dX6_init_56 (fun a30 q30 e30 g30 => ?_)
  refine k_mkN (ext := []) (w := 13) (k := 5) X nw_X6_36 (Or.inr is_X6_38) ci_X3 ff_X6_39 (by decide +kernel) (by decide +kernel) (by decide +kernel) (by decide +kernel) (Nat.le_of_ble_eq_true rfl) (Nat.le_of_ble_eq_true rfl) (Nat.le_of_ble_eq_true rfl) (Nat.le_of_ble_eq_true rfl) (Nat.le_of_ble_eq_true rfl) dX6_init_59 dX6_init_60 dX6_init_63 dX6_init_64 dX6_init_67 (fun a13 q13 e13 g13 => ?_)
  refine k_a0 X dX6_init_70 ?_
  refine k_iconst (v := nI 2) X dX6_init_71 rfl ?_
  refine k_newQ (n := 2) X dX6_init_72 cl_X6 (by decide) (Nat.le_of_ble_eq_true rfl) (Nat.le_of_ble_eq_true rfl) (fun qi => ?_)
  refine k_putF X dX6_init_75 ff_X6_43 (Nat.le_of_ble_eq_true rfl) ?_
  refine k_iconst (v := nI 0) X dX6_init_78 rfl ?_
  refine k_s1 X (by decide) dX6_init_79 ?_
  refine k_perm (List.Perm.cons _ List.perm_append_comm) ?_
  refine imgStep (j := 0) (w := 36) X (by decide) ⟨2, by decide, rfl⟩ rfl (by decide +kernel) (by decide +kernel) (by decide +kernel) (Nat.le_of_ble_eq_true rfl) (Nat.le_of_ble_eq_true rfl) (Nat.le_of_ble_eq_true rfl) (Nat.le_of_ble_eq_true rfl) (fun a36 q36 e36 g36 => ?_)
  refine imgStep (j := 1) (w := 42) X (by decide) ⟨3, by decide, rfl⟩ rfl (by decide +kernel) (by decide +kernel) (by decide +kernel) (Nat.le_of_ble_eq_true rfl) (Nat.le_of_ble_eq_true rfl) (Nat.le_of_ble_eq_true rfl) (Nat.le_of_ble_eq_true rfl) (fun a42 q42 e42 g42 => ?_)
  refine k_i1 X dX6_init_80 ?_
  refine k_a0 X dX6_init_81 ?_
  refine k_getR (q := qi) X dX6_init_82 fa_X6_43 rfl ?_
  refine k_alen X dX6_init_85 ?_
  refine k_ge (tgt := 108) X dX6_init_86 (by decide) (fun _ => ?_) (fun h => absurd (nI_le (Nat.le_refl 2) (by decide)) h)
  refine k_a0 X dX6_init_108 ?_
  refine k_iconst (v := nI 2) X dX6_init_109 rfl ?_
  refine k_newI (n := 2) X dX6_init_110 (by decide) (Nat.le_of_ble_eq_true rfl) (Nat.le_of_ble_eq_true rfl) (fun qs => ?_)
  refine k_putF X dX6_init_112 ff_X6_47 (Nat.le_of_ble_eq_true rfl) ?_
  refine k_perm (List.Perm.cons _ (List.Perm.cons _ List.perm_append_comm)) ?_
  refine k_mkN (ext := [(qi, aQ T 2 (va_up (va_up (fun _ => none) 0 (some q36)) 1 (some q42))), (qs, .inl (T.1, 2, .inl (fun _ => 0)))]) (w := 17) (k := 10) X nw_X6_51 (Or.inl in_X6_53) ci_X2_17 ff_X6_54 (by decide +kernel) (by decide +kernel) (by decide +kernel) (by decide +kernel) (Nat.le_of_ble_eq_true rfl) (Nat.le_of_ble_eq_true rfl) (Nat.le_of_ble_eq_true rfl) (Nat.le_of_ble_eq_true rfl) (Nat.le_of_ble_eq_true rfl) dX6_init_115 dX6_init_116 dX6_init_119 dX6_init_120 dX6_init_123 (fun a17 q17 e17 g17 => ?_)
  refine k_mkN (ext := [(qi, aQ T 2 (va_up (va_up (fun _ => none) 0 (some q36)) 1 (some q42))), (qs, .inl (T.1, 2, .inl (fun _ => 0)))]) (w := 21) (k := 11) X nw_X6_58 (Or.inl in_X6_60) ci_X0_21 ff_X6_61 (by decide +kernel) (by decide +kernel) (by decide +kernel) (by decide +kernel) (Nat.le_of_ble_eq_true rfl) (Nat.le_of_ble_eq_true rfl) (Nat.le_of_ble_eq_true rfl) (Nat.le_of_ble_eq_true rfl) (Nat.le_of_ble_eq_true rfl) dX6_init_126 dX6_init_127 dX6_init_130 dX6_init_131 dX6_init_134 (fun a21 q21 e21 g21 => ?_)
  have f1 : a21 1 = q1 := ((g21 1 (by decide +kernel)).trans ((g17 1 (by decide +kernel)).trans ((g42 1 (by decide +kernel)).trans ((g36 1 (by decide +kernel)).trans ((g13 1 (by decide +kernel)).trans ((g30 1 (by decide +kernel)).trans ((g24 1 (by decide +kernel)).trans ((g8 1 (by decide +kernel)).trans ((g3 1 (by decide +kernel)).trans e1)))))))))
  have f3 : a21 3 = q3 := ((g21 3 (by decide +kernel)).trans ((g17 3 (by decide +kernel)).trans ((g42 3 (by decide +kernel)).trans ((g36 3 (by decide +kernel)).trans ((g13 3 (by decide +kernel)).trans ((g30 3 (by decide +kernel)).trans ((g24 3 (by decide +kernel)).trans ((g8 3 (by decide +kernel)).trans e3))))))))
  have f8 : a21 8 = q8 := ((g21 8 (by decide +kernel)).trans ((g17 8 (by decide +kernel)).trans ((g42 8 (by decide +kernel)).trans ((g36 8 (by decide +kernel)).trans ((g13 8 (by decide +kernel)).trans ((g30 8 (by decide +kernel)).trans ((g24 8 (by decide +kernel)).trans e8)))))))
  have f24 : a21 24 = q24 := ((g21 24 (by decide +kernel)).trans ((g17 24 (by decide +kernel)).trans ((g42 24 (by decide +kernel)).trans ((g36 24 (by decide +kernel)).trans ((g13 24 (by decide +kernel)).trans ((g30 24 (by decide +kernel)).trans e24))))))
  have f30 : a21 30 = q30 := ((g21 30 (by decide +kernel)).trans ((g17 30 (by decide +kernel)).trans ((g42 30 (by decide +kernel)).trans ((g36 30 (by decide +kernel)).trans ((g13 30 (by decide +kernel)).trans e30)))))
  have f13 : a21 13 = q13 := ((g21 13 (by decide +kernel)).trans ((g17 13 (by decide +kernel)).trans ((g42 13 (by decide +kernel)).trans ((g36 13 (by decide +kernel)).trans e13))))
  have f36 : a21 36 = q36 := ((g21 36 (by decide +kernel)).trans ((g17 36 (by decide +kernel)).trans ((g42 36 (by decide +kernel)).trans e36)))
  have f42 : a21 42 = q42 := ((g21 42 (by decide +kernel)).trans ((g17 42 (by decide +kernel)).trans e42))
  have f17 : a21 17 = q17 := ((g21 17 (by decide +kernel)).trans e17)
  have f21 : a21 21 = q21 := e21
  generalize hA2 : (fun k => if k = 0 then h else if k = 15 then qi else if k = 16 then qs else a21 k) = ad
  have b0 : ad 0 = h := by rw [← hA2]; rfl
  have b15 : ad 15 = qi := by rw [← hA2]; rfl
  have b16 : ad 16 = qs := by rw [← hA2]; rfl
  have bk : ∀ k, k ≠ 0 → k ≠ 15 → k ≠ 16 → ad k = a21 k := fun k h1 h2 h3 => by rw [← hA2]; simp only; rw [if_neg h1, if_neg h2, if_neg h3]
  have c1 : ad 1 = q1 := by rw [bk 1 (by decide) (by decide) (by decide)]; exact f1
  have c3 : ad 3 = q3 := by rw [bk 3 (by decide) (by decide) (by decide)]; exact f3
  have c8 : ad 8 = q8 := by rw [bk 8 (by decide) (by decide) (by decide)]; exact f8
  have c24 : ad 24 = q24 := by rw [bk 24 (by decide) (by decide) (by decide)]; exact f24
  have c30 : ad 30 = q30 := by rw [bk 30 (by decide) (by decide) (by decide)]; exact f30
  have c13 : ad 13 = q13 := by rw [bk 13 (by decide) (by decide) (by decide)]; exact f13
  have c36 : ad 36 = q36 := by rw [bk 36 (by decide) (by decide) (by decide)]; exact f36
  have c42 : ad 42 = q42 := by rw [bk 42 (by decide) (by decide) (by decide)]; exact f42
  have c17 : ad 17 = q17 := by rw [bk 17 (by decide) (by decide) (by decide)]; exact f17
  have c21 : ad 21 = q21 := by rw [bk 21 (by decide) (by decide) (by decide)]; exact f21
  have hfn : (fun i : Nat => ([36, 42][i]?).map ad) = va_up (va_up (fun _ => none) 0 (some q36)) 1 (some q42) := by
    funext i
    unfold va_up
    have hc : i = 0 ∨ i = 1 ∨ 2 ≤ i := by omega
    rcases hc with rfl | rfl | hi
    · show some (ad 36) = _; rw [c36]; rfl
    · show some (ad 42) = _; rw [c42]; rfl
    · rw [List.getElem?_eq_none (by show 2 ≤ i; exact hi), if_neg (by omega)]
      show none = if i = 0 then _ else _
      rw [if_neg (by omega)]
  have ef : fam D T l ad ([0, 15, 16] ++ ixB) = (h, .inr (6, [.ref q1, .ref q3, .ref q8, .ref q24, .ref q30, .ref q13, .ref qi, .ref qs, .int 0, .int 0, .ref q17, .ref q21])) :: ([(qi, aQ T 2 (va_up (va_up (fun _ => none) 0 (some q36)) 1 (some q42))), (qs, .inl (T.1, 2, .inl (fun _ => 0)))] ++ fam D T l a21 ixB) := by
    rw [fam_app, fam_ad (ad' := a21) clB (fun k hk => bk k (by rintro rfl; exact absurd hk (by decide +kernel)) (by rintro rfl; exact absurd hk (by decide +kernel)) (by rintro rfl; exact absurd hk (by decide +kernel)))]
    show (ad 0, Sum.inr (6, [Value.ref (ad 1), .ref (ad 3), .ref (ad 8), .ref (ad 24), .ref (ad 30), .ref (ad 13), .ref (ad 15), .ref (ad 16), .int 0, .int 0, .ref (ad 17), .ref (ad 21)])) :: (ad 15, aQ T 2 (fun i : Nat => ([36, 42][i]?).map ad)) :: (ad 16, Sum.inl (T.1, 2, Sum.inl (fun _ => 0))) :: fam D T l a21 ixB = _
    rw [hfn, b0, b15, b16, c1, c3, c8, c24, c30, c13, c17, c21]
    rfl
  have hp : List.Perm (α := Nat × va_E) ((h, .inr (6, [.ref q1, .ref q3, .ref q8, .ref q24, .ref q30, .ref q13, .ref qi, .ref qs, .int 0, .int 0, .ref q17, .ref q21])) :: ([(qi, aQ T 2 (va_up (va_up (fun _ => none) 0 (some q36)) 1 (some q42))), (qs, .inl (T.1, 2, .inl (fun _ => 0)))] ++ fam D T l a21 ixB)) (eW (ad, D, T, l, 0, 144) MU0) := by
    rw [← ef, eW_fam]
    exact pmB.map _
  refine k_perm hp ?_
  exact k_ret X dX6_init_137 rfl (fun t hP hD hK hF => ⟨⟨(ad, MU0), rfl, ⟨b0, rfl⟩, hP, (inj_of hD).1, (inj_of hD).2, hK⟩, hF⟩)
