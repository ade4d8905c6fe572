set_option maxHeartbeats 4000000 in
set_option maxRecDepth 100000 in
theorem ct_X7_pass {g : GT} (hg : GR g)  (μ : MM)  {r : MM} (hF : f_X7_pass  μ = some r) : Ct g 4 mi_X7_pass [.ref 144] μ (QV r) := by
  refine ct_of (k := 0) (by decide +kernel) rfl hg.1 rfl ?_
  show WA g 4 mi_X7_pass 0 [some (.ref 144)] [] μ (QV r)
  unfold f_X7_pass at hF
  refine a_aload_0 dX7_pass_0 ?_
  refine a_getR (q := 149) dX7_pass_1 fa_X7_22 (hg.d (by decide)) rfl rfl ?_
  refine a_bipush (v := 11) dX7_pass_4 (by decide) ?_
  refine a_ldC (j := 11) dX7_pass_6 (hg.d (by decide)) rfl (vi (by decide)) (by decide) ?_
  obtain ⟨j1, ej7, hF⟩ := ob_e hF
  have KJ7 : WA g 4 mi_X7_pass 24 [some (.ref 144)] [] j1 (QV r) := by
    refine a_aload_0 dX7_pass_24 ?_
    refine a_getR (q := 149) dX7_pass_25 fa_X7_22 (hg.d (by decide)) rfl rfl ?_
    refine a_bipush (v := 10) dX7_pass_28 (by decide) ?_
    refine a_dup2 dX7_pass_30 rfl rfl ?_
    refine a_ldC (j := 10) dX7_pass_31 (hg.d (by decide)) rfl (vi (by decide)) (by decide) ?_
    refine a_aload_0 dX7_pass_32 ?_
    refine a_getR (q := 149) dX7_pass_33 fa_X7_22 (hg.d (by decide)) rfl rfl ?_
    refine a_bipush (v := 12) dX7_pass_36 (by decide) ?_
    refine a_ldC (j := 12) dX7_pass_38 (hg.d (by decide)) rfl (vi (by decide)) (by decide) ?_
    refine a_bipush (v := 6) dX7_pass_39 (by decide) ?_
    refine a_rem dX7_pass_41 (by decide) ?_
    refine a_iconst (v := 5) dX7_pass_42 (by decide) ?_
    obtain ⟨j3, ej43, hF⟩ := bd_e hF
    replace ej43 := ej43.symm
    have KJ43 : WA g 4 mi_X7_pass 61 [some (.ref 144)] [.int j3, .int (j1 149 10), .int 10, .ref 149] j1 (QV r) := by
      refine a_isub dX7_pass_61 ?_
      obtain ⟨μ4, eμ4, hF⟩ := bd_e hF
      refine a_sI eμ4 dX7_pass_62 (hg.d (by decide)) rfl (vi (by decide)) (by decide) ?_
      refine a_aload_0 dX7_pass_63 ?_
      refine a_getR (q := 149) dX7_pass_64 fa_X7_22 (hg.d (by decide)) rfl rfl ?_
      refine a_bipush (v := 12) dX7_pass_67 (by decide) ?_
      refine a_dup2 dX7_pass_69 rfl rfl ?_
      refine a_ldC (j := 12) dX7_pass_70 (hg.d (by decide)) rfl (vi (by decide)) (by decide) ?_
      refine a_iconst (v := 1) dX7_pass_71 (by decide) ?_
      refine a_iadd dX7_pass_72 ?_
      obtain ⟨μ5, eμ5, hF⟩ := bd_e hF
      refine a_sI eμ5 dX7_pass_73 (hg.d (by decide)) rfl (vi (by decide)) (by decide) ?_
      obtain rfl := Option.some.inj hF
      exact a_vret dX7_pass_74 rfl ⟨rfl, rfl⟩
    refine a_icmp_ne (tgt := 60) dX7_pass_43 (by decide) (fun h43 => ?_) (fun h43 => ?_)
    · rw [if_neg h43] at ej43
      refine a_iconst (v := 0) dX7_pass_60 (by decide) ?_
      subst ej43
      exact KJ43
    · rw [if_pos h43] at ej43
      refine a_aload_0 dX7_pass_46 ?_
      refine a_getR (q := 149) dX7_pass_47 fa_X7_22 (hg.d (by decide)) rfl rfl ?_
      refine a_bipush (v := 10) dX7_pass_50 (by decide) ?_
      refine a_ldC (j := 10) dX7_pass_52 (hg.d (by decide)) rfl (vi (by decide)) (by decide) ?_
      refine a_if_le (tgt := 60) dX7_pass_53 (by decide) (fun h53 => ?_) (fun h53 => ?_)
      · rw [if_pos h53] at ej43
        refine a_iconst (v := 0) dX7_pass_60 (by decide) ?_
        subst ej43
        exact KJ43
      · rw [if_neg h53] at ej43
        refine a_iconst (v := 1) dX7_pass_56 (by decide) ?_
        refine a_goto (tgt := 61) dX7_pass_57 (by decide) ?_
        subst ej43
        exact KJ43
  refine a_if_ne (tgt := 24) dX7_pass_7 (by decide) (fun h7 => ?_) (fun h7 => ?_)
  · rw [if_neg h7] at ej7
    obtain rfl := Option.some.inj ej7
    exact KJ7
  · rw [if_pos h7] at ej7
    refine a_aload_0 dX7_pass_10 ?_
    refine a_getR (q := 149) dX7_pass_11 fa_X7_22 (hg.d (by decide)) rfl rfl ?_
    refine a_bipush (v := 10) dX7_pass_14 (by decide) ?_
    refine a_ldC (j := 10) dX7_pass_16 (hg.d (by decide)) rfl (vi (by decide)) (by decide) ?_
    refine a_if_le (tgt := 24) dX7_pass_17 (by decide) (fun h17 => ?_) (fun h17 => ?_)
    · rw [if_pos h17] at ej7
      obtain rfl := Option.some.inj ej7
      exact KJ7
    · rw [if_neg h17] at ej7
      refine a_aload_0 dX7_pass_20 ?_
      obtain ⟨x2, ex2, ej7⟩ := ob_e ej7
      refine a_vV0 dX7_pass_21 cv_X7_203 (ct_X7_goAll hg μ ex2) (by decide) (hg.d (by decide)) rfl (Nat.le_of_ble_eq_true rfl) ?_
      obtain rfl := Option.some.inj ej7
      exact KJ7
set_option maxHeartbeats 4000000 in
set_option maxRecDepth 100000 in
theorem ct_X7_downOf_L15 {g : GT} (hg : GR g) (l1 : Int32) (μ : MM)  {Q : Option Value → MM → Prop} : ∀ (n : Nat) (l2 : Int32) (l3 : Int32) (l4 : Int32) (z : Int32 × Int32 × Int32), f_X7_downOf_L15 l1 μ n l2 l3 l4 = some z → (WA g 2 mi_X7_downOf 51 [some (.ref 144), some (.int l1), some (.int z.1), some (.int z.2.1), some (.int z.2.2)] [] μ Q) → WA g 2 mi_X7_downOf 15 [some (.ref 144), some (.int l1), some (.int l2), some (.int l3), some (.int l4)] [] μ Q := by
  intro n
  induction n with
  | zero => intro l2 l3 l4 z hF; exact absurd hF (by simp [f_X7_downOf_L15])
  | succ n ih =>
    intro l2 l3 l4 z hF K
    unfold f_X7_downOf_L15 at hF
    refine a_iload_4 dX7_downOf_15 ?_
    refine a_if_eq (tgt := 51) dX7_downOf_17 (by decide) (fun h17 => ?_) (fun h17 => ?_)
    · rw [if_pos h17] at hF
      obtain rfl := Option.some.inj hF
      exact K
    · rw [if_neg h17] at hF
      refine a_aload_0 dX7_downOf_20 ?_
      refine a_getR (q := 145) dX7_downOf_21 fa_X7_7 (hg.d (by decide)) rfl rfl ?_
      refine a_iload_3 dX7_downOf_24 ?_
      obtain ⟨hx25, hF⟩ := gd_e hF
      refine a_ldC dX7_downOf_25 (hg.d (by decide)) rfl hx25 rfl ?_
      obtain ⟨v2, ev2, hF⟩ := bd_e hF
      refine a_nm ev2 ?_
      refine a_istore_3 dX7_downOf_26 (by decide) rfl ?_
      refine a_iload_2 dX7_downOf_27 ?_
      refine a_iconst (v := 1) dX7_downOf_28 (by decide) ?_
      refine a_iload_3 dX7_downOf_29 ?_
      refine a_shl dX7_downOf_30 ?_
      refine a_ior dX7_downOf_31 ?_
      obtain ⟨v3, ev3, hF⟩ := bd_e hF
      refine a_nm ev3 ?_
      refine a_istore_2 dX7_downOf_32 (by decide) rfl ?_
      refine a_aload_0 dX7_downOf_33 ?_
      refine a_iload_3 dX7_downOf_34 ?_
      obtain ⟨x4, ex4, hF⟩ := bd_e hF
      refine a_iV1 dX7_downOf_35 cv_X7_192 (ct_X7_stopsAt hg v2 μ ex4.symm) (by decide) (hg.d (by decide)) rfl (Nat.le_of_ble_eq_true rfl) ?_
      refine a_if_ne (tgt := 45) dX7_downOf_38 (by decide) (fun h38 => ?_) (fun h38 => ?_)
      · rw [if_neg h38] at hF
        refine a_iconst (v := 0) dX7_downOf_45 (by decide) ?_
        refine a_istore_4 dX7_downOf_46 (by decide) rfl ?_
        refine a_goto (tgt := 15) dX7_downOf_48 (by decide) ?_
        exact ih v3 v2 0 _ hF K
      · rw [if_pos h38] at hF
        refine a_iconst (v := 1) dX7_downOf_41 (by decide) ?_
        refine a_goto (tgt := 46) dX7_downOf_42 (by decide) ?_
        refine a_istore_4 dX7_downOf_46 (by decide) rfl ?_
        refine a_goto (tgt := 15) dX7_downOf_48 (by decide) ?_
        exact ih v3 v2 1 _ hF K
set_option maxHeartbeats 4000000 in
set_option maxRecDepth 100000 in
theorem ct_X7_downOf {g : GT} (hg : GR g) (p1 : Int32) (μ : MM)  {r : Int32} (hF : f_X7_downOf p1 μ = some r) : Ct g 2 mi_X7_downOf [.ref 144, .int p1] μ (QI r μ) := by
  refine ct_of (k := 3) (by decide +kernel) rfl hg.1 rfl ?_
  show WA g 2 mi_X7_downOf 0 [some (.ref 144), some (.int p1), none, none, none] [] μ (QI r μ)
  unfold f_X7_downOf at hF
  refine a_iconst (v := 0) dX7_downOf_0 (by decide) ?_
  refine a_istore_2 dX7_downOf_1 (by decide) rfl ?_
  refine a_iload_1 dX7_downOf_2 ?_
  refine a_istore_3 dX7_downOf_3 (by decide) rfl ?_
  refine a_iload_1 dX7_downOf_4 ?_
  obtain ⟨j1, ej5, hF⟩ := bd_e hF
  replace ej5 := ej5.symm
  have KJ5 : WA g 2 mi_X7_downOf 13 [some (.ref 144), some (.int p1), some (.int 0), some (.int p1), none] [.int j1] μ (QI r μ) := by
    refine a_istore_4 dX7_downOf_13 (by decide) rfl ?_
    obtain ⟨z5, ez5, hF⟩ := ob_e hF
    refine ct_X7_downOf_L15 hg p1 μ  FU 0 p1 j1 z5 ez5 ?_
    refine a_iload_2 dX7_downOf_51 ?_
    obtain rfl := Option.some.inj hF
    exact a_iret dX7_downOf_52 rfl ⟨rfl, rfl⟩
  refine a_if_eq (tgt := 12) dX7_downOf_5 (by decide) (fun h5 => ?_) (fun h5 => ?_)
  · rw [if_pos h5] at ej5
    refine a_iconst (v := 0) dX7_downOf_12 (by decide) ?_
    subst ej5
    exact KJ5
  · rw [if_neg h5] at ej5
    refine a_iconst (v := 1) dX7_downOf_8 (by decide) ?_
    refine a_goto (tgt := 13) dX7_downOf_9 (by decide) ?_
    subst ej5
    exact KJ5
set_option maxHeartbeats 4000000 in
set_option maxRecDepth 100000 in
theorem ct_X7_upOf_L4 {g : GT} (hg : GR g) (l1 : Int32) (μ : MM)  {Q : Option Value → MM → Prop} : ∀ (n : Nat) (l2 : Int32) (l3 : Int32) (z : Int32 × Int32), f_X7_upOf_L4 l1 μ n l2 l3 = some z → (WA g 3 mi_X7_upOf 40 [some (.ref 144), some (.int l1), some (.int z.1), some (.int z.2)] [] μ Q) → WA g 3 mi_X7_upOf 4 [some (.ref 144), some (.int l1), some (.int l2), some (.int l3)] [] μ Q := by
  intro n
  induction n with
  | zero => intro l2 l3 z hF; exact absurd hF (by simp [f_X7_upOf_L4])
  | succ n ih =>
    intro l2 l3 z hF K
    unfold f_X7_upOf_L4 at hF
    refine a_iload_3 dX7_upOf_4 ?_
    refine a_aload_0 dX7_upOf_5 ?_
    refine a_getI dX7_upOf_6 fa_X7_81 (hg.d (by decide)) rfl rfl ?_
    refine a_icmp_ge (tgt := 40) dX7_upOf_9 (by decide) (fun h9 => ?_) (fun h9 => ?_)
    · rw [if_pos h9] at hF
      obtain rfl := Option.some.inj hF
      exact K
    · rw [if_neg h9] at hF
      refine a_iload_2 dX7_upOf_12 ?_
      refine a_aload_0 dX7_upOf_13 ?_
      refine a_iload_3 dX7_upOf_14 ?_
      obtain ⟨x1, ex1, hF⟩ := ob_e hF
      refine a_iV1 dX7_upOf_15 cv_X7_206 (ct_X7_downOf hg l3 μ ex1) (by decide) (hg.d (by decide)) rfl (Nat.le_of_ble_eq_true rfl) ?_
      refine a_iload_1 dX7_upOf_18 ?_
      obtain ⟨x2, ex2, hF⟩ := bd_e hF
      refine a_iS2 dX7_upOf_19 cs_X7_163 (ct_X7_has hg x1 l1 μ ex2.symm) (by decide) (Nat.le_of_ble_eq_true rfl) ?_
      refine a_if_eq (tgt := 31) dX7_upOf_22 (by decide) (fun h22 => ?_) (fun h22 => ?_)
      · rw [if_pos h22] at hF
        refine a_iconst (v := 0) dX7_upOf_31 (by decide) ?_
        refine a_ior dX7_upOf_32 ?_
        obtain ⟨v3, ev3, hF⟩ := bd_e hF
        refine a_nm ev3 ?_
        refine a_istore_2 dX7_upOf_33 (by decide) rfl ?_
        refine a_iinc_3 (c0 := 1) dX7_upOf_34 (by decide) (by decide) rfl ?_
        refine a_goto (tgt := 4) dX7_upOf_37 (by decide) ?_
        exact ih v3 (l3 + 1) _ hF K
      · rw [if_neg h22] at hF
        refine a_iconst (v := 1) dX7_upOf_25 (by decide) ?_
        refine a_iload_3 dX7_upOf_26 ?_
        refine a_shl dX7_upOf_27 ?_
        refine a_goto (tgt := 32) dX7_upOf_28 (by decide) ?_
        refine a_ior dX7_upOf_32 ?_
        obtain ⟨v4, ev4, hF⟩ := bd_e hF
        refine a_nm ev4 ?_
        refine a_istore_2 dX7_upOf_33 (by decide) rfl ?_
        refine a_iinc_3 (c0 := 1) dX7_upOf_34 (by decide) (by decide) rfl ?_
        refine a_goto (tgt := 4) dX7_upOf_37 (by decide) ?_
        exact ih v4 (l3 + 1) _ hF K
set_option maxHeartbeats 4000000 in
set_option maxRecDepth 100000 in
theorem ct_X7_upOf {g : GT} (hg : GR g) (p1 : Int32) (μ : MM)  {r : Int32} (hF : f_X7_upOf p1 μ = some r) : Ct g 3 mi_X7_upOf [.ref 144, .int p1] μ (QI r μ) := by
  refine ct_of (k := 2) (by decide +kernel) rfl hg.1 rfl ?_
  show WA g 3 mi_X7_upOf 0 [some (.ref 144), some (.int p1), none, none] [] μ (QI r μ)
  unfold f_X7_upOf at hF
  refine a_iconst (v := 0) dX7_upOf_0 (by decide) ?_
  refine a_istore_2 dX7_upOf_1 (by decide) rfl ?_
  refine a_iconst (v := 0) dX7_upOf_2 (by decide) ?_
  refine a_istore_3 dX7_upOf_3 (by decide) rfl ?_
  obtain ⟨z5, ez5, hF⟩ := ob_e hF
  refine ct_X7_upOf_L4 hg p1 μ  FU 0 0 z5 ez5 ?_
  refine a_iload_2 dX7_upOf_40 ?_
  obtain rfl := Option.some.inj hF
  exact a_iret dX7_upOf_41 rfl ⟨rfl, rfl⟩
set_option maxHeartbeats 4000000 in
set_option maxRecDepth 100000 in
theorem ct_X7_wordAt_L6 {g : GT} (hg : GR g) (l1 : Int32) (l2 : Int32) (l3 : Int32) (μ : MM)  {Q : Option Value → MM → Prop} : ∀ (n : Nat) (l4 : Int32) (l5 : Int32) (z : Int32 × Int32), f_X7_wordAt_L6 l1 l2 l3 μ n l4 l5 = some z → (WA g 2 mi_X7_wordAt 34 [some (.ref 144), some (.int l1), some (.int l2), some (.int l3), some (.int z.1), some (.int z.2)] [] μ Q) → WA g 2 mi_X7_wordAt 6 [some (.ref 144), some (.int l1), some (.int l2), some (.int l3), some (.int l4), some (.int l5)] [] μ Q := by
  intro n
  induction n with
  | zero => intro l4 l5 z hF; exact absurd hF (by simp [f_X7_wordAt_L6])
  | succ n ih =>
    intro l4 l5 z hF K
    unfold f_X7_wordAt_L6 at hF
    refine a_iload_4 dX7_wordAt_6 ?_
    refine a_iload_2 dX7_wordAt_8 ?_
    refine a_icmp_eq (tgt := 34) dX7_wordAt_9 (by decide) (fun h9 => ?_) (fun h9 => ?_)
    · rw [if_pos h9] at hF
      obtain rfl := Option.some.inj hF
      exact K
    · rw [if_neg h9] at hF
      refine a_aload_0 dX7_wordAt_12 ?_
      refine a_iload_4 dX7_wordAt_13 ?_
      refine a_iload_5 dX7_wordAt_15 ?_
      obtain ⟨x1, ex1, hF⟩ := ob_e hF
      refine a_iV2 dX7_wordAt_17 cv_X7_185 (ct_X7_overFall hg l4 l5 μ ex1) (by decide) (hg.d (by decide)) rfl (Nat.le_of_ble_eq_true rfl) ?_
      refine a_istore_5 dX7_wordAt_20 (by decide) rfl ?_
      refine a_aload_0 dX7_wordAt_22 ?_
      refine a_getR (q := 145) dX7_wordAt_23 fa_X7_7 (hg.d (by decide)) rfl rfl ?_
      refine a_iload_4 dX7_wordAt_26 ?_
      obtain ⟨hx28, hF⟩ := gd_e hF
      refine a_ldC dX7_wordAt_28 (hg.d (by decide)) rfl hx28 rfl ?_
      obtain ⟨v2, ev2, hF⟩ := bd_e hF
      refine a_nm ev2 ?_
      refine a_istore_4 dX7_wordAt_29 (by decide) rfl ?_
      refine a_goto (tgt := 6) dX7_wordAt_31 (by decide) ?_
      exact ih v2 x1 _ hF K
set_option maxHeartbeats 4000000 in
set_option maxRecDepth 100000 in
theorem ct_X7_wordAt {g : GT} (hg : GR g) (p1 : Int32) (p2 : Int32) (p3 : Int32) (μ : MM)  {r : Int32} (hF : f_X7_wordAt p1 p2 p3 μ = some r) : Ct g 2 mi_X7_wordAt [.ref 144, .int p1, .int p2, .int p3] μ (QI r μ) := by
  refine ct_of (k := 2) (by decide +kernel) rfl hg.1 rfl ?_
  show WA g 2 mi_X7_wordAt 0 [some (.ref 144), some (.int p1), some (.int p2), some (.int p3), none, none] [] μ (QI r μ)
  unfold f_X7_wordAt at hF
  refine a_iload_1 dX7_wordAt_0 ?_
  refine a_istore_4 dX7_wordAt_1 (by decide) rfl ?_
  refine a_iload_3 dX7_wordAt_3 ?_
  refine a_istore_5 dX7_wordAt_4 (by decide) rfl ?_
  obtain ⟨z3, ez3, hF⟩ := ob_e hF
  refine ct_X7_wordAt_L6 hg p1 p2 p3 μ  FU p1 p3 z3 ez3 ?_
  refine a_iload_5 dX7_wordAt_34 ?_
  obtain rfl := Option.some.inj hF
  exact a_iret dX7_wordAt_36 rfl ⟨rfl, rfl⟩
set_option maxHeartbeats 4000000 in
set_option maxRecDepth 100000 in
theorem ct_X7_hoursTo_L5 {g : GT} (hg : GR g) (l1 : Int32) (l2 : Int32) (μ : MM)  {Q : Option Value → MM → Prop} : ∀ (n : Nat) (l3 : Int32) (l4 : Int32) (z : Int32 × Int32), f_X7_hoursTo_L5 l1 l2 μ n l3 l4 = some z → (WA g 0 mi_X7_hoursTo 51 [some (.ref 144), some (.int l1), some (.int l2), some (.int z.1), some (.int z.2)] [] μ Q) → WA g 0 mi_X7_hoursTo 5 [some (.ref 144), some (.int l1), some (.int l2), some (.int l3), some (.int l4)] [] μ Q := by
  intro n
  induction n with
  | zero => intro l3 l4 z hF; exact absurd hF (by simp [f_X7_hoursTo_L5])
  | succ n ih =>
    intro l3 l4 z hF K
    unfold f_X7_hoursTo_L5 at hF
    refine a_iload_3 dX7_hoursTo_5 ?_
    refine a_iload_2 dX7_hoursTo_6 ?_
    refine a_icmp_eq (tgt := 51) dX7_hoursTo_7 (by decide) (fun h7 => ?_) (fun h7 => ?_)
    · rw [if_pos h7] at hF
      obtain rfl := Option.some.inj hF
      exact K
    · rw [if_neg h7] at hF
      refine a_iload_4 dX7_hoursTo_10 ?_
      refine a_iconst (v := 4) dX7_hoursTo_12 (by decide) ?_
      refine a_aload_0 dX7_hoursTo_13 ?_
      refine a_getR (q := 146) dX7_hoursTo_14 fa_X7_13 (hg.d (by decide)) rfl rfl ?_
      refine a_iload_3 dX7_hoursTo_17 ?_
      obtain ⟨hx18, hF⟩ := gd_e hF
      refine a_ldC dX7_hoursTo_18 (hg.d (by decide)) rfl hx18 rfl ?_
      refine a_imul dX7_hoursTo_19 ?_
      refine a_aload_0 dX7_hoursTo_20 ?_
      refine a_getR (q := 149) dX7_hoursTo_21 fa_X7_22 (hg.d (by decide)) rfl rfl ?_
      refine a_bipush (v := 10) dX7_hoursTo_24 (by decide) ?_
      refine a_ldC (j := 10) dX7_hoursTo_26 (hg.d (by decide)) rfl (vi (by decide)) (by decide) ?_
      refine a_iadd dX7_hoursTo_27 ?_
      refine a_iconst (v := 1) dX7_hoursTo_28 (by decide) ?_
      refine a_isub dX7_hoursTo_29 ?_
      refine a_aload_0 dX7_hoursTo_30 ?_
      refine a_getR (q := 149) dX7_hoursTo_31 fa_X7_22 (hg.d (by decide)) rfl rfl ?_
      refine a_bipush (v := 10) dX7_hoursTo_34 (by decide) ?_
      refine a_ldC (j := 10) dX7_hoursTo_36 (hg.d (by decide)) rfl (vi (by decide)) (by decide) ?_
      obtain ⟨hz37, hF⟩ := gd_e hF
      refine a_idiv dX7_hoursTo_37 hz37 ?_
      refine a_iadd dX7_hoursTo_38 ?_
      obtain ⟨v1, ev1, hF⟩ := bd_e hF
      refine a_nm ev1 ?_
      refine a_istore_4 dX7_hoursTo_39 (by decide) rfl ?_
      refine a_aload_0 dX7_hoursTo_41 ?_
      refine a_getR (q := 145) dX7_hoursTo_42 fa_X7_7 (hg.d (by decide)) rfl rfl ?_
      refine a_iload_3 dX7_hoursTo_45 ?_
      obtain ⟨hx46, hF⟩ := gd_e hF
      refine a_ldC dX7_hoursTo_46 (hg.d (by decide)) rfl hx46 rfl ?_
      obtain ⟨v2, ev2, hF⟩ := bd_e hF
      refine a_nm ev2 ?_
      refine a_istore_3 dX7_hoursTo_47 (by decide) rfl ?_
      refine a_goto (tgt := 5) dX7_hoursTo_48 (by decide) ?_
      exact ih v2 v1 _ hF K
set_option maxHeartbeats 4000000 in
set_option maxRecDepth 100000 in
theorem ct_X7_hoursTo {g : GT} (hg : GR g) (p1 : Int32) (p2 : Int32) (μ : MM)  {r : Int32} (hF : f_X7_hoursTo p1 p2 μ = some r) : Ct g 0 mi_X7_hoursTo [.ref 144, .int p1, .int p2] μ (QI r μ) := by
  refine ct_of (k := 2) (by decide +kernel) rfl hg.1 rfl ?_
  show WA g 0 mi_X7_hoursTo 0 [some (.ref 144), some (.int p1), some (.int p2), none, none] [] μ (QI r μ)
  unfold f_X7_hoursTo at hF
  refine a_iload_1 dX7_hoursTo_0 ?_
  refine a_istore_3 dX7_hoursTo_1 (by decide) rfl ?_
  refine a_iconst (v := 0) dX7_hoursTo_2 (by decide) ?_
  refine a_istore_4 dX7_hoursTo_3 (by decide) rfl ?_
  obtain ⟨z3, ez3, hF⟩ := ob_e hF
  refine ct_X7_hoursTo_L5 hg p1 p2 μ  FU p1 0 z3 ez3 ?_
  refine a_iload_4 dX7_hoursTo_51 ?_
  obtain rfl := Option.some.inj hF
  exact a_iret dX7_hoursTo_53 rfl ⟨rfl, rfl⟩
set_option maxHeartbeats 4000000 in
set_option maxRecDepth 100000 in
theorem ct_X7_loudest_L6 {g : GT} (hg : GR g) (μ : MM)  {Q : Option Value → MM → Prop} : ∀ (n : Nat) (l1 : Int32) (l2 : Int32) (l3 : Int32) (z : Int32 × Int32 × Int32), f_X7_loudest_L6 μ n l1 l2 l3 = some z → (WA g 0 mi_X7_loudest 66 [some (.ref 144), some (.int z.1), some (.int z.2.1), some (.int z.2.2)] [] μ Q) → WA g 0 mi_X7_loudest 6 [some (.ref 144), some (.int l1), some (.int l2), some (.int l3)] [] μ Q := by
  intro n
  induction n with
  | zero => intro l1 l2 l3 z hF; exact absurd hF (by simp [f_X7_loudest_L6])
  | succ n ih =>
    intro l1 l2 l3 z hF K
    unfold f_X7_loudest_L6 at hF
    refine a_iload_3 dX7_loudest_6 ?_
    refine a_aload_0 dX7_loudest_7 ?_
    refine a_getI dX7_loudest_8 fa_X7_81 (hg.d (by decide)) rfl rfl ?_
    refine a_icmp_ge (tgt := 66) dX7_loudest_11 (by decide) (fun h11 => ?_) (fun h11 => ?_)
    · rw [if_pos h11] at hF
      obtain rfl := Option.some.inj hF
      exact K
    · rw [if_neg h11] at hF
      refine a_aload_0 dX7_loudest_14 ?_
      refine a_getR (q := 149) dX7_loudest_15 fa_X7_22 (hg.d (by decide)) rfl rfl ?_
      refine a_bipush (v := 23) dX7_loudest_18 (by decide) ?_
      refine a_iload_3 dX7_loudest_20 ?_
      refine a_iadd dX7_loudest_21 ?_
      obtain ⟨hx22, hF⟩ := gd_e hF
      refine a_ldC dX7_loudest_22 (hg.d (by decide)) rfl hx22 rfl ?_
      refine a_iload_2 dX7_loudest_23 ?_
      obtain ⟨j1, ej24, hF⟩ := bd_e hF
      replace ej24 := ej24.symm
      have KJ24 : WA g 0 mi_X7_loudest 32 [some (.ref 144), some (.int l1), some (.int l2), some (.int l3)] [.int j1] μ Q := by
        refine a_istore_1 dX7_loudest_32 (by decide) rfl ?_
        refine a_aload_0 dX7_loudest_33 ?_
        refine a_getR (q := 149) dX7_loudest_34 fa_X7_22 (hg.d (by decide)) rfl rfl ?_
        refine a_bipush (v := 23) dX7_loudest_37 (by decide) ?_
        refine a_iload_3 dX7_loudest_39 ?_
        refine a_iadd dX7_loudest_40 ?_
        obtain ⟨hx41, hF⟩ := gd_e hF
        refine a_ldC dX7_loudest_41 (hg.d (by decide)) rfl hx41 rfl ?_
        refine a_iload_2 dX7_loudest_42 ?_
        refine a_icmp_le (tgt := 58) dX7_loudest_43 (by decide) (fun h43 => ?_) (fun h43 => ?_)
        · rw [if_pos h43] at hF
          refine a_iload_2 dX7_loudest_58 ?_
          refine a_istore_2 dX7_loudest_59 (by decide) rfl ?_
          refine a_iinc_3 (c0 := 1) dX7_loudest_60 (by decide) (by decide) rfl ?_
          refine a_goto (tgt := 6) dX7_loudest_63 (by decide) ?_
          exact ih j1 l2 (l3 + 1) _ hF K
        · rw [if_neg h43] at hF
          refine a_aload_0 dX7_loudest_46 ?_
          refine a_getR (q := 149) dX7_loudest_47 fa_X7_22 (hg.d (by decide)) rfl rfl ?_
          refine a_bipush (v := 23) dX7_loudest_50 (by decide) ?_
          refine a_iload_3 dX7_loudest_52 ?_
          refine a_iadd dX7_loudest_53 ?_
          obtain ⟨hx54, hF⟩ := gd_e hF
          refine a_ldC dX7_loudest_54 (hg.d (by decide)) rfl hx54 rfl ?_
          refine a_goto (tgt := 59) dX7_loudest_55 (by decide) ?_
          obtain ⟨v2, ev2, hF⟩ := bd_e hF
          refine a_nm ev2 ?_
          refine a_istore_2 dX7_loudest_59 (by decide) rfl ?_
          refine a_iinc_3 (c0 := 1) dX7_loudest_60 (by decide) (by decide) rfl ?_
          refine a_goto (tgt := 6) dX7_loudest_63 (by decide) ?_
          exact ih j1 v2 (l3 + 1) _ hF K
      refine a_icmp_le (tgt := 31) dX7_loudest_24 (by decide) (fun h24 => ?_) (fun h24 => ?_)
      · rw [if_pos h24] at ej24
        refine a_iload_1 dX7_loudest_31 ?_
        subst ej24
        exact KJ24
      · rw [if_neg h24] at ej24
        refine a_iload_3 dX7_loudest_27 ?_
        refine a_goto (tgt := 32) dX7_loudest_28 (by decide) ?_
        subst ej24
        exact KJ24
set_option maxHeartbeats 4000000 in
set_option maxRecDepth 100000 in
theorem ct_X7_loudest {g : GT} (hg : GR g)  (μ : MM)  {r : Int32} (hF : f_X7_loudest  μ = some r) : Ct g 0 mi_X7_loudest [.ref 144] μ (QI r μ) := by
  refine ct_of (k := 3) (by decide +kernel) rfl hg.1 rfl ?_
  show WA g 0 mi_X7_loudest 0 [some (.ref 144), none, none, none] [] μ (QI r μ)
  unfold f_X7_loudest at hF
  refine a_iconst (v := (-1)) dX7_loudest_0 (by decide) ?_
  refine a_istore_1 dX7_loudest_1 (by decide) rfl ?_
  refine a_iconst (v := 0) dX7_loudest_2 (by decide) ?_
  refine a_istore_2 dX7_loudest_3 (by decide) rfl ?_
  refine a_iconst (v := 0) dX7_loudest_4 (by decide) ?_
  refine a_istore_3 dX7_loudest_5 (by decide) rfl ?_
  obtain ⟨z3, ez3, hF⟩ := ob_e hF
  refine ct_X7_loudest_L6 hg μ  FU (-1) 0 0 z3 ez3 ?_
  refine a_iload_1 dX7_loudest_66 ?_
  obtain rfl := Option.some.inj hF
  exact a_iret dX7_loudest_67 rfl ⟨rfl, rfl⟩
set_option maxHeartbeats 4000000 in
set_option maxRecDepth 100000 in
theorem ct_X7_bottom_L6 {g : GT} (hg : GR g) (μ : MM)  {Q : Option Value → MM → Prop} : ∀ (n : Nat) (l1 : Int32) (l2 : Int32) (l3 : Int32) (z : Int32 × Int32 × Int32), f_X7_bottom_L6 μ n l1 l2 l3 = some z → (WA g 4 mi_X7_bottom 55 [some (.ref 144), some (.int z.1), some (.int z.2.1), some (.int z.2.2), none] [] μ Q) → WA g 4 mi_X7_bottom 6 [some (.ref 144), some (.int l1), some (.int l2), some (.int l3), none] [] μ Q := by
  intro n
  induction n with
  | zero => intro l1 l2 l3 z hF; exact absurd hF (by simp [f_X7_bottom_L6])
  | succ n ih =>
    intro l1 l2 l3 z hF K
    unfold f_X7_bottom_L6 at hF
    refine a_iload_3 dX7_bottom_6 ?_
    refine a_aload_0 dX7_bottom_7 ?_
    refine a_getI dX7_bottom_8 fa_X7_81 (hg.d (by decide)) rfl rfl ?_
    refine a_icmp_ge (tgt := 55) dX7_bottom_11 (by decide) (fun h11 => ?_) (fun h11 => ?_)
    · rw [if_pos h11] at hF
      obtain rfl := Option.some.inj hF
      exact K
    · rw [if_neg h11] at hF
      refine a_aload_0 dX7_bottom_14 ?_
      refine a_iload_3 dX7_bottom_15 ?_
      obtain ⟨x1, ex1, hF⟩ := ob_e hF
      refine a_iV1 dX7_bottom_16 cv_X7_209 (ct_X7_upOf hg l3 μ ex1) (by decide) (hg.d (by decide)) rfl (Nat.le_of_ble_eq_true rfl) ?_
      obtain ⟨x2, ex2, hF⟩ := ob_e hF
      refine a_iS1 dX7_bottom_19 cs_X7_212 (ct_X7_bits hg x1 μ ex2) (by decide) (Nat.le_of_ble_eq_true rfl) ?_
      refine a_istore_4 dX7_bottom_22 (by decide) rfl ?_
      refine a_iload_4 dX7_bottom_24 ?_
      refine a_iload_2 dX7_bottom_26 ?_
      obtain ⟨j3, ej27, hF⟩ := bd_e hF
      replace ej27 := ej27.symm
      have KJ27 : WA g 4 mi_X7_bottom 35 [some (.ref 144), some (.int l1), some (.int l2), some (.int l3), some (.int x2)] [.int j3] μ Q := by
        refine a_istore_1 dX7_bottom_35 (by decide) rfl ?_
        refine a_iload_4 dX7_bottom_36 ?_
        refine a_iload_2 dX7_bottom_38 ?_
        refine a_icmp_le (tgt := 47) dX7_bottom_39 (by decide) (fun h39 => ?_) (fun h39 => ?_)
        · rw [if_pos h39] at hF
          refine a_iload_2 dX7_bottom_47 ?_
          refine a_istore_2 dX7_bottom_48 (by decide) rfl ?_
          refine a_iinc_3 (c0 := 1) dX7_bottom_49 (by decide) (by decide) rfl ?_
          refine a_goto (tgt := 6) dX7_bottom_52 (by decide) ?_
          exact a_wk2 (ih j3 l2 (l3 + 1) _ hF K) (by simp [wk])
        · rw [if_neg h39] at hF
          refine a_iload_4 dX7_bottom_42 ?_
          refine a_goto (tgt := 48) dX7_bottom_44 (by decide) ?_
          refine a_istore_2 dX7_bottom_48 (by decide) rfl ?_
          refine a_iinc_3 (c0 := 1) dX7_bottom_49 (by decide) (by decide) rfl ?_
          refine a_goto (tgt := 6) dX7_bottom_52 (by decide) ?_
          exact a_wk2 (ih j3 x2 (l3 + 1) _ hF K) (by simp [wk])
      refine a_icmp_le (tgt := 34) dX7_bottom_27 (by decide) (fun h27 => ?_) (fun h27 => ?_)
      · rw [if_pos h27] at ej27
        refine a_iload_1 dX7_bottom_34 ?_
        subst ej27
        exact KJ27
      · rw [if_neg h27] at ej27
        refine a_iload_3 dX7_bottom_30 ?_
        refine a_goto (tgt := 35) dX7_bottom_31 (by decide) ?_
        subst ej27
        exact KJ27
set_option maxHeartbeats 4000000 in
set_option maxRecDepth 100000 in
theorem ct_X7_bottom {g : GT} (hg : GR g)  (μ : MM)  {r : Int32} (hF : f_X7_bottom  μ = some r) : Ct g 4 mi_X7_bottom [.ref 144] μ (QI r μ) := by
  refine ct_of (k := 4) (by decide +kernel) rfl hg.1 rfl ?_
  show WA g 4 mi_X7_bottom 0 [some (.ref 144), none, none, none, none] [] μ (QI r μ)
  unfold f_X7_bottom at hF
  refine a_iconst (v := (-1)) dX7_bottom_0 (by decide) ?_
  refine a_istore_1 dX7_bottom_1 (by decide) rfl ?_
  refine a_iconst (v := (-1)) dX7_bottom_2 (by decide) ?_
  refine a_istore_2 dX7_bottom_3 (by decide) rfl ?_
  refine a_iconst (v := 1) dX7_bottom_4 (by decide) ?_
  refine a_istore_3 dX7_bottom_5 (by decide) rfl ?_
  obtain ⟨z4, ez4, hF⟩ := ob_e hF
  refine ct_X7_bottom_L6 hg μ  FU (-1) (-1) 1 z4 ez4 ?_
  refine a_iload_1 dX7_bottom_55 ?_
  obtain rfl := Option.some.inj hF
  exact a_iret dX7_bottom_56 rfl ⟨rfl, rfl⟩
set_option maxHeartbeats 4000000 in
set_option maxRecDepth 100000 in
theorem ct_X7_even_L25 {g : GT} (hg : GR g) (l1 : Int32) (l2 : Int32) (μ : MM)  {Q : Option Value → MM → Prop} : ∀ (n : Nat) (l3 : Int32) (l4 : Int32) (z : Int32 × Int32), f_X7_even_L25 l1 l2 μ n l3 l4 = some z → (WA g 3 mi_X7_even 63 [some (.ref 144), some (.int l1), some (.int l2), some (.int z.1), some (.int z.2)] [] μ Q) → WA g 3 mi_X7_even 25 [some (.ref 144), some (.int l1), some (.int l2), some (.int l3), some (.int l4)] [] μ Q := by
  intro n
  induction n with
  | zero => intro l3 l4 z hF; exact absurd hF (by simp [f_X7_even_L25])
  | succ n ih =>
    intro l3 l4 z hF K
    unfold f_X7_even_L25 at hF
    refine a_iload_4 dX7_even_25 ?_
    refine a_aload_0 dX7_even_27 ?_
    refine a_getI dX7_even_28 fa_X7_88 (hg.d (by decide)) rfl rfl ?_
    refine a_icmp_ge (tgt := 63) dX7_even_31 (by decide) (fun h31 => ?_) (fun h31 => ?_)
    · rw [if_pos h31] at hF
      obtain rfl := Option.some.inj hF
      exact K
    · rw [if_neg h31] at hF
      refine a_iload_3 dX7_even_34 ?_
      refine a_if_eq (tgt := 63) dX7_even_35 (by decide) (fun h35 => ?_) (fun h35 => ?_)
      · rw [if_pos h35] at hF
        obtain rfl := Option.some.inj hF
        exact K
      · rw [if_neg h35] at hF
        refine a_aload_0 dX7_even_38 ?_
        refine a_iload_2 dX7_even_39 ?_
        refine a_iconst (v := 0) dX7_even_40 (by decide) ?_
        refine a_iload_4 dX7_even_41 ?_
        obtain ⟨x3, ex3, hF⟩ := ob_e hF
        refine a_iV3 dX7_even_43 cv_X7_215 (ct_X7_wordAt hg l2 0 l4 μ ex3) (by decide) (hg.d (by decide)) rfl (Nat.le_of_ble_eq_true rfl) ?_
        refine a_iload_4 dX7_even_46 ?_
        refine a_icmp_ne (tgt := 55) dX7_even_48 (by decide) (fun h48 => ?_) (fun h48 => ?_)
        · rw [if_neg h48] at hF
          refine a_iconst (v := 0) dX7_even_55 (by decide) ?_
          refine a_istore_3 dX7_even_56 (by decide) rfl ?_
          refine a_iinc_4 (c0 := 1) dX7_even_57 (by decide) (by decide) rfl ?_
          refine a_goto (tgt := 25) dX7_even_60 (by decide) ?_
          exact ih 0 (l4 + 1) _ hF K
        · rw [if_pos h48] at hF
          refine a_iconst (v := 1) dX7_even_51 (by decide) ?_
          refine a_goto (tgt := 56) dX7_even_52 (by decide) ?_
          refine a_istore_3 dX7_even_56 (by decide) rfl ?_
          refine a_iinc_4 (c0 := 1) dX7_even_57 (by decide) (by decide) rfl ?_
          refine a_goto (tgt := 25) dX7_even_60 (by decide) ?_
          exact ih 1 (l4 + 1) _ hF K
set_option maxHeartbeats 4000000 in
set_option maxRecDepth 100000 in
theorem ct_X7_even_L4 {g : GT} (hg : GR g) (μ : MM)  {Q : Option Value → MM → Prop} : ∀ (n : Nat) (l1 : Int32) (l2 : Int32) (z : Int32 × Int32), f_X7_even_L4 μ n l1 l2 = some z → (WA g 3 mi_X7_even 83 [some (.ref 144), some (.int z.1), some (.int z.2), none, none] [] μ Q) → WA g 3 mi_X7_even 4 [some (.ref 144), some (.int l1), some (.int l2), none, none] [] μ Q := by
  intro n
  induction n with
  | zero => intro l1 l2 z hF; exact absurd hF (by simp [f_X7_even_L4])
  | succ n ih =>
    intro l1 l2 z hF K
    unfold f_X7_even_L4 at hF
    refine a_iload_2 dX7_even_4 ?_
    refine a_aload_0 dX7_even_5 ?_
    refine a_getI dX7_even_6 fa_X7_81 (hg.d (by decide)) rfl rfl ?_
    refine a_icmp_ge (tgt := 83) dX7_even_9 (by decide) (fun h9 => ?_) (fun h9 => ?_)
    · rw [if_pos h9] at hF
      obtain rfl := Option.some.inj hF
      exact K
    · rw [if_neg h9] at hF
      refine a_aload_0 dX7_even_12 ?_
      refine a_iload_2 dX7_even_13 ?_
      obtain ⟨x1, ex1, hF⟩ := ob_e hF
      refine a_iV1 dX7_even_14 cv_X7_206 (ct_X7_downOf hg l2 μ ex1) (by decide) (hg.d (by decide)) rfl (Nat.le_of_ble_eq_true rfl) ?_
      refine a_iconst (v := 0) dX7_even_17 (by decide) ?_
      obtain ⟨x2, ex2, hF⟩ := bd_e hF
      refine a_iS2 dX7_even_18 cs_X7_163 (ct_X7_has hg x1 0 μ ex2.symm) (by decide) (Nat.le_of_ble_eq_true rfl) ?_
      refine a_istore_3 dX7_even_21 (by decide) rfl ?_
      refine a_iconst (v := 0) dX7_even_22 (by decide) ?_
      refine a_istore_4 dX7_even_23 (by decide) rfl ?_
      obtain ⟨z4, ez4, hF⟩ := ob_e hF
      refine ct_X7_even_L25 hg l1 l2 μ  FU x2 0 z4 ez4 ?_
      refine a_iload_1 dX7_even_63 ?_
      refine a_iload_3 dX7_even_64 ?_
      refine a_if_eq (tgt := 74) dX7_even_65 (by decide) (fun h65 => ?_) (fun h65 => ?_)
      · rw [if_pos h65] at hF
        refine a_iconst (v := 0) dX7_even_74 (by decide) ?_
        refine a_ior dX7_even_75 ?_
        obtain ⟨v5, ev5, hF⟩ := bd_e hF
        refine a_nm ev5 ?_
        refine a_istore_1 dX7_even_76 (by decide) rfl ?_
        refine a_iinc_2 (c0 := 1) dX7_even_77 (by decide) (by decide) rfl ?_
        refine a_goto (tgt := 4) dX7_even_80 (by decide) ?_
        exact a_wk2 (ih v5 (l2 + 1) _ hF K) (by simp [wk])
      · rw [if_neg h65] at hF
        refine a_iconst (v := 1) dX7_even_68 (by decide) ?_
        refine a_iload_2 dX7_even_69 ?_
        refine a_shl dX7_even_70 ?_
        refine a_goto (tgt := 75) dX7_even_71 (by decide) ?_
        refine a_ior dX7_even_75 ?_
        obtain ⟨v6, ev6, hF⟩ := bd_e hF
        refine a_nm ev6 ?_
        refine a_istore_1 dX7_even_76 (by decide) rfl ?_
        refine a_iinc_2 (c0 := 1) dX7_even_77 (by decide) (by decide) rfl ?_
        refine a_goto (tgt := 4) dX7_even_80 (by decide) ?_
        exact a_wk2 (ih v6 (l2 + 1) _ hF K) (by simp [wk])
set_option maxHeartbeats 4000000 in
set_option maxRecDepth 100000 in
theorem ct_X7_even {g : GT} (hg : GR g)  (μ : MM)  {r : Int32} (hF : f_X7_even  μ = some r) : Ct g 3 mi_X7_even [.ref 144] μ (QI r μ) := by
  refine ct_of (k := 4) (by decide +kernel) rfl hg.1 rfl ?_
  show WA g 3 mi_X7_even 0 [some (.ref 144), none, none, none, none] [] μ (QI r μ)
  unfold f_X7_even at hF
  refine a_iconst (v := 0) dX7_even_0 (by decide) ?_
  refine a_istore_1 dX7_even_1 (by decide) rfl ?_
  refine a_iconst (v := 1) dX7_even_2 (by decide) ?_
  refine a_istore_2 dX7_even_3 (by decide) rfl ?_
  obtain ⟨z7, ez7, hF⟩ := ob_e hF
  refine ct_X7_even_L4 hg μ  FU 0 1 z7 ez7 ?_
  refine a_iload_1 dX7_even_83 ?_
  obtain rfl := Option.some.inj hF
  exact a_iret dX7_even_84 rfl ⟨rfl, rfl⟩
set_option maxHeartbeats 4000000 in
set_option maxRecDepth 100000 in
theorem ct_X7_longest_L6 {g : GT} (hg : GR g) (μ : MM)  {Q : Option Value → MM → Prop} : ∀ (n : Nat) (l1 : Int32) (l2 : Int32) (l3 : Int32) (z : Int32 × Int32 × Int32), f_X7_longest_L6 μ n l1 l2 l3 = some z → (WA g 3 mi_X7_longest 79 [some (.ref 144), some (.int z.1), some (.int z.2.1), some (.int z.2.2), none] [] μ Q) → WA g 3 mi_X7_longest 6 [some (.ref 144), some (.int l1), some (.int l2), some (.int l3), none] [] μ Q := by
  intro n
  induction n with
  | zero => intro l1 l2 l3 z hF; exact absurd hF (by simp [f_X7_longest_L6])
  | succ n ih =>
    intro l1 l2 l3 z hF K
    unfold f_X7_longest_L6 at hF
    refine a_iload_3 dX7_longest_6 ?_
    refine a_aload_0 dX7_longest_7 ?_
    refine a_getI dX7_longest_8 fa_X7_81 (hg.d (by decide)) rfl rfl ?_
    refine a_icmp_ge (tgt := 79) dX7_longest_11 (by decide) (fun h11 => ?_) (fun h11 => ?_)
    · rw [if_pos h11] at hF
      obtain rfl := Option.some.inj hF
      exact K
    · rw [if_neg h11] at hF
      refine a_aload_0 dX7_longest_14 ?_
      refine a_getR (q := 149) dX7_longest_15 fa_X7_22 (hg.d (by decide)) rfl rfl ?_
      refine a_bipush (v := 10) dX7_longest_18 (by decide) ?_
      refine a_ldC (j := 10) dX7_longest_20 (hg.d (by decide)) rfl (vi (by decide)) (by decide) ?_
      refine a_if_le (tgt := 79) dX7_longest_21 (by decide) (fun h21 => ?_) (fun h21 => ?_)
      · rw [if_pos h21] at hF
        obtain rfl := Option.some.inj hF
        exact K
      · rw [if_neg h21] at hF
        refine a_aload_0 dX7_longest_24 ?_
        refine a_iload_3 dX7_longest_25 ?_
        obtain ⟨x1, ex1, hF⟩ := ob_e hF
        refine a_iV1 dX7_longest_26 cv_X7_206 (ct_X7_downOf hg l3 μ ex1) (by decide) (hg.d (by decide)) rfl (Nat.le_of_ble_eq_true rfl) ?_
        refine a_iconst (v := 0) dX7_longest_29 (by decide) ?_
        obtain ⟨x2, ex2, hF⟩ := bd_e hF
        refine a_iS2 dX7_longest_30 cs_X7_163 (ct_X7_has hg x1 0 μ ex2.symm) (by decide) (Nat.le_of_ble_eq_true rfl) ?_
        obtain ⟨j3, ej33, hF⟩ := ob_e hF
        have KJ33 : WA g 3 mi_X7_longest 46 [some (.ref 144), some (.int l1), some (.int l2), some (.int l3), none] [.int j3] μ Q := by
          refine a_istore_4 dX7_longest_46 (by decide) rfl ?_
          refine a_iload_4 dX7_longest_48 ?_
          refine a_iload_2 dX7_longest_50 ?_
          obtain ⟨j5, ej51, hF⟩ := bd_e hF
          replace ej51 := ej51.symm
          have KJ51 : WA g 3 mi_X7_longest 59 [some (.ref 144), some (.int l1), some (.int l2), some (.int l3), some (.int j3)] [.int j5] μ Q := by
            refine a_istore_1 dX7_longest_59 (by decide) rfl ?_
            refine a_iload_4 dX7_longest_60 ?_
            refine a_iload_2 dX7_longest_62 ?_
            refine a_icmp_le (tgt := 71) dX7_longest_63 (by decide) (fun h63 => ?_) (fun h63 => ?_)
            · rw [if_pos h63] at hF
              refine a_iload_2 dX7_longest_71 ?_
              refine a_istore_2 dX7_longest_72 (by decide) rfl ?_
              refine a_iinc_3 (c0 := 1) dX7_longest_73 (by decide) (by decide) rfl ?_
              refine a_goto (tgt := 6) dX7_longest_76 (by decide) ?_
              exact a_wk2 (ih j5 l2 (l3 + 1) _ hF K) (by simp [wk])
            · rw [if_neg h63] at hF
              refine a_iload_4 dX7_longest_66 ?_
              refine a_goto (tgt := 72) dX7_longest_68 (by decide) ?_
              refine a_istore_2 dX7_longest_72 (by decide) rfl ?_
              refine a_iinc_3 (c0 := 1) dX7_longest_73 (by decide) (by decide) rfl ?_
              refine a_goto (tgt := 6) dX7_longest_76 (by decide) ?_
              exact a_wk2 (ih j5 j3 (l3 + 1) _ hF K) (by simp [wk])
          refine a_icmp_le (tgt := 58) dX7_longest_51 (by decide) (fun h51 => ?_) (fun h51 => ?_)
          · rw [if_pos h51] at ej51
            refine a_iload_1 dX7_longest_58 ?_
            subst ej51
            exact KJ51
          · rw [if_neg h51] at ej51
            refine a_iload_3 dX7_longest_54 ?_
            refine a_goto (tgt := 59) dX7_longest_55 (by decide) ?_
            subst ej51
            exact KJ51
        refine a_if_eq (tgt := 45) dX7_longest_33 (by decide) (fun h33 => ?_) (fun h33 => ?_)
        · rw [if_pos h33] at ej33
          refine a_iconst (v := 0) dX7_longest_45 (by decide) ?_
          obtain rfl := Option.some.inj ej33
          exact KJ33
        · rw [if_neg h33] at ej33
          refine a_aload_0 dX7_longest_36 ?_
          refine a_iload_3 dX7_longest_37 ?_
          refine a_iconst (v := 0) dX7_longest_38 (by decide) ?_
          obtain ⟨x4, ex4, ej33⟩ := ob_e ej33
          refine a_iV2 dX7_longest_39 cv_X7_218 (ct_X7_hoursTo hg l3 0 μ ex4) (by decide) (hg.d (by decide)) rfl (Nat.le_of_ble_eq_true rfl) ?_
          refine a_goto (tgt := 46) dX7_longest_42 (by decide) ?_
          obtain rfl := Option.some.inj ej33
          exact KJ33
set_option maxHeartbeats 4000000 in
set_option maxRecDepth 100000 in
theorem ct_X7_longest {g : GT} (hg : GR g)  (μ : MM)  {r : Int32} (hF : f_X7_longest  μ = some r) : Ct g 3 mi_X7_longest [.ref 144] μ (QI r μ) := by
  refine ct_of (k := 4) (by decide +kernel) rfl hg.1 rfl ?_
  show WA g 3 mi_X7_longest 0 [some (.ref 144), none, none, none, none] [] μ (QI r μ)
  unfold f_X7_longest at hF
  refine a_iconst (v := (-1)) dX7_longest_0 (by decide) ?_
  refine a_istore_1 dX7_longest_1 (by decide) rfl ?_
  refine a_iconst (v := 0) dX7_longest_2 (by decide) ?_
  refine a_istore_2 dX7_longest_3 (by decide) rfl ?_
  refine a_iconst (v := 1) dX7_longest_4 (by decide) ?_
  refine a_istore_3 dX7_longest_5 (by decide) rfl ?_
  obtain ⟨z6, ez6, hF⟩ := ob_e hF
  refine ct_X7_longest_L6 hg μ  FU (-1) 0 1 z6 ez6 ?_
  refine a_iload_1 dX7_longest_79 ?_
  obtain rfl := Option.some.inj hF
  exact a_iret dX7_longest_80 rfl ⟨rfl, rfl⟩
set_option maxHeartbeats 4000000 in
set_option maxRecDepth 100000 in
theorem ct_X7_told {g : GT} (hg : GR g) (p1 : Int32) (μ : MM)  {r : Int32} (hF : f_X7_told p1 μ = some r) : Ct g 5 mi_X7_told [.ref 144, .int p1] μ (QI r μ) := by
  refine ct_of (k := 0) (by decide +kernel) rfl hg.1 rfl ?_
  show WA g 5 mi_X7_told 0 [some (.ref 144), some (.int p1)] [] μ (QI r μ)
  unfold f_X7_told at hF
  refine a_iload_1 dX7_told_0 ?_
  by_cases h1_0 : p1 = 0
  · rw [if_pos h1_0] at hF
    refine a_tsIn (tgt := 84) dX7_told_1 h1_0 (by decide) (by decide) rfl (by decide) ?_
    refine a_aload_0 dX7_told_84 ?_
    refine a_getI dX7_told_85 fa_X7_88 (hg.d (by decide)) rfl rfl ?_
    obtain rfl := Option.some.inj hF
    exact a_iret dX7_told_88 rfl ⟨rfl, rfl⟩
  · rw [if_neg h1_0] at hF
    by_cases h1_1 : p1 = 1
    · rw [if_pos h1_1] at hF
      refine a_tsIn (tgt := 89) dX7_told_1 h1_1 (by decide) (by decide) rfl (by decide) ?_
      refine a_aload_0 dX7_told_89 ?_
      refine a_getI dX7_told_90 fa_X7_81 (hg.d (by decide)) rfl rfl ?_
      obtain rfl := Option.some.inj hF
      exact a_iret dX7_told_93 rfl ⟨rfl, rfl⟩
    · rw [if_neg h1_1] at hF
      by_cases h1_2 : p1 = 2
      · rw [if_pos h1_2] at hF
        refine a_tsIn (tgt := 94) dX7_told_1 h1_2 (by decide) (by decide) rfl (by decide) ?_
        refine a_aload_0 dX7_told_94 ?_
        refine a_getI dX7_told_95 fa_X7_94 (hg.d (by decide)) rfl rfl ?_
        obtain rfl := Option.some.inj hF
        exact a_iret dX7_told_98 rfl ⟨rfl, rfl⟩
      · rw [if_neg h1_2] at hF
        by_cases h1_3 : p1 = 3
        · rw [if_pos h1_3] at hF
          refine a_tsIn (tgt := 99) dX7_told_1 h1_3 (by decide) (by decide) rfl (by decide) ?_
          refine a_aload_0 dX7_told_99 ?_
          refine a_getR (q := 149) dX7_told_100 fa_X7_22 (hg.d (by decide)) rfl rfl ?_
          refine a_bipush (v := 12) dX7_told_103 (by decide) ?_
          refine a_ldC (j := 12) dX7_told_105 (hg.d (by decide)) rfl (vi (by decide)) (by decide) ?_
          obtain rfl := Option.some.inj hF
          exact a_iret dX7_told_106 rfl ⟨rfl, rfl⟩
        · rw [if_neg h1_3] at hF
          by_cases h1_4 : p1 = 4
          · rw [if_pos h1_4] at hF
            refine a_tsIn (tgt := 107) dX7_told_1 h1_4 (by decide) (by decide) rfl (by decide) ?_
            refine a_aload_0 dX7_told_107 ?_
            refine a_getR (q := 149) dX7_told_108 fa_X7_22 (hg.d (by decide)) rfl rfl ?_
            refine a_bipush (v := 10) dX7_told_111 (by decide) ?_
            refine a_ldC (j := 10) dX7_told_113 (hg.d (by decide)) rfl (vi (by decide)) (by decide) ?_
            obtain rfl := Option.some.inj hF
            exact a_iret dX7_told_114 rfl ⟨rfl, rfl⟩
          · rw [if_neg h1_4] at hF
            by_cases h1_5 : p1 = 5
            · rw [if_pos h1_5] at hF
              refine a_tsIn (tgt := 115) dX7_told_1 h1_5 (by decide) (by decide) rfl (by decide) ?_
              refine a_aload_0 dX7_told_115 ?_
              refine a_getR (q := 149) dX7_told_116 fa_X7_22 (hg.d (by decide)) rfl rfl ?_
              refine a_bipush (v := 11) dX7_told_119 (by decide) ?_
              refine a_ldC (j := 11) dX7_told_121 (hg.d (by decide)) rfl (vi (by decide)) (by decide) ?_
              obtain rfl := Option.some.inj hF
              exact a_iret dX7_told_122 rfl ⟨rfl, rfl⟩
            · rw [if_neg h1_5] at hF
              by_cases h1_6 : p1 = 6
              · rw [if_pos h1_6] at hF
                refine a_tsIn (tgt := 123) dX7_told_1 h1_6 (by decide) (by decide) rfl (by decide) ?_
                refine a_aload_0 dX7_told_123 ?_
                refine a_getR (q := 149) dX7_told_124 fa_X7_22 (hg.d (by decide)) rfl rfl ?_
                refine a_bipush (v := 9) dX7_told_127 (by decide) ?_
                refine a_ldC (j := 9) dX7_told_129 (hg.d (by decide)) rfl (vi (by decide)) (by decide) ?_
                obtain rfl := Option.some.inj hF
                exact a_iret dX7_told_130 rfl ⟨rfl, rfl⟩
              · rw [if_neg h1_6] at hF
                by_cases h1_7 : p1 = 7
                · rw [if_pos h1_7] at hF
                  refine a_tsIn (tgt := 131) dX7_told_1 h1_7 (by decide) (by decide) rfl (by decide) ?_
                  refine a_aload_0 dX7_told_131 ?_
                  refine a_getR (q := 149) dX7_told_132 fa_X7_22 (hg.d (by decide)) rfl rfl ?_
                  refine a_bipush (v := 32) dX7_told_135 (by decide) ?_
                  refine a_ldC (j := 32) dX7_told_137 (hg.d (by decide)) rfl (vi (by decide)) (by decide) ?_
                  obtain rfl := Option.some.inj hF
                  exact a_iret dX7_told_138 rfl ⟨rfl, rfl⟩
                · rw [if_neg h1_7] at hF
                  by_cases h1_8 : p1 = 8
                  · rw [if_pos h1_8] at hF
                    refine a_tsIn (tgt := 139) dX7_told_1 h1_8 (by decide) (by decide) rfl (by decide) ?_
                    refine a_aload_0 dX7_told_139 ?_
                    refine a_getR (q := 149) dX7_told_140 fa_X7_22 (hg.d (by decide)) rfl rfl ?_
                    refine a_bipush (v := 13) dX7_told_143 (by decide) ?_
                    refine a_ldC (j := 13) dX7_told_145 (hg.d (by decide)) rfl (vi (by decide)) (by decide) ?_
                    obtain rfl := Option.some.inj hF
                    exact a_iret dX7_told_146 rfl ⟨rfl, rfl⟩
                  · rw [if_neg h1_8] at hF
                    by_cases h1_9 : p1 = 9
                    · rw [if_pos h1_9] at hF
                      refine a_tsIn (tgt := 147) dX7_told_1 h1_9 (by decide) (by decide) rfl (by decide) ?_
                      refine a_aload_0 dX7_told_147 ?_
                      obtain ⟨x1, ex1, hF⟩ := ob_e hF
                      refine a_iV0 dX7_told_148 cv_X7_221 (ct_X7_loudest hg μ ex1) (by decide) (hg.d (by decide)) rfl (Nat.le_of_ble_eq_true rfl) ?_
                      obtain rfl := Option.some.inj hF
                      exact a_iret dX7_told_151 rfl ⟨rfl, rfl⟩
                    · rw [if_neg h1_9] at hF
                      by_cases h1_10 : p1 = 10
                      · rw [if_pos h1_10] at hF
                        refine a_tsIn (tgt := 152) dX7_told_1 h1_10 (by decide) (by decide) rfl (by decide) ?_
                        refine a_aload_0 dX7_told_152 ?_
                        obtain ⟨x2, ex2, hF⟩ := ob_e hF
                        refine a_iV0 dX7_told_153 cv_X7_224 (ct_X7_bottom hg μ ex2) (by decide) (hg.d (by decide)) rfl (Nat.le_of_ble_eq_true rfl) ?_
                        obtain rfl := Option.some.inj hF
                        exact a_iret dX7_told_156 rfl ⟨rfl, rfl⟩
                      · rw [if_neg h1_10] at hF
                        by_cases h1_11 : p1 = 11
                        · rw [if_pos h1_11] at hF
                          refine a_tsIn (tgt := 157) dX7_told_1 h1_11 (by decide) (by decide) rfl (by decide) ?_
                          refine a_aload_0 dX7_told_157 ?_
                          obtain ⟨x3, ex3, hF⟩ := ob_e hF
                          refine a_iV0 dX7_told_158 cv_X7_227 (ct_X7_even hg μ ex3) (by decide) (hg.d (by decide)) rfl (Nat.le_of_ble_eq_true rfl) ?_
                          obtain rfl := Option.some.inj hF
                          exact a_iret dX7_told_161 rfl ⟨rfl, rfl⟩
                        · rw [if_neg h1_11] at hF
                          by_cases h1_12 : p1 = 12
                          · rw [if_pos h1_12] at hF
                            refine a_tsIn (tgt := 162) dX7_told_1 h1_12 (by decide) (by decide) rfl (by decide) ?_
                            refine a_aload_0 dX7_told_162 ?_
                            obtain ⟨x4, ex4, hF⟩ := ob_e hF
                            refine a_iV0 dX7_told_163 cv_X7_230 (ct_X7_longest hg μ ex4) (by decide) (hg.d (by decide)) rfl (Nat.le_of_ble_eq_true rfl) ?_
                            obtain rfl := Option.some.inj hF
                            exact a_iret dX7_told_166 rfl ⟨rfl, rfl⟩
                          · rw [if_neg h1_12] at hF
                            by_cases h1_13 : p1 = 13
                            · rw [if_pos h1_13] at hF
                              refine a_tsIn (tgt := 167) dX7_told_1 h1_13 (by decide) (by decide) rfl (by decide) ?_
                              refine a_aload_0 dX7_told_167 ?_
                              refine a_getR (q := 149) dX7_told_168 fa_X7_22 (hg.d (by decide)) rfl rfl ?_
                              refine a_bipush (v := 45) dX7_told_171 (by decide) ?_
                              refine a_ldC (j := 45) dX7_told_173 (hg.d (by decide)) rfl (vi (by decide)) (by decide) ?_
                              obtain rfl := Option.some.inj hF
                              exact a_iret dX7_told_174 rfl ⟨rfl, rfl⟩
                            · rw [if_neg h1_13] at hF
                              by_cases h1_14 : p1 = 14
                              · rw [if_pos h1_14] at hF
                                refine a_tsIn (tgt := 175) dX7_told_1 h1_14 (by decide) (by decide) rfl (by decide) ?_
                                refine a_aload_0 dX7_told_175 ?_
                                refine a_getI dX7_told_176 fa_X7_150 (hg.d (by decide)) rfl rfl ?_
                                obtain rfl := Option.some.inj hF
                                exact a_iret dX7_told_179 rfl ⟨rfl, rfl⟩
                              · rw [if_neg h1_14] at hF
                                by_cases h1_15 : p1 = 15
                                · rw [if_pos h1_15] at hF
                                  refine a_tsIn (tgt := 180) dX7_told_1 h1_15 (by decide) (by decide) rfl (by decide) ?_
                                  refine a_aload_0 dX7_told_180 ?_
                                  refine a_getI dX7_told_181 fa_X7_153 (hg.d (by decide)) rfl rfl ?_
                                  obtain rfl := Option.some.inj hF
                                  exact a_iret dX7_told_184 rfl ⟨rfl, rfl⟩
                                · rw [if_neg h1_15] at hF
                                  by_cases h1_16 : p1 = 16
                                  · rw [if_pos h1_16] at hF
                                    refine a_tsIn (tgt := 185) dX7_told_1 h1_16 (by decide) (by decide) rfl (by decide) ?_
                                    refine a_aload_0 dX7_told_185 ?_
                                    refine a_getI dX7_told_186 fa_X7_156 (hg.d (by decide)) rfl rfl ?_
                                    obtain rfl := Option.some.inj hF
                                    exact a_iret dX7_told_189 rfl ⟨rfl, rfl⟩
                                  · rw [if_neg h1_16] at hF
                                    refine a_tsOut (tgt := 190) dX7_told_1 (by have q0 := lv_neT h1_0 (show Int32.toInt 0 = 0 by decide); have q1 := lv_neT h1_1 (show Int32.toInt 1 = 1 by decide); have q2 := lv_neT h1_2 (show Int32.toInt 2 = 2 by decide); have q3 := lv_neT h1_3 (show Int32.toInt 3 = 3 by decide); have q4 := lv_neT h1_4 (show Int32.toInt 4 = 4 by decide); have q5 := lv_neT h1_5 (show Int32.toInt 5 = 5 by decide); have q6 := lv_neT h1_6 (show Int32.toInt 6 = 6 by decide); have q7 := lv_neT h1_7 (show Int32.toInt 7 = 7 by decide); have q8 := lv_neT h1_8 (show Int32.toInt 8 = 8 by decide); have q9 := lv_neT h1_9 (show Int32.toInt 9 = 9 by decide); have q10 := lv_neT h1_10 (show Int32.toInt 10 = 10 by decide); have q11 := lv_neT h1_11 (show Int32.toInt 11 = 11 by decide); have q12 := lv_neT h1_12 (show Int32.toInt 12 = 12 by decide); have q13 := lv_neT h1_13 (show Int32.toInt 13 = 13 by decide); have q14 := lv_neT h1_14 (show Int32.toInt 14 = 14 by decide); have q15 := lv_neT h1_15 (show Int32.toInt 15 = 15 by decide); have q16 := lv_neT h1_16 (show Int32.toInt 16 = 16 by decide); omega) (by decide) ?_
                                    refine a_ldc dX7_told_190 k_X7_93 ?_
                                    obtain rfl := Option.some.inj hF
                                    exact a_iret dX7_told_192 rfl ⟨rfl, rfl⟩
set_option maxHeartbeats 4000000 in
set_option maxRecDepth 100000 in
theorem ct_X7_farm {g : GT} (hg : GR g) (p1 : Int32) (p2 : Int32) (μ : MM)  {r : Int32} (hF : f_X7_farm p1 p2 μ = some r) : Ct g 2 mi_X7_farm [.ref 144, .int p1, .int p2] μ (QI r μ) := by
  refine ct_of (k := 0) (by decide +kernel) rfl hg.1 rfl ?_
  show WA g 2 mi_X7_farm 0 [some (.ref 144), some (.int p1), some (.int p2)] [] μ (QI r μ)
  unfold f_X7_farm at hF
  refine a_aload_0 dX7_farm_0 ?_
  refine a_iload_1 dX7_farm_1 ?_
  obtain ⟨x1, ex1, hF⟩ := bd_e hF
  refine a_iV1 dX7_farm_2 cv_X7_233 (ct_X7_isFarm hg p1 μ ex1.symm) (by decide) (hg.d (by decide)) rfl (Nat.le_of_ble_eq_true rfl) ?_
  refine a_if_ne (tgt := 11) dX7_farm_5 (by decide) (fun h5 => ?_) (fun h5 => ?_)
  · rw [if_neg h5] at hF
    refine a_iload_2 dX7_farm_11 ?_
    by_cases h12_0 : p2 = 0
    · rw [if_pos h12_0] at hF
      refine a_tsIn (tgt := 52) dX7_farm_12 h12_0 (by decide) (by decide) rfl (by decide) ?_
      refine a_iload_1 dX7_farm_52 ?_
      refine a_if_ne (tgt := 60) dX7_farm_53 (by decide) (fun h53 => ?_) (fun h53 => ?_)
      · rw [if_neg h53] at hF
        refine a_aload_0 dX7_farm_60 ?_
        refine a_getR (q := 145) dX7_farm_61 fa_X7_7 (hg.d (by decide)) rfl rfl ?_
        refine a_iload_1 dX7_farm_64 ?_
        obtain ⟨hx65, hF⟩ := gd_e hF
        refine a_ldC dX7_farm_65 (hg.d (by decide)) rfl hx65 rfl ?_
        obtain rfl := Option.some.inj hF
        exact a_iret dX7_farm_66 rfl ⟨rfl, rfl⟩
      · rw [if_pos h53] at hF
        refine a_iconst (v := (-1)) dX7_farm_56 (by decide) ?_
        refine a_goto (tgt := 66) dX7_farm_57 (by decide) ?_
        obtain rfl := Option.some.inj hF
        exact a_iret dX7_farm_66 rfl ⟨rfl, rfl⟩
    · rw [if_neg h12_0] at hF
      by_cases h12_1 : p2 = 1
      · rw [if_pos h12_1] at hF
        refine a_tsIn (tgt := 67) dX7_farm_12 h12_1 (by decide) (by decide) rfl (by decide) ?_
        refine a_iload_1 dX7_farm_67 ?_
        refine a_if_ne (tgt := 75) dX7_farm_68 (by decide) (fun h68 => ?_) (fun h68 => ?_)
        · rw [if_neg h68] at hF
          refine a_aload_0 dX7_farm_75 ?_
          refine a_getR (q := 146) dX7_farm_76 fa_X7_13 (hg.d (by decide)) rfl rfl ?_
          refine a_iload_1 dX7_farm_79 ?_
          obtain ⟨hx80, hF⟩ := gd_e hF
          refine a_ldC dX7_farm_80 (hg.d (by decide)) rfl hx80 rfl ?_
          obtain rfl := Option.some.inj hF
          exact a_iret dX7_farm_81 rfl ⟨rfl, rfl⟩
        · rw [if_pos h68] at hF
          refine a_iconst (v := 0) dX7_farm_71 (by decide) ?_
          refine a_goto (tgt := 81) dX7_farm_72 (by decide) ?_
          obtain rfl := Option.some.inj hF
          exact a_iret dX7_farm_81 rfl ⟨rfl, rfl⟩
      · rw [if_neg h12_1] at hF
        by_cases h12_2 : p2 = 2
        · rw [if_pos h12_2] at hF
          refine a_tsIn (tgt := 82) dX7_farm_12 h12_2 (by decide) (by decide) rfl (by decide) ?_
          refine a_iload_1 dX7_farm_82 ?_
          refine a_if_ne (tgt := 90) dX7_farm_83 (by decide) (fun h83 => ?_) (fun h83 => ?_)
          · rw [if_neg h83] at hF
            refine a_aload_0 dX7_farm_90 ?_
            refine a_getR (q := 149) dX7_farm_91 fa_X7_22 (hg.d (by decide)) rfl rfl ?_
            refine a_iconst (v := 0) dX7_farm_94 (by decide) ?_
            refine a_iload_1 dX7_farm_95 ?_
            refine a_iadd dX7_farm_96 ?_
            obtain ⟨hx97, hF⟩ := gd_e hF
            refine a_ldC dX7_farm_97 (hg.d (by decide)) rfl hx97 rfl ?_
            obtain rfl := Option.some.inj hF
            exact a_iret dX7_farm_98 rfl ⟨rfl, rfl⟩
          · rw [if_pos h83] at hF
            refine a_iconst (v := 0) dX7_farm_86 (by decide) ?_
            refine a_goto (tgt := 98) dX7_farm_87 (by decide) ?_
            obtain rfl := Option.some.inj hF
            exact a_iret dX7_farm_98 rfl ⟨rfl, rfl⟩
        · rw [if_neg h12_2] at hF
          by_cases h12_3 : p2 = 3
          · rw [if_pos h12_3] at hF
            refine a_tsIn (tgt := 99) dX7_farm_12 h12_3 (by decide) (by decide) rfl (by decide) ?_
            refine a_iload_1 dX7_farm_99 ?_
            refine a_if_ne (tgt := 107) dX7_farm_100 (by decide) (fun h100 => ?_) (fun h100 => ?_)
            · rw [if_neg h100] at hF
              refine a_aload_0 dX7_farm_107 ?_
              refine a_getR (q := 148) dX7_farm_108 fa_X7_19 (hg.d (by decide)) rfl rfl ?_
              refine a_iload_1 dX7_farm_111 ?_
              obtain ⟨hx112, hF⟩ := gd_e hF
              refine a_ldC dX7_farm_112 (hg.d (by decide)) rfl hx112 rfl ?_
              obtain rfl := Option.some.inj hF
              exact a_iret dX7_farm_113 rfl ⟨rfl, rfl⟩
            · rw [if_pos h100] at hF
              refine a_iconst (v := 0) dX7_farm_103 (by decide) ?_
              refine a_goto (tgt := 113) dX7_farm_104 (by decide) ?_
              obtain rfl := Option.some.inj hF
              exact a_iret dX7_farm_113 rfl ⟨rfl, rfl⟩
          · rw [if_neg h12_3] at hF
            by_cases h12_4 : p2 = 4
            · rw [if_pos h12_4] at hF
              refine a_tsIn (tgt := 114) dX7_farm_12 h12_4 (by decide) (by decide) rfl (by decide) ?_
              refine a_aload_0 dX7_farm_114 ?_
              refine a_getR (q := 149) dX7_farm_115 fa_X7_22 (hg.d (by decide)) rfl rfl ?_
              refine a_bipush (v := 14) dX7_farm_118 (by decide) ?_
              refine a_iload_1 dX7_farm_120 ?_
              refine a_iadd dX7_farm_121 ?_
              obtain ⟨hx122, hF⟩ := gd_e hF
              refine a_ldC dX7_farm_122 (hg.d (by decide)) rfl hx122 rfl ?_
              obtain rfl := Option.some.inj hF
              exact a_iret dX7_farm_123 rfl ⟨rfl, rfl⟩
            · rw [if_neg h12_4] at hF
              by_cases h12_5 : p2 = 5
              · rw [if_pos h12_5] at hF
                refine a_tsIn (tgt := 124) dX7_farm_12 h12_5 (by decide) (by decide) rfl (by decide) ?_
                refine a_aload_0 dX7_farm_124 ?_
                refine a_getR (q := 149) dX7_farm_125 fa_X7_22 (hg.d (by decide)) rfl rfl ?_
                refine a_bipush (v := 23) dX7_farm_128 (by decide) ?_
                refine a_iload_1 dX7_farm_130 ?_
                refine a_iadd dX7_farm_131 ?_
                obtain ⟨hx132, hF⟩ := gd_e hF
                refine a_ldC dX7_farm_132 (hg.d (by decide)) rfl hx132 rfl ?_
                obtain rfl := Option.some.inj hF
                exact a_iret dX7_farm_133 rfl ⟨rfl, rfl⟩
              · rw [if_neg h12_5] at hF
                refine a_tsOut (tgt := 134) dX7_farm_12 (by have q0 := lv_neT h12_0 (show Int32.toInt 0 = 0 by decide); have q1 := lv_neT h12_1 (show Int32.toInt 1 = 1 by decide); have q2 := lv_neT h12_2 (show Int32.toInt 2 = 2 by decide); have q3 := lv_neT h12_3 (show Int32.toInt 3 = 3 by decide); have q4 := lv_neT h12_4 (show Int32.toInt 4 = 4 by decide); have q5 := lv_neT h12_5 (show Int32.toInt 5 = 5 by decide); omega) (by decide) ?_
                refine a_ldc dX7_farm_134 k_X7_93 ?_
                obtain rfl := Option.some.inj hF
                exact a_iret dX7_farm_136 rfl ⟨rfl, rfl⟩
  · rw [if_pos h5] at hF
    refine a_ldc dX7_farm_8 k_X7_236 ?_
    obtain rfl := Option.some.inj hF
    exact a_iret dX7_farm_10 rfl ⟨rfl, rfl⟩
set_option maxHeartbeats 4000000 in
set_option maxRecDepth 100000 in
theorem ct_X7_talk {g : GT} (hg : GR g) (p1 : Int32) (p2 : Int32) (μ : MM)  {r : Int32} (hF : f_X7_talk p1 p2 μ = some r) : Ct g 1 mi_X7_talk [.ref 144, .int p1, .int p2] μ (QI r μ) := by
  refine ct_of (k := 0) (by decide +kernel) rfl hg.1 rfl ?_
  show WA g 1 mi_X7_talk 0 [some (.ref 144), some (.int p1), some (.int p2)] [] μ (QI r μ)
  unfold f_X7_talk at hF
  refine a_iload_1 dX7_talk_0 ?_
  refine a_i2l dX7_talk_1 ?_
  refine a_lconst (v := 0) dX7_talk_2 (by decide) ?_
  refine a_aload_0 dX7_talk_3 ?_
  refine a_getR (q := 149) dX7_talk_4 fa_X7_22 (hg.d (by decide)) rfl rfl ?_
  refine a_bipush (v := 32) dX7_talk_7 (by decide) ?_
  refine a_ldC (j := 32) dX7_talk_9 (hg.d (by decide)) rfl (vi (by decide)) (by decide) ?_
  refine a_iconst (v := 1) dX7_talk_10 (by decide) ?_
  refine a_isub dX7_talk_11 ?_
  refine a_i2l dX7_talk_12 ?_
  obtain ⟨x1, ex1, hF⟩ := bd_e hF
  refine a_iS3 dX7_talk_13 cs_X7_84 (ct_X7_in hg (Int32.toInt64 p1) 0 (Int32.toInt64 ((μ 149 32) - 1)) μ ex1.symm) (by decide) (Nat.le_of_ble_eq_true rfl) ?_
  refine a_if_ne (tgt := 22) dX7_talk_16 (by decide) (fun h16 => ?_) (fun h16 => ?_)
  · rw [if_neg h16] at hF
    refine a_iload_2 dX7_talk_22 ?_
    by_cases h23_0 : p2 = 0
    · rw [if_pos h23_0] at hF
      refine a_tsIn (tgt := 52) dX7_talk_23 h23_0 (by decide) (by decide) rfl (by decide) ?_
      refine a_aload_0 dX7_talk_52 ?_
      refine a_iload_1 dX7_talk_53 ?_
      obtain ⟨x2, ex2, hF⟩ := ob_e hF
      refine a_iV1 dX7_talk_54 cv_X7_175 (ct_X7_wordOf hg p1 μ ex2) (by decide) (hg.d (by decide)) rfl (Nat.le_of_ble_eq_true rfl) ?_
      obtain rfl := Option.some.inj hF
      exact a_iret dX7_talk_57 rfl ⟨rfl, rfl⟩
    · rw [if_neg h23_0] at hF
      by_cases h23_1 : p2 = 1
      · rw [if_pos h23_1] at hF
        refine a_tsIn (tgt := 58) dX7_talk_23 h23_1 (by decide) (by decide) rfl (by decide) ?_
        refine a_aload_0 dX7_talk_58 ?_
        refine a_iload_1 dX7_talk_59 ?_
        obtain ⟨x3, ex3, hF⟩ := ob_e hF
        refine a_iV1 dX7_talk_60 cv_X7_172 (ct_X7_goesFrom hg p1 μ ex3) (by decide) (hg.d (by decide)) rfl (Nat.le_of_ble_eq_true rfl) ?_
        obtain rfl := Option.some.inj hF
        exact a_iret dX7_talk_63 rfl ⟨rfl, rfl⟩
      · rw [if_neg h23_1] at hF
        by_cases h23_2 : p2 = 2
        · rw [if_pos h23_2] at hF
          refine a_tsIn (tgt := 64) dX7_talk_23 h23_2 (by decide) (by decide) rfl (by decide) ?_
          refine a_aload_0 dX7_talk_64 ?_
          refine a_iload_1 dX7_talk_65 ?_
          obtain ⟨x4, ex4, hF⟩ := ob_e hF
          refine a_iV1 dX7_talk_66 cv_X7_168 (ct_X7_toGo hg p1 μ ex4) (by decide) (hg.d (by decide)) rfl (Nat.le_of_ble_eq_true rfl) ?_
          obtain rfl := Option.some.inj hF
          exact a_iret dX7_talk_69 rfl ⟨rfl, rfl⟩
        · rw [if_neg h23_2] at hF
          by_cases h23_3 : p2 = 3
          · rw [if_pos h23_3] at hF
            refine a_tsIn (tgt := 70) dX7_talk_23 h23_3 (by decide) (by decide) rfl (by decide) ?_
            refine a_aload_0 dX7_talk_70 ?_
            refine a_iload_1 dX7_talk_71 ?_
            obtain ⟨x5, ex5, hF⟩ := ob_e hF
            refine a_iV1 dX7_talk_72 cv_X7_178 (ct_X7_saidAt hg p1 μ ex5) (by decide) (hg.d (by decide)) rfl (Nat.le_of_ble_eq_true rfl) ?_
            obtain rfl := Option.some.inj hF
            exact a_iret dX7_talk_75 rfl ⟨rfl, rfl⟩
          · rw [if_neg h23_3] at hF
            refine a_tsOut (tgt := 76) dX7_talk_23 (by have q0 := lv_neT h23_0 (show Int32.toInt 0 = 0 by decide); have q1 := lv_neT h23_1 (show Int32.toInt 1 = 1 by decide); have q2 := lv_neT h23_2 (show Int32.toInt 2 = 2 by decide); have q3 := lv_neT h23_3 (show Int32.toInt 3 = 3 by decide); omega) (by decide) ?_
            refine a_ldc dX7_talk_76 k_X7_93 ?_
            obtain rfl := Option.some.inj hF
            exact a_iret dX7_talk_78 rfl ⟨rfl, rfl⟩
  · rw [if_pos h16] at hF
    refine a_ldc dX7_talk_19 k_X7_236 ?_
    obtain rfl := Option.some.inj hF
    exact a_iret dX7_talk_21 rfl ⟨rfl, rfl⟩
set_option maxHeartbeats 4000000 in
set_option maxRecDepth 100000 in
theorem ct_X7_logged {g : GT} (hg : GR g) (p1 : Int32) (p2 : Int32) (μ : MM)  {r : Int32} (hF : f_X7_logged p1 p2 μ = some r) : Ct g 1 mi_X7_logged [.ref 144, .int p1, .int p2] μ (QI r μ) := by
  refine ct_of (k := 1) (by decide +kernel) rfl hg.1 rfl ?_
  show WA g 1 mi_X7_logged 0 [some (.ref 144), some (.int p1), some (.int p2), none] [] μ (QI r μ)
  unfold f_X7_logged at hF
  refine a_iload_2 dX7_logged_0 ?_
  refine a_i2l dX7_logged_1 ?_
  refine a_lconst (v := 0) dX7_logged_2 (by decide) ?_
  refine a_ldc2 dX7_logged_3 k_X7_237 ?_
  obtain ⟨x1, ex1, hF⟩ := bd_e hF
  refine a_iS3 dX7_logged_6 cs_X7_84 (ct_X7_in hg (Int32.toInt64 p2) 0 3 μ ex1.symm) (by decide) (Nat.le_of_ble_eq_true rfl) ?_
  refine a_if_ne (tgt := 15) dX7_logged_9 (by decide) (fun h9 => ?_) (fun h9 => ?_)
  · rw [if_neg h9] at hF
    refine a_iload_1 dX7_logged_15 ?_
    refine a_i2l dX7_logged_16 ?_
    refine a_lconst (v := 0) dX7_logged_17 (by decide) ?_
    refine a_aload_0 dX7_logged_18 ?_
    refine a_getR (q := 149) dX7_logged_19 fa_X7_22 (hg.d (by decide)) rfl rfl ?_
    refine a_bipush (v := 45) dX7_logged_22 (by decide) ?_
    refine a_ldC (j := 45) dX7_logged_24 (hg.d (by decide)) rfl (vi (by decide)) (by decide) ?_
    refine a_iconst (v := 1) dX7_logged_25 (by decide) ?_
    refine a_isub dX7_logged_26 ?_
    refine a_i2l dX7_logged_27 ?_
    obtain ⟨x2, ex2, hF⟩ := bd_e hF
    refine a_iS3 dX7_logged_28 cs_X7_84 (ct_X7_in hg (Int32.toInt64 p1) 0 (Int32.toInt64 ((μ 149 45) - 1)) μ ex2.symm) (by decide) (Nat.le_of_ble_eq_true rfl) ?_
    refine a_if_ne (tgt := 36) dX7_logged_31 (by decide) (fun h31 => ?_) (fun h31 => ?_)
    · rw [if_neg h31] at hF
      refine a_aload_0 dX7_logged_36 ?_
      refine a_getR (q := 149) dX7_logged_37 fa_X7_22 (hg.d (by decide)) rfl rfl ?_
      refine a_bipush (v := 46) dX7_logged_40 (by decide) ?_
      refine a_aload_0 dX7_logged_42 ?_
      refine a_getR (q := 149) dX7_logged_43 fa_X7_22 (hg.d (by decide)) rfl rfl ?_
      refine a_bipush (v := 45) dX7_logged_46 (by decide) ?_
      refine a_ldC (j := 45) dX7_logged_48 (hg.d (by decide)) rfl (vi (by decide)) (by decide) ?_
      refine a_iadd dX7_logged_49 ?_
      refine a_iconst (v := 1) dX7_logged_50 (by decide) ?_
      refine a_isub dX7_logged_51 ?_
      refine a_iload_1 dX7_logged_52 ?_
      refine a_isub dX7_logged_53 ?_
      obtain ⟨hx54, hF⟩ := gd_e hF
      refine a_ldC dX7_logged_54 (hg.d (by decide)) rfl hx54 rfl ?_
      obtain ⟨v3, ev3, hF⟩ := bd_e hF
      refine a_nm ev3 ?_
      refine a_istore_3 dX7_logged_55 (by decide) rfl ?_
      refine a_iload_2 dX7_logged_56 ?_
      refine a_if_ne (tgt := 70) dX7_logged_57 (by decide) (fun h57 => ?_) (fun h57 => ?_)
      · rw [if_neg h57] at hF
        refine a_iload_2 dX7_logged_70 ?_
        refine a_iconst (v := 1) dX7_logged_71 (by decide) ?_
        refine a_icmp_ne (tgt := 85) dX7_logged_72 (by decide) (fun h72 => ?_) (fun h72 => ?_)
        · rw [if_neg h72] at hF
          refine a_iload_2 dX7_logged_85 ?_
          refine a_iconst (v := 2) dX7_logged_86 (by decide) ?_
          refine a_icmp_ne (tgt := 98) dX7_logged_87 (by decide) (fun h87 => ?_) (fun h87 => ?_)
          · rw [if_neg h87] at hF
            refine a_iload_3 dX7_logged_98 ?_
            refine a_bipush (v := 10) dX7_logged_99 (by decide) ?_
            refine a_rem dX7_logged_101 (by decide) ?_
            obtain rfl := Option.some.inj hF
            exact a_iret dX7_logged_102 rfl ⟨rfl, rfl⟩
          · rw [if_pos h87] at hF
            refine a_iload_3 dX7_logged_90 ?_
            refine a_sipush (v := 1000) dX7_logged_91 (by decide) ?_
            refine a_idiv dX7_logged_94 (by decide) ?_
            refine a_goto (tgt := 102) dX7_logged_95 (by decide) ?_
            obtain rfl := Option.some.inj hF
            exact a_iret dX7_logged_102 rfl ⟨rfl, rfl⟩
        · rw [if_pos h72] at hF
          refine a_iload_3 dX7_logged_75 ?_
          refine a_bipush (v := 10) dX7_logged_76 (by decide) ?_
          refine a_idiv dX7_logged_78 (by decide) ?_
          refine a_bipush (v := 10) dX7_logged_79 (by decide) ?_
          refine a_rem dX7_logged_81 (by decide) ?_
          refine a_goto (tgt := 102) dX7_logged_82 (by decide) ?_
          obtain rfl := Option.some.inj hF
          exact a_iret dX7_logged_102 rfl ⟨rfl, rfl⟩
      · rw [if_pos h57] at hF
        refine a_iload_3 dX7_logged_60 ?_
        refine a_bipush (v := 100) dX7_logged_61 (by decide) ?_
        refine a_idiv dX7_logged_63 (by decide) ?_
        refine a_bipush (v := 10) dX7_logged_64 (by decide) ?_
        refine a_rem dX7_logged_66 (by decide) ?_
        refine a_goto (tgt := 102) dX7_logged_67 (by decide) ?_
        obtain rfl := Option.some.inj hF
        exact a_iret dX7_logged_102 rfl ⟨rfl, rfl⟩
    · rw [if_pos h31] at hF
      refine a_iconst (v := (-1)) dX7_logged_34 (by decide) ?_
      obtain rfl := Option.some.inj hF
      exact a_iret dX7_logged_35 rfl ⟨rfl, rfl⟩
  · rw [if_pos h9] at hF
    refine a_ldc dX7_logged_12 k_X7_93 ?_
    obtain rfl := Option.some.inj hF
    exact a_iret dX7_logged_14 rfl ⟨rfl, rfl⟩
set_option maxHeartbeats 4000000 in
set_option maxRecDepth 100000 in
theorem ct_X7_remember_L12 {g : GT} (hg : GR g)   {Q : Option Value → MM → Prop} : ∀ (n : Nat) (l1 : Int32) (μ : MM) (z : Int32 × MM), f_X7_remember_L12  n l1 μ = some z → (WA g 0 mi_X7_remember 40 [some (.ref 144), some (.int z.1)] [] z.2 Q) → WA g 0 mi_X7_remember 12 [some (.ref 144), some (.int l1)] [] μ Q := by
  intro n
  induction n with
  | zero => intro l1 μ z hF; exact absurd hF (by simp [f_X7_remember_L12])
  | succ n ih =>
    intro l1 μ z hF K
    unfold f_X7_remember_L12 at hF
    refine a_iload_1 dX7_remember_12 ?_
    refine a_sipush (v := 1056) dX7_remember_13 (by decide) ?_
    refine a_icmp_ge (tgt := 40) dX7_remember_16 (by decide) (fun h16 => ?_) (fun h16 => ?_)
    · rw [if_pos h16] at hF
      obtain rfl := Option.some.inj hF
      exact K
    · rw [if_neg h16] at hF
      refine a_aload_0 dX7_remember_19 ?_
      refine a_getR (q := 157) dX7_remember_20 fa_X7_51 (hg.d (by decide)) rfl rfl ?_
      refine a_iload_1 dX7_remember_23 ?_
      refine a_bipush (v := 66) dX7_remember_24 (by decide) ?_
      refine a_isub dX7_remember_26 ?_
      refine a_aload_0 dX7_remember_27 ?_
      refine a_getR (q := 157) dX7_remember_28 fa_X7_51 (hg.d (by decide)) rfl rfl ?_
      refine a_iload_1 dX7_remember_31 ?_
      obtain ⟨hx32, hF⟩ := gd_e hF
      refine a_ldC dX7_remember_32 (hg.d (by decide)) rfl hx32 rfl ?_
      obtain ⟨hx33, hF⟩ := gd_e hF
      obtain ⟨μ2, eμ2, hF⟩ := bd_e hF
      refine a_sI eμ2 dX7_remember_33 (hg.d (by decide)) rfl hx33 rfl ?_
      refine a_iinc_1 (c0 := 1) dX7_remember_34 (by decide) (by decide) rfl ?_
      refine a_goto (tgt := 12) dX7_remember_37 (by decide) ?_
      exact ih (l1 + 1) μ2 _ hF K
set_option maxHeartbeats 4000000 in
set_option maxRecDepth 100000 in
theorem ct_X7_remember_L52 {g : GT} (hg : GR g)   {Q : Option Value → MM → Prop} : ∀ (n : Nat) (l1 : Int32) (μ : MM) (z : Int32 × MM), f_X7_remember_L52  n l1 μ = some z → (WA g 0 mi_X7_remember 84 [some (.ref 144), some (.int z.1)] [] z.2 Q) → WA g 0 mi_X7_remember 52 [some (.ref 144), some (.int l1)] [] μ Q := by
  intro n
  induction n with
  | zero => intro l1 μ z hF; exact absurd hF (by simp [f_X7_remember_L52])
  | succ n ih =>
    intro l1 μ z hF K
    unfold f_X7_remember_L52 at hF
    refine a_iload_1 dX7_remember_52 ?_
    refine a_bipush (v := 66) dX7_remember_53 (by decide) ?_
    refine a_icmp_ge (tgt := 84) dX7_remember_55 (by decide) (fun h55 => ?_) (fun h55 => ?_)
    · rw [if_pos h55] at hF
      obtain rfl := Option.some.inj hF
      exact K
    · rw [if_neg h55] at hF
      refine a_aload_0 dX7_remember_58 ?_
      refine a_getR (q := 157) dX7_remember_59 fa_X7_51 (hg.d (by decide)) rfl rfl ?_
      refine a_bipush (v := 66) dX7_remember_62 (by decide) ?_
      refine a_aload_0 dX7_remember_64 ?_
      refine a_getI dX7_remember_65 fa_X7_156 (hg.d (by decide)) rfl rfl ?_
      refine a_imul dX7_remember_68 ?_
      refine a_iload_1 dX7_remember_69 ?_
      refine a_iadd dX7_remember_70 ?_
      refine a_aload_0 dX7_remember_71 ?_
      refine a_getR (q := 149) dX7_remember_72 fa_X7_22 (hg.d (by decide)) rfl rfl ?_
      refine a_iload_1 dX7_remember_75 ?_
      obtain ⟨hx76, hF⟩ := gd_e hF
      refine a_ldC dX7_remember_76 (hg.d (by decide)) rfl hx76 rfl ?_
      obtain ⟨hx77, hF⟩ := gd_e hF
      obtain ⟨μ5, eμ5, hF⟩ := bd_e hF
      refine a_sI eμ5 dX7_remember_77 (hg.d (by decide)) rfl hx77 rfl ?_
      refine a_iinc_1 (c0 := 1) dX7_remember_78 (by decide) (by decide) rfl ?_
      refine a_goto (tgt := 52) dX7_remember_81 (by decide) ?_
      exact ih (l1 + 1) μ5 _ hF K
set_option maxHeartbeats 4000000 in
set_option maxRecDepth 100000 in
theorem ct_X7_remember {g : GT} (hg : GR g)  (μ : MM)  {r : MM} (hF : f_X7_remember  μ = some r) : Ct g 0 mi_X7_remember [.ref 144] μ (QV r) := by
  refine ct_of (k := 1) (by decide +kernel) rfl hg.1 rfl ?_
  show WA g 0 mi_X7_remember 0 [some (.ref 144), none] [] μ (QV r)
  unfold f_X7_remember at hF
  refine a_aload_0 dX7_remember_0 ?_
  refine a_getI dX7_remember_1 fa_X7_156 (hg.d (by decide)) rfl rfl ?_
  refine a_bipush (v := 16) dX7_remember_4 (by decide) ?_
  obtain ⟨j1, ej6, hF⟩ := ob_e hF
  have KJ6 : WA g 0 mi_X7_remember 50 [some (.ref 144), none] [] j1 (QV r) := by
    refine a_iconst (v := 0) dX7_remember_50 (by decide) ?_
    refine a_istore_1 dX7_remember_51 (by decide) rfl ?_
    obtain ⟨z6, ez6, hF⟩ := ob_e hF
    refine ct_X7_remember_L52 hg   FU 0 j1 z6 ez6 ?_
    refine a_aload_0 dX7_remember_84 ?_
    refine a_dup dX7_remember_85 rfl ?_
    refine a_getI dX7_remember_86 fa_X7_156 (hg.d (by decide)) rfl rfl ?_
    refine a_iconst (v := 1) dX7_remember_89 (by decide) ?_
    refine a_iadd dX7_remember_90 ?_
    obtain ⟨μ7, eμ7, hF⟩ := bd_e hF
    refine a_pI eμ7 dX7_remember_91 fp_X7_156 (hg.d (by decide)) rfl rfl ?_
    obtain rfl := Option.some.inj hF
    exact a_vret dX7_remember_94 rfl ⟨rfl, rfl⟩
  refine a_icmp_ne (tgt := 50) dX7_remember_6 (by decide) (fun h6 => ?_) (fun h6 => ?_)
  · rw [if_neg h6] at ej6
    obtain rfl := Option.some.inj ej6
    exact KJ6
  · rw [if_pos h6] at ej6
    refine a_bipush (v := 66) dX7_remember_9 (by decide) ?_
    refine a_istore_1 dX7_remember_11 (by decide) rfl ?_
    obtain ⟨z3, ez3, ej6⟩ := ob_e ej6
    refine ct_X7_remember_L12 hg   FU 66 μ z3 ez3 ?_
    refine a_aload_0 dX7_remember_40 ?_
    refine a_dup dX7_remember_41 rfl ?_
    refine a_getI dX7_remember_42 fa_X7_156 (hg.d (by decide)) rfl rfl ?_
    refine a_iconst (v := 1) dX7_remember_45 (by decide) ?_
    refine a_isub dX7_remember_46 ?_
    obtain ⟨μ4, eμ4, ej6⟩ := bd_e ej6
    refine a_pI eμ4 dX7_remember_47 fp_X7_156 (hg.d (by decide)) rfl rfl ?_
    obtain rfl := Option.some.inj ej6
    exact a_wk2 KJ6 (by simp [wk])
set_option maxHeartbeats 4000000 in
set_option maxRecDepth 100000 in
theorem ct_X7_hoursRefused {g : GT} (hg : GR g) (p1 : Int32) (μ : MM)  {r : Int32} (hF : f_X7_hoursRefused p1 μ = r) : Ct g 1 mi_X7_hoursRefused [.ref 144, .int p1] μ (QI r μ) := by
  refine ct_of (k := 0) (by decide +kernel) rfl hg.1 rfl ?_
  show WA g 1 mi_X7_hoursRefused 0 [some (.ref 144), some (.int p1)] [] μ (QI r μ)
  unfold f_X7_hoursRefused at hF
  refine a_iload_1 dX7_hoursRefused_0 ?_
  refine a_i2l dX7_hoursRefused_1 ?_
  refine a_lconst (v := 1) dX7_hoursRefused_2 (by decide) ?_
  refine a_ldc2 dX7_hoursRefused_3 k_X7_239 ?_
  obtain ⟨x1, ex1, hF⟩ := bd_e hF
  refine a_iS3 dX7_hoursRefused_6 cs_X7_84 (ct_X7_in hg (Int32.toInt64 p1) 1 60 μ ex1.symm) (by decide) (Nat.le_of_ble_eq_true rfl) ?_
  refine a_if_ne (tgt := 15) dX7_hoursRefused_9 (by decide) (fun h9 => ?_) (fun h9 => ?_)
  · rw [if_neg h9] at hF
    refine a_aload_0 dX7_hoursRefused_15 ?_
    refine a_getI dX7_hoursRefused_16 fa_X7_81 (hg.d (by decide)) rfl rfl ?_
    refine a_if_ne (tgt := 27) dX7_hoursRefused_19 (by decide) (fun h19 => ?_) (fun h19 => ?_)
    · rw [if_neg h19] at hF
      refine a_aload_0 dX7_hoursRefused_27 ?_
      refine a_getR (q := 149) dX7_hoursRefused_28 fa_X7_22 (hg.d (by decide)) rfl rfl ?_
      refine a_bipush (v := 12) dX7_hoursRefused_31 (by decide) ?_
      refine a_ldC (j := 12) dX7_hoursRefused_33 (hg.d (by decide)) rfl (vi (by decide)) (by decide) ?_
      refine a_sipush (v := 9000) dX7_hoursRefused_34 (by decide) ?_
      refine a_icmp_le (tgt := 45) dX7_hoursRefused_37 (by decide) (fun h37 => ?_) (fun h37 => ?_)
      · rw [if_pos h37] at hF
        refine a_iconst (v := 0) dX7_hoursRefused_45 (by decide) ?_
        subst hF
        exact a_iret dX7_hoursRefused_46 rfl ⟨rfl, rfl⟩
      · rw [if_neg h37] at hF
        refine a_ldc dX7_hoursRefused_40 k_X7_97 ?_
        refine a_goto (tgt := 46) dX7_hoursRefused_42 (by decide) ?_
        subst hF
        exact a_iret dX7_hoursRefused_46 rfl ⟨rfl, rfl⟩
    · rw [if_pos h19] at hF
      refine a_ldc dX7_hoursRefused_22 k_X7_241 ?_
      refine a_goto (tgt := 46) dX7_hoursRefused_24 (by decide) ?_
      subst hF
      exact a_iret dX7_hoursRefused_46 rfl ⟨rfl, rfl⟩
  · rw [if_pos h9] at hF
    refine a_ldc dX7_hoursRefused_12 k_X7_93 ?_
    subst hF
    exact a_iret dX7_hoursRefused_14 rfl ⟨rfl, rfl⟩
set_option maxHeartbeats 4000000 in
set_option maxRecDepth 100000 in
theorem ct_X7_hour_L18 {g : GT} (hg : GR g) (l1 : Int32) (l2 : Int32)  {Q : Option Value → MM → Prop} : ∀ (n : Nat) (l3 : Int32) (μ : MM) (z : Int32 × MM), f_X7_hour_L18 l1 l2 n l3 μ = some z → (WA g 5 mi_X7_hour 33 [some (.ref 144), some (.int l1), some (.int l2), some (.int z.1)] [] z.2 Q) → WA g 5 mi_X7_hour 18 [some (.ref 144), some (.int l1), some (.int l2), some (.int l3)] [] μ Q := by
  intro n
  induction n with
  | zero => intro l3 μ z hF; exact absurd hF (by simp [f_X7_hour_L18])
  | succ n ih =>
    intro l3 μ z hF K
    unfold f_X7_hour_L18 at hF
    refine a_iload_3 dX7_hour_18 ?_
    refine a_iload_1 dX7_hour_19 ?_
    refine a_icmp_ge (tgt := 33) dX7_hour_20 (by decide) (fun h20 => ?_) (fun h20 => ?_)
    · rw [if_pos h20] at hF
      obtain rfl := Option.some.inj hF
      exact K
    · rw [if_neg h20] at hF
      refine a_aload_0 dX7_hour_23 ?_
      obtain ⟨x3, ex3, hF⟩ := ob_e hF
      refine a_vV0 dX7_hour_24 cv_X7_248 (ct_X7_pass hg μ ex3) (by decide) (hg.d (by decide)) rfl (Nat.le_of_ble_eq_true rfl) ?_
      refine a_iinc_3 (c0 := 1) dX7_hour_27 (by decide) (by decide) rfl ?_
      refine a_goto (tgt := 18) dX7_hour_30 (by decide) ?_
      exact ih (l3 + 1) x3 _ hF K
set_option maxHeartbeats 4000000 in
set_option maxRecDepth 100000 in
theorem ct_X7_hour {g : GT} (hg : GR g) (p1 : Int32) (μ : MM)  {r : Int32 × MM} (hF : f_X7_hour p1 μ = some r) : Ct g 5 mi_X7_hour [.ref 144, .int p1] μ (QI r.1 r.2) := by
  refine ct_of (k := 2) (by decide +kernel) rfl hg.1 rfl ?_
  show WA g 5 mi_X7_hour 0 [some (.ref 144), some (.int p1), none, none] [] μ (QI r.1 r.2)
  unfold f_X7_hour at hF
  refine a_aload_0 dX7_hour_0 ?_
  refine a_iload_1 dX7_hour_1 ?_
  obtain ⟨x1, ex1, hF⟩ := bd_e hF
  refine a_iV1 dX7_hour_2 cv_X7_242 (ct_X7_hoursRefused hg p1 μ ex1.symm) (by decide) (hg.d (by decide)) rfl (Nat.le_of_ble_eq_true rfl) ?_
  refine a_istore_2 dX7_hour_5 (by decide) rfl ?_
  refine a_iload_2 dX7_hour_6 ?_
  refine a_if_eq (tgt := 12) dX7_hour_7 (by decide) (fun h7 => ?_) (fun h7 => ?_)
  · rw [if_pos h7] at hF
    refine a_aload_0 dX7_hour_12 ?_
    obtain ⟨x2, ex2, hF⟩ := ob_e hF
    refine a_vV0 dX7_hour_13 cv_X7_245 (ct_X7_remember hg μ ex2) (by decide) (hg.d (by decide)) rfl (Nat.le_of_ble_eq_true rfl) ?_
    refine a_iconst (v := 0) dX7_hour_16 (by decide) ?_
    refine a_istore_3 dX7_hour_17 (by decide) rfl ?_
    obtain ⟨z4, ez4, hF⟩ := ob_e hF
    refine ct_X7_hour_L18 hg p1 x1  FU 0 x2 z4 ez4 ?_
    refine a_aload_0 dX7_hour_33 ?_
    refine a_getR (q := 149) dX7_hour_34 fa_X7_22 (hg.d (by decide)) rfl rfl ?_
    refine a_bipush (v := 32) dX7_hour_37 (by decide) ?_
    refine a_ldC (j := 32) dX7_hour_39 (hg.d (by decide)) rfl (vi (by decide)) (by decide) ?_
    obtain rfl := Option.some.inj hF
    exact a_iret dX7_hour_40 rfl ⟨rfl, rfl⟩
  · rw [if_neg h7] at hF
    refine a_iload_2 dX7_hour_10 ?_
    obtain rfl := Option.some.inj hF
    exact a_iret dX7_hour_11 rfl ⟨rfl, rfl⟩
set_option maxHeartbeats 4000000 in
set_option maxRecDepth 100000 in
theorem ct_X7_sayNow {g : GT} (hg : GR g) (p1 : Int32) (p2 : Int32) (μ : MM)  {r : MM} (hF : f_X7_sayNow p1 p2 μ = some r) : Ct g 1 mi_X7_sayNow [.ref 144, .int p1, .int p2] μ (QV r) := by
  refine ct_of (k := 0) (by decide +kernel) rfl hg.1 rfl ?_
  show WA g 1 mi_X7_sayNow 0 [some (.ref 144), some (.int p1), some (.int p2)] [] μ (QV r)
  unfold f_X7_sayNow at hF
  refine a_aload_0 dX7_sayNow_0 ?_
  refine a_getR (q := 149) dX7_sayNow_1 fa_X7_22 (hg.d (by decide)) rfl rfl ?_
  refine a_bipush (v := 33) dX7_sayNow_4 (by decide) ?_
  refine a_aload_0 dX7_sayNow_6 ?_
  refine a_getR (q := 149) dX7_sayNow_7 fa_X7_22 (hg.d (by decide)) rfl rfl ?_
  refine a_bipush (v := 32) dX7_sayNow_10 (by decide) ?_
  refine a_ldC (j := 32) dX7_sayNow_12 (hg.d (by decide)) rfl (vi (by decide)) (by decide) ?_
  refine a_iadd dX7_sayNow_13 ?_
  refine a_iconst (v := 4) dX7_sayNow_14 (by decide) ?_
  refine a_aload_0 dX7_sayNow_15 ?_
  refine a_getR (q := 146) dX7_sayNow_16 fa_X7_13 (hg.d (by decide)) rfl rfl ?_
  refine a_iload_1 dX7_sayNow_19 ?_
  obtain ⟨hx20, hF⟩ := gd_e hF
  refine a_ldC dX7_sayNow_20 (hg.d (by decide)) rfl hx20 rfl ?_
  refine a_imul dX7_sayNow_21 ?_
  refine a_iload_1 dX7_sayNow_22 ?_
  refine a_iload_2 dX7_sayNow_23 ?_
  refine a_iload_1 dX7_sayNow_24 ?_
  obtain ⟨x1, ex1, hF⟩ := bd_e hF
  refine a_iS4 dX7_sayNow_25 cs_X7_181 (ct_X7_packed hg (4 * (μ 146 (Int32.toNatClampNeg p1))) p1 p2 p1 μ ex1.symm) (by decide) (Nat.le_of_ble_eq_true rfl) ?_
  obtain ⟨hx28, hF⟩ := gd_e hF
  obtain ⟨μ2, eμ2, hF⟩ := bd_e hF
  refine a_sI eμ2 dX7_sayNow_28 (hg.d (by decide)) rfl hx28 rfl ?_
  refine a_aload_0 dX7_sayNow_29 ?_
  refine a_getR (q := 149) dX7_sayNow_30 fa_X7_22 (hg.d (by decide)) rfl rfl ?_
  refine a_bipush (v := 32) dX7_sayNow_33 (by decide) ?_
  refine a_dup2 dX7_sayNow_35 rfl rfl ?_
  refine a_ldC (j := 32) dX7_sayNow_36 (hg.d (by decide)) rfl (vi (by decide)) (by decide) ?_
  refine a_iconst (v := 1) dX7_sayNow_37 (by decide) ?_
  refine a_iadd dX7_sayNow_38 ?_
  obtain ⟨μ3, eμ3, hF⟩ := bd_e hF
  refine a_sI eμ3 dX7_sayNow_39 (hg.d (by decide)) rfl (vi (by decide)) (by decide) ?_
  obtain rfl := Option.some.inj hF
  exact a_vret dX7_sayNow_40 rfl ⟨rfl, rfl⟩
set_option maxHeartbeats 4000000 in
set_option maxRecDepth 100000 in
theorem ct_X7_say {g : GT} (hg : GR g) (p1 : Int32) (p2 : Int32) (μ : MM)  {r : Int32 × MM} (hF : f_X7_say p1 p2 μ = some r) : Ct g 2 mi_X7_say [.ref 144, .int p1, .int p2] μ (QI r.1 r.2) := by
  refine ct_of (k := 0) (by decide +kernel) rfl hg.1 rfl ?_
  show WA g 2 mi_X7_say 0 [some (.ref 144), some (.int p1), some (.int p2)] [] μ (QI r.1 r.2)
  unfold f_X7_say at hF
  refine a_aload_0 dX7_say_0 ?_
  refine a_iload_1 dX7_say_1 ?_
  obtain ⟨x1, ex1, hF⟩ := bd_e hF
  refine a_iV1 dX7_say_2 cv_X7_233 (ct_X7_isFarm hg p1 μ ex1.symm) (by decide) (hg.d (by decide)) rfl (Nat.le_of_ble_eq_true rfl) ?_
  refine a_if_eq (tgt := 16) dX7_say_5 (by decide) (fun h5 => ?_) (fun h5 => ?_)
  · rw [if_pos h5] at hF
    refine a_ldc dX7_say_16 k_X7_236 ?_
    obtain rfl := Option.some.inj hF
    exact a_iret dX7_say_18 rfl ⟨rfl, rfl⟩
  · rw [if_neg h5] at hF
    refine a_aload_0 dX7_say_8 ?_
    refine a_iload_2 dX7_say_9 ?_
    obtain ⟨x2, ex2, hF⟩ := bd_e hF
    refine a_iV1 dX7_say_10 cv_X7_251 (ct_X7_isWord hg p2 μ ex2.symm) (by decide) (hg.d (by decide)) rfl (Nat.le_of_ble_eq_true rfl) ?_
    refine a_if_ne (tgt := 19) dX7_say_13 (by decide) (fun h13 => ?_) (fun h13 => ?_)
    · rw [if_neg h13] at hF
      refine a_iload_1 dX7_say_19 ?_
      refine a_if_ne (tgt := 26) dX7_say_20 (by decide) (fun h20 => ?_) (fun h20 => ?_)
      · rw [if_neg h20] at hF
        refine a_aload_0 dX7_say_26 ?_
        refine a_getR (q := 149) dX7_say_27 fa_X7_22 (hg.d (by decide)) rfl rfl ?_
        refine a_bipush (v := 32) dX7_say_30 (by decide) ?_
        refine a_ldC (j := 32) dX7_say_32 (hg.d (by decide)) rfl (vi (by decide)) (by decide) ?_
        refine a_bipush (v := 12) dX7_say_33 (by decide) ?_
        refine a_icmp_ne (tgt := 41) dX7_say_35 (by decide) (fun h35 => ?_) (fun h35 => ?_)
        · rw [if_neg h35] at hF
          refine a_aload_0 dX7_say_41 ?_
          obtain ⟨x3, ex3, hF⟩ := ob_e hF
          refine a_vV0 dX7_say_42 cv_X7_245 (ct_X7_remember hg μ ex3) (by decide) (hg.d (by decide)) rfl (Nat.le_of_ble_eq_true rfl) ?_
          refine a_aload_0 dX7_say_45 ?_
          refine a_iload_1 dX7_say_46 ?_
          refine a_iload_2 dX7_say_47 ?_
          obtain ⟨x4, ex4, hF⟩ := ob_e hF
          refine a_vV2 dX7_say_48 cv_X7_254 (ct_X7_sayNow hg p1 p2 x3 ex4) (by decide) (hg.d (by decide)) rfl (Nat.le_of_ble_eq_true rfl) ?_
          refine a_aload_0 dX7_say_51 ?_
          refine a_getR (q := 149) dX7_say_52 fa_X7_22 (hg.d (by decide)) rfl rfl ?_
          refine a_bipush (v := 32) dX7_say_55 (by decide) ?_
          refine a_ldC (j := 32) dX7_say_57 (hg.d (by decide)) rfl (vi (by decide)) (by decide) ?_
          obtain rfl := Option.some.inj hF
          exact a_iret dX7_say_58 rfl ⟨rfl, rfl⟩
        · rw [if_pos h35] at hF
          refine a_ldc dX7_say_38 k_X7_97 ?_
          obtain rfl := Option.some.inj hF
          exact a_iret dX7_say_40 rfl ⟨rfl, rfl⟩
      · rw [if_pos h20] at hF
        refine a_ldc dX7_say_23 k_X7_241 ?_
        obtain rfl := Option.some.inj hF
        exact a_iret dX7_say_25 rfl ⟨rfl, rfl⟩
    · rw [if_pos h13] at hF
      refine a_ldc dX7_say_16 k_X7_236 ?_
      obtain rfl := Option.some.inj hF
      exact a_iret dX7_say_18 rfl ⟨rfl, rfl⟩
set_option maxHeartbeats 4000000 in
set_option maxRecDepth 100000 in
theorem ct_X7_rain {g : GT} (hg : GR g) (p1 : Int32) (μ : MM)  {r : Int32 × MM} (hF : f_X7_rain p1 μ = some r) : Ct g 1 mi_X7_rain [.ref 144, .int p1] μ (QI r.1 r.2) := by
  refine ct_of (k := 1) (by decide +kernel) rfl hg.1 rfl ?_
  show WA g 1 mi_X7_rain 0 [some (.ref 144), some (.int p1), none] [] μ (QI r.1 r.2)
  unfold f_X7_rain at hF
  refine a_iload_1 dX7_rain_0 ?_
  refine a_i2l dX7_rain_1 ?_
  refine a_lconst (v := 0) dX7_rain_2 (by decide) ?_
  refine a_ldc2 dX7_rain_3 k_X7_258 ?_
  obtain ⟨x1, ex1, hF⟩ := bd_e hF
  refine a_iS3 dX7_rain_6 cs_X7_84 (ct_X7_in hg (Int32.toInt64 p1) 0 9 μ ex1.symm) (by decide) (Nat.le_of_ble_eq_true rfl) ?_
  refine a_if_ne (tgt := 15) dX7_rain_9 (by decide) (fun h9 => ?_) (fun h9 => ?_)
  · rw [if_neg h9] at hF
    refine a_aload_0 dX7_rain_15 ?_
    refine a_getI dX7_rain_16 fa_X7_81 (hg.d (by decide)) rfl rfl ?_
    refine a_if_ne (tgt := 25) dX7_rain_19 (by decide) (fun h19 => ?_) (fun h19 => ?_)
    · rw [if_neg h19] at hF
      refine a_aload_0 dX7_rain_25 ?_
      obtain ⟨x2, ex2, hF⟩ := ob_e hF
      refine a_vV0 dX7_rain_26 cv_X7_245 (ct_X7_remember hg μ ex2) (by decide) (hg.d (by decide)) rfl (Nat.le_of_ble_eq_true rfl) ?_
      refine a_aload_0 dX7_rain_29 ?_
      refine a_getR (q := 149) dX7_rain_30 fa_X7_22 (hg.d (by decide)) rfl rfl ?_
      refine a_bipush (v := 10) dX7_rain_33 (by decide) ?_
      refine a_ldC (j := 10) dX7_rain_35 (hg.d (by decide)) rfl (vi (by decide)) (by decide) ?_
      obtain ⟨v3, ev3, hF⟩ := bd_e hF
      refine a_nm ev3 ?_
      refine a_istore_2 dX7_rain_36 (by decide) rfl ?_
      refine a_aload_0 dX7_rain_37 ?_
      refine a_getR (q := 149) dX7_rain_38 fa_X7_22 (hg.d (by decide)) rfl rfl ?_
      refine a_bipush (v := 10) dX7_rain_41 (by decide) ?_
      refine a_iload_1 dX7_rain_43 ?_
      obtain ⟨μ4, eμ4, hF⟩ := bd_e hF
      refine a_sI eμ4 dX7_rain_44 (hg.d (by decide)) rfl (vi (by decide)) (by decide) ?_
      refine a_iload_2 dX7_rain_45 ?_
      obtain rfl := Option.some.inj hF
      exact a_iret dX7_rain_46 rfl ⟨rfl, rfl⟩
    · rw [if_pos h19] at hF
      refine a_ldc dX7_rain_22 k_X7_241 ?_
      obtain rfl := Option.some.inj hF
      exact a_iret dX7_rain_24 rfl ⟨rfl, rfl⟩
  · rw [if_pos h9] at hF
    refine a_ldc dX7_rain_12 k_X7_93 ?_
    obtain rfl := Option.some.inj hF
    exact a_iret dX7_rain_14 rfl ⟨rfl, rfl⟩
set_option maxHeartbeats 4000000 in
set_option maxRecDepth 100000 in
theorem ct_X7_frost {g : GT} (hg : GR g) (p1 : Int32) (μ : MM)  {r : Int32 × MM} (hF : f_X7_frost p1 μ = some r) : Ct g 1 mi_X7_frost [.ref 144, .int p1] μ (QI r.1 r.2) := by
  refine ct_of (k := 1) (by decide +kernel) rfl hg.1 rfl ?_
  show WA g 1 mi_X7_frost 0 [some (.ref 144), some (.int p1), none] [] μ (QI r.1 r.2)
  unfold f_X7_frost at hF
  refine a_aload_0 dX7_frost_0 ?_
  refine a_getI dX7_frost_1 fa_X7_81 (hg.d (by decide)) rfl rfl ?_
  refine a_if_ne (tgt := 10) dX7_frost_4 (by decide) (fun h4 => ?_) (fun h4 => ?_)
  · rw [if_neg h4] at hF
    refine a_aload_0 dX7_frost_10 ?_
    obtain ⟨x1, ex1, hF⟩ := ob_e hF
    refine a_vV0 dX7_frost_11 cv_X7_245 (ct_X7_remember hg μ ex1) (by decide) (hg.d (by decide)) rfl (Nat.le_of_ble_eq_true rfl) ?_
    refine a_aload_0 dX7_frost_14 ?_
    refine a_getR (q := 149) dX7_frost_15 fa_X7_22 (hg.d (by decide)) rfl rfl ?_
    refine a_bipush (v := 11) dX7_frost_18 (by decide) ?_
    refine a_ldC (j := 11) dX7_frost_20 (hg.d (by decide)) rfl (vi (by decide)) (by decide) ?_
    obtain ⟨v2, ev2, hF⟩ := bd_e hF
    refine a_nm ev2 ?_
    refine a_istore_2 dX7_frost_21 (by decide) rfl ?_
    refine a_aload_0 dX7_frost_22 ?_
    refine a_getR (q := 149) dX7_frost_23 fa_X7_22 (hg.d (by decide)) rfl rfl ?_
    refine a_bipush (v := 11) dX7_frost_26 (by decide) ?_
    refine a_iload_1 dX7_frost_28 ?_
    refine a_if_eq (tgt := 36) dX7_frost_29 (by decide) (fun h29 => ?_) (fun h29 => ?_)
    · rw [if_pos h29] at hF
      refine a_iconst (v := 0) dX7_frost_36 (by decide) ?_
      obtain ⟨μ3, eμ3, hF⟩ := bd_e hF
      refine a_sI eμ3 dX7_frost_37 (hg.d (by decide)) rfl (vi (by decide)) (by decide) ?_
      refine a_iload_2 dX7_frost_38 ?_
      obtain rfl := Option.some.inj hF
      exact a_iret dX7_frost_39 rfl ⟨rfl, rfl⟩
    · rw [if_neg h29] at hF
      refine a_iconst (v := 1) dX7_frost_32 (by decide) ?_
      refine a_goto (tgt := 37) dX7_frost_33 (by decide) ?_
      obtain ⟨μ4, eμ4, hF⟩ := bd_e hF
      refine a_sI eμ4 dX7_frost_37 (hg.d (by decide)) rfl (vi (by decide)) (by decide) ?_
      refine a_iload_2 dX7_frost_38 ?_
      obtain rfl := Option.some.inj hF
      exact a_iret dX7_frost_39 rfl ⟨rfl, rfl⟩
  · rw [if_pos h4] at hF
    refine a_ldc dX7_frost_7 k_X7_241 ?_
    obtain rfl := Option.some.inj hF
    exact a_iret dX7_frost_9 rfl ⟨rfl, rfl⟩
set_option maxHeartbeats 4000000 in
set_option maxRecDepth 100000 in
theorem ct_X7_dam {g : GT} (hg : GR g) (p1 : Int32) (p2 : Int32) (μ : MM)  {r : Int32 × MM} (hF : f_X7_dam p1 p2 μ = some r) : Ct g 2 mi_X7_dam [.ref 144, .int p1, .int p2] μ (QI r.1 r.2) := by
  refine ct_of (k := 1) (by decide +kernel) rfl hg.1 rfl ?_
  show WA g 2 mi_X7_dam 0 [some (.ref 144), some (.int p1), some (.int p2), none] [] μ (QI r.1 r.2)
  unfold f_X7_dam at hF
  refine a_aload_0 dX7_dam_0 ?_
  refine a_iload_1 dX7_dam_1 ?_
  obtain ⟨x1, ex1, hF⟩ := bd_e hF
  refine a_iV1 dX7_dam_2 cv_X7_233 (ct_X7_isFarm hg p1 μ ex1.symm) (by decide) (hg.d (by decide)) rfl (Nat.le_of_ble_eq_true rfl) ?_
  refine a_if_ne (tgt := 11) dX7_dam_5 (by decide) (fun h5 => ?_) (fun h5 => ?_)
  · rw [if_neg h5] at hF
    refine a_iload_1 dX7_dam_11 ?_
    refine a_if_ne (tgt := 18) dX7_dam_12 (by decide) (fun h12 => ?_) (fun h12 => ?_)
    · rw [if_neg h12] at hF
      refine a_aload_0 dX7_dam_18 ?_
      obtain ⟨x2, ex2, hF⟩ := ob_e hF
      refine a_vV0 dX7_dam_19 cv_X7_245 (ct_X7_remember hg μ ex2) (by decide) (hg.d (by decide)) rfl (Nat.le_of_ble_eq_true rfl) ?_
      refine a_aload_0 dX7_dam_22 ?_
      refine a_getR (q := 149) dX7_dam_23 fa_X7_22 (hg.d (by decide)) rfl rfl ?_
      refine a_bipush (v := 9) dX7_dam_26 (by decide) ?_
      refine a_ldC (j := 9) dX7_dam_28 (hg.d (by decide)) rfl (vi (by decide)) (by decide) ?_
      refine a_iload_1 dX7_dam_29 ?_
      obtain ⟨x3, ex3, hF⟩ := bd_e hF
      refine a_iS2 dX7_dam_30 cs_X7_163 (ct_X7_has hg (x2 149 9) p1 x2 ex3.symm) (by decide) (Nat.le_of_ble_eq_true rfl) ?_
      obtain ⟨j4, ej33, hF⟩ := bd_e hF
      replace ej33 := ej33.symm
      have KJ33 : WA g 2 mi_X7_dam 41 [some (.ref 144), some (.int p1), some (.int p2), none] [.int j4] x2 (QI r.1 r.2) := by
        refine a_istore_3 dX7_dam_41 (by decide) rfl ?_
        refine a_aload_0 dX7_dam_42 ?_
        refine a_getR (q := 149) dX7_dam_43 fa_X7_22 (hg.d (by decide)) rfl rfl ?_
        refine a_bipush (v := 9) dX7_dam_46 (by decide) ?_
        refine a_iload_2 dX7_dam_48 ?_
        refine a_if_eq (tgt := 66) dX7_dam_49 (by decide) (fun h49 => ?_) (fun h49 => ?_)
        · rw [if_pos h49] at hF
          refine a_aload_0 dX7_dam_66 ?_
          refine a_getR (q := 149) dX7_dam_67 fa_X7_22 (hg.d (by decide)) rfl rfl ?_
          refine a_bipush (v := 9) dX7_dam_70 (by decide) ?_
          refine a_ldC (j := 9) dX7_dam_72 (hg.d (by decide)) rfl (vi (by decide)) (by decide) ?_
          refine a_iconst (v := 1) dX7_dam_73 (by decide) ?_
          refine a_iload_1 dX7_dam_74 ?_
          refine a_shl dX7_dam_75 ?_
          refine a_iconst (v := (-1)) dX7_dam_76 (by decide) ?_
          refine a_ixor dX7_dam_77 ?_
          refine a_iand dX7_dam_78 ?_
          obtain ⟨μ5, eμ5, hF⟩ := bd_e hF
          refine a_sI eμ5 dX7_dam_79 (hg.d (by decide)) rfl (vi (by decide)) (by decide) ?_
          refine a_iload_3 dX7_dam_80 ?_
          obtain rfl := Option.some.inj hF
          exact a_iret dX7_dam_81 rfl ⟨rfl, rfl⟩
        · rw [if_neg h49] at hF
          refine a_aload_0 dX7_dam_52 ?_
          refine a_getR (q := 149) dX7_dam_53 fa_X7_22 (hg.d (by decide)) rfl rfl ?_
          refine a_bipush (v := 9) dX7_dam_56 (by decide) ?_
          refine a_ldC (j := 9) dX7_dam_58 (hg.d (by decide)) rfl (vi (by decide)) (by decide) ?_
          refine a_iconst (v := 1) dX7_dam_59 (by decide) ?_
          refine a_iload_1 dX7_dam_60 ?_
          refine a_shl dX7_dam_61 ?_
          refine a_ior dX7_dam_62 ?_
          refine a_goto (tgt := 79) dX7_dam_63 (by decide) ?_
          obtain ⟨μ6, eμ6, hF⟩ := bd_e hF
          refine a_sI eμ6 dX7_dam_79 (hg.d (by decide)) rfl (vi (by decide)) (by decide) ?_
          refine a_iload_3 dX7_dam_80 ?_
          obtain rfl := Option.some.inj hF
          exact a_iret dX7_dam_81 rfl ⟨rfl, rfl⟩
      refine a_if_eq (tgt := 40) dX7_dam_33 (by decide) (fun h33 => ?_) (fun h33 => ?_)
      · rw [if_pos h33] at ej33
        refine a_iconst (v := 0) dX7_dam_40 (by decide) ?_
        subst ej33
        exact KJ33
      · rw [if_neg h33] at ej33
        refine a_iconst (v := 1) dX7_dam_36 (by decide) ?_
        refine a_goto (tgt := 41) dX7_dam_37 (by decide) ?_
        subst ej33
        exact KJ33
    · rw [if_pos h12] at hF
      refine a_ldc dX7_dam_15 k_X7_241 ?_
      obtain rfl := Option.some.inj hF
      exact a_iret dX7_dam_17 rfl ⟨rfl, rfl⟩
  · rw [if_pos h5] at hF
    refine a_ldc dX7_dam_8 k_X7_236 ?_
    obtain rfl := Option.some.inj hF
    exact a_iret dX7_dam_10 rfl ⟨rfl, rfl⟩
set_option maxHeartbeats 4000000 in
set_option maxRecDepth 100000 in
theorem ct_X7_smooth {g : GT} (hg : GR g) (p1 : Int32) (μ : MM)  {r : Int32 × MM} (hF : f_X7_smooth p1 μ = some r) : Ct g 2 mi_X7_smooth [.ref 144, .int p1] μ (QI r.1 r.2) := by
  refine ct_of (k := 1) (by decide +kernel) rfl hg.1 rfl ?_
  show WA g 2 mi_X7_smooth 0 [some (.ref 144), some (.int p1), none] [] μ (QI r.1 r.2)
  unfold f_X7_smooth at hF
  refine a_aload_0 dX7_smooth_0 ?_
  refine a_iload_1 dX7_smooth_1 ?_
  obtain ⟨x1, ex1, hF⟩ := bd_e hF
  refine a_iV1 dX7_smooth_2 cv_X7_233 (ct_X7_isFarm hg p1 μ ex1.symm) (by decide) (hg.d (by decide)) rfl (Nat.le_of_ble_eq_true rfl) ?_
  refine a_if_ne (tgt := 11) dX7_smooth_5 (by decide) (fun h5 => ?_) (fun h5 => ?_)
  · rw [if_neg h5] at hF
    refine a_iload_1 dX7_smooth_11 ?_
    refine a_if_ne (tgt := 18) dX7_smooth_12 (by decide) (fun h12 => ?_) (fun h12 => ?_)
    · rw [if_neg h12] at hF
      refine a_aload_0 dX7_smooth_18 ?_
      obtain ⟨x2, ex2, hF⟩ := ob_e hF
      refine a_vV0 dX7_smooth_19 cv_X7_245 (ct_X7_remember hg μ ex2) (by decide) (hg.d (by decide)) rfl (Nat.le_of_ble_eq_true rfl) ?_
      refine a_aload_0 dX7_smooth_22 ?_
      refine a_getR (q := 149) dX7_smooth_23 fa_X7_22 (hg.d (by decide)) rfl rfl ?_
      refine a_iconst (v := 0) dX7_smooth_26 (by decide) ?_
      refine a_iload_1 dX7_smooth_27 ?_
      refine a_iadd dX7_smooth_28 ?_
      obtain ⟨hx29, hF⟩ := gd_e hF
      refine a_ldC dX7_smooth_29 (hg.d (by decide)) rfl hx29 rfl ?_
      obtain ⟨v3, ev3, hF⟩ := bd_e hF
      refine a_nm ev3 ?_
      refine a_istore_2 dX7_smooth_30 (by decide) rfl ?_
      refine a_aload_0 dX7_smooth_31 ?_
      refine a_getR (q := 149) dX7_smooth_32 fa_X7_22 (hg.d (by decide)) rfl rfl ?_
      refine a_iconst (v := 0) dX7_smooth_35 (by decide) ?_
      refine a_iload_1 dX7_smooth_36 ?_
      refine a_iadd dX7_smooth_37 ?_
      refine a_iconst (v := 0) dX7_smooth_38 (by decide) ?_
      obtain ⟨hx39, hF⟩ := gd_e hF
      obtain ⟨μ4, eμ4, hF⟩ := bd_e hF
      refine a_sI eμ4 dX7_smooth_39 (hg.d (by decide)) rfl hx39 rfl ?_
      refine a_iload_2 dX7_smooth_40 ?_
      obtain rfl := Option.some.inj hF
      exact a_iret dX7_smooth_41 rfl ⟨rfl, rfl⟩
    · rw [if_pos h12] at hF
      refine a_ldc dX7_smooth_15 k_X7_241 ?_
      obtain rfl := Option.some.inj hF
      exact a_iret dX7_smooth_17 rfl ⟨rfl, rfl⟩
  · rw [if_pos h5] at hF
    refine a_ldc dX7_smooth_8 k_X7_236 ?_
    obtain rfl := Option.some.inj hF
    exact a_iret dX7_smooth_10 rfl ⟨rfl, rfl⟩
set_option maxHeartbeats 4000000 in
set_option maxRecDepth 100000 in
theorem ct_X7_hush {g : GT} (hg : GR g) (p1 : Int32) (μ : MM)  {r : Int32 × MM} (hF : f_X7_hush p1 μ = some r) : Ct g 1 mi_X7_hush [.ref 144, .int p1] μ (QI r.1 r.2) := by
  refine ct_of (k := 0) (by decide +kernel) rfl hg.1 rfl ?_
  show WA g 1 mi_X7_hush 0 [some (.ref 144), some (.int p1)] [] μ (QI r.1 r.2)
  unfold f_X7_hush at hF
  refine a_iload_1 dX7_hush_0 ?_
  refine a_i2l dX7_hush_1 ?_
  refine a_lconst (v := 0) dX7_hush_2 (by decide) ?_
  refine a_aload_0 dX7_hush_3 ?_
  refine a_getR (q := 149) dX7_hush_4 fa_X7_22 (hg.d (by decide)) rfl rfl ?_
  refine a_bipush (v := 32) dX7_hush_7 (by decide) ?_
  refine a_ldC (j := 32) dX7_hush_9 (hg.d (by decide)) rfl (vi (by decide)) (by decide) ?_
  refine a_iconst (v := 1) dX7_hush_10 (by decide) ?_
  refine a_isub dX7_hush_11 ?_
  refine a_i2l dX7_hush_12 ?_
  obtain ⟨x1, ex1, hF⟩ := bd_e hF
  refine a_iS3 dX7_hush_13 cs_X7_84 (ct_X7_in hg (Int32.toInt64 p1) 0 (Int32.toInt64 ((μ 149 32) - 1)) μ ex1.symm) (by decide) (Nat.le_of_ble_eq_true rfl) ?_
  refine a_if_ne (tgt := 22) dX7_hush_16 (by decide) (fun h16 => ?_) (fun h16 => ?_)
  · rw [if_neg h16] at hF
    refine a_aload_0 dX7_hush_22 ?_
    obtain ⟨x2, ex2, hF⟩ := ob_e hF
    refine a_vV0 dX7_hush_23 cv_X7_245 (ct_X7_remember hg μ ex2) (by decide) (hg.d (by decide)) rfl (Nat.le_of_ble_eq_true rfl) ?_
    refine a_aload_0 dX7_hush_26 ?_
    refine a_iload_1 dX7_hush_27 ?_
    obtain ⟨x3, ex3, hF⟩ := ob_e hF
    refine a_vV1 dX7_hush_28 cv_X7_199 (ct_X7_takeOff hg p1 x2 ex3) (by decide) (hg.d (by decide)) rfl (Nat.le_of_ble_eq_true rfl) ?_
    refine a_aload_0 dX7_hush_31 ?_
    refine a_getR (q := 149) dX7_hush_32 fa_X7_22 (hg.d (by decide)) rfl rfl ?_
    refine a_bipush (v := 32) dX7_hush_35 (by decide) ?_
    refine a_ldC (j := 32) dX7_hush_37 (hg.d (by decide)) rfl (vi (by decide)) (by decide) ?_
    obtain rfl := Option.some.inj hF
    exact a_iret dX7_hush_38 rfl ⟨rfl, rfl⟩
  · rw [if_pos h16] at hF
    refine a_ldc dX7_hush_19 k_X7_236 ?_
    obtain rfl := Option.some.inj hF
    exact a_iret dX7_hush_21 rfl ⟨rfl, rfl⟩
set_option maxHeartbeats 4000000 in
set_option maxRecDepth 100000 in
theorem ct_X7_draw {g : GT} (hg : GR g) (p1 : Int32) (μ : MM)  {r : Int32 × MM} (hF : f_X7_draw p1 μ = some r) : Ct g 0 mi_X7_draw [.ref 144, .int p1] μ (QI r.1 r.2) := by
  refine ct_of (k := 0) (by decide +kernel) rfl hg.1 rfl ?_
  show WA g 0 mi_X7_draw 0 [some (.ref 144), some (.int p1)] [] μ (QI r.1 r.2)
  unfold f_X7_draw at hF
  refine a_aload_0 dX7_draw_0 ?_
  refine a_aload_0 dX7_draw_1 ?_
  refine a_getI dX7_draw_2 fa_X7_260 (hg.d (by decide)) rfl rfl ?_
  refine a_i2l dX7_draw_5 ?_
  refine a_ldc2 dX7_draw_6 k_X7_263 ?_
  refine a_lmul dX7_draw_9 ?_
  refine a_ldc2 dX7_draw_10 k_X7_265 ?_
  refine a_ladd dX7_draw_13 ?_
  refine a_ldc2 dX7_draw_14 k_X7_267 ?_
  refine a_remL dX7_draw_17 (by decide) ?_
  refine a_l2i dX7_draw_18 ?_
  obtain ⟨μ1, eμ1, hF⟩ := bd_e hF
  refine a_pI eμ1 dX7_draw_19 fp_X7_260 (hg.d (by decide)) rfl rfl ?_
  refine a_aload_0 dX7_draw_22 ?_
  refine a_getI dX7_draw_23 fa_X7_260 (hg.d (by decide)) rfl rfl ?_
  refine a_ldcw dX7_draw_26 k_X7_269 ?_
  refine a_idiv dX7_draw_29 (by decide) ?_
  refine a_iload_1 dX7_draw_30 ?_
  obtain ⟨hz31, hF⟩ := gd_e hF
  refine a_rem dX7_draw_31 hz31 ?_
  obtain rfl := Option.some.inj hF
  exact a_iret dX7_draw_32 rfl ⟨rfl, rfl⟩
set_option maxHeartbeats 4000000 in
set_option maxRecDepth 100000 in
theorem ct_X7_chance {g : GT} (hg : GR g)  (μ : MM)  {r : MM} (hF : f_X7_chance  μ = some r) : Ct g 2 mi_X7_chance [.ref 144] μ (QV r) := by
  refine ct_of (k := 3) (by decide +kernel) rfl hg.1 rfl ?_
  show WA g 2 mi_X7_chance 0 [some (.ref 144), none, none, none] [] μ (QV r)
  unfold f_X7_chance at hF
  refine a_aload_0 dX7_chance_0 ?_
  refine a_iconst (v := 5) dX7_chance_1 (by decide) ?_
  obtain ⟨x1, ex1, hF⟩ := ob_e hF
  refine a_iV1 dX7_chance_2 cv_X7_270 (ct_X7_draw hg 5 μ ex1) (by decide) (hg.d (by decide)) rfl (Nat.le_of_ble_eq_true rfl) ?_
  refine a_istore_1 dX7_chance_5 (by decide) rfl ?_
  refine a_iload_1 dX7_chance_6 ?_
  refine a_if_ne (tgt := 26) dX7_chance_7 (by decide) (fun h7 => ?_) (fun h7 => ?_)
  · rw [if_neg h7] at hF
    refine a_iload_1 dX7_chance_26 ?_
    refine a_iconst (v := 1) dX7_chance_27 (by decide) ?_
    refine a_icmp_ne (tgt := 82) dX7_chance_28 (by decide) (fun h28 => ?_) (fun h28 => ?_)
    · rw [if_neg h28] at hF
      refine a_iload_1 dX7_chance_82 ?_
      refine a_iconst (v := 2) dX7_chance_83 (by decide) ?_
      refine a_icmp_ne (tgt := 103) dX7_chance_84 (by decide) (fun h84 => ?_) (fun h84 => ?_)
      · rw [if_neg h84] at hF
        obtain rfl := Option.some.inj hF
        exact a_vret dX7_chance_103 rfl ⟨rfl, rfl⟩
      · rw [if_pos h84] at hF
        refine a_aload_0 dX7_chance_87 ?_
        refine a_getR (q := 149) dX7_chance_88 fa_X7_22 (hg.d (by decide)) rfl rfl ?_
        refine a_bipush (v := 11) dX7_chance_91 (by decide) ?_
        refine a_iconst (v := 1) dX7_chance_93 (by decide) ?_
        refine a_aload_0 dX7_chance_94 ?_
        refine a_getR (q := 149) dX7_chance_95 fa_X7_22 (hg.d (by decide)) rfl rfl ?_
        refine a_bipush (v := 11) dX7_chance_98 (by decide) ?_
        refine a_ldC (j := 11) dX7_chance_100 (hg.d (by decide)) rfl (vi (by decide)) (by decide) ?_
        refine a_isub dX7_chance_101 ?_
        obtain ⟨μ2, eμ2, hF⟩ := bd_e hF
        refine a_sI eμ2 dX7_chance_102 (hg.d (by decide)) rfl (vi (by decide)) (by decide) ?_
        obtain rfl := Option.some.inj hF
        exact a_vret dX7_chance_103 rfl ⟨rfl, rfl⟩
    · rw [if_pos h28] at hF
      refine a_aload_0 dX7_chance_31 ?_
      refine a_getI dX7_chance_32 fa_X7_81 (hg.d (by decide)) rfl rfl ?_
      refine a_iconst (v := 1) dX7_chance_35 (by decide) ?_
      refine a_icmp_le (tgt := 82) dX7_chance_36 (by decide) (fun h36 => ?_) (fun h36 => ?_)
      · rw [if_pos h36] at hF
        refine a_iload_1 dX7_chance_82 ?_
        refine a_iconst (v := 2) dX7_chance_83 (by decide) ?_
        refine a_icmp_ne (tgt := 103) dX7_chance_84 (by decide) (fun h84 => ?_) (fun h84 => ?_)
        · rw [if_neg h84] at hF
          obtain rfl := Option.some.inj hF
          exact a_vret dX7_chance_103 rfl ⟨rfl, rfl⟩
        · rw [if_pos h84] at hF
          refine a_aload_0 dX7_chance_87 ?_
          refine a_getR (q := 149) dX7_chance_88 fa_X7_22 (hg.d (by decide)) rfl rfl ?_
          refine a_bipush (v := 11) dX7_chance_91 (by decide) ?_
          refine a_iconst (v := 1) dX7_chance_93 (by decide) ?_
          refine a_aload_0 dX7_chance_94 ?_
          refine a_getR (q := 149) dX7_chance_95 fa_X7_22 (hg.d (by decide)) rfl rfl ?_
          refine a_bipush (v := 11) dX7_chance_98 (by decide) ?_
          refine a_ldC (j := 11) dX7_chance_100 (hg.d (by decide)) rfl (vi (by decide)) (by decide) ?_
          refine a_isub dX7_chance_101 ?_
          obtain ⟨μ3, eμ3, hF⟩ := bd_e hF
          refine a_sI eμ3 dX7_chance_102 (hg.d (by decide)) rfl (vi (by decide)) (by decide) ?_
          obtain rfl := Option.some.inj hF
          exact a_vret dX7_chance_103 rfl ⟨rfl, rfl⟩
      · rw [if_neg h36] at hF
        refine a_aload_0 dX7_chance_39 ?_
        refine a_aload_0 dX7_chance_40 ?_
        refine a_getI dX7_chance_41 fa_X7_81 (hg.d (by decide)) rfl rfl ?_
        refine a_iconst (v := 1) dX7_chance_44 (by decide) ?_
        refine a_isub dX7_chance_45 ?_
        obtain ⟨x4, ex4, hF⟩ := ob_e hF
        refine a_iV1 dX7_chance_46 cv_X7_270 (ct_X7_draw hg ((x1.2 144 1) - 1) x1.2 ex4) (by decide) (hg.d (by decide)) rfl (Nat.le_of_ble_eq_true rfl) ?_
        refine a_iconst (v := 1) dX7_chance_49 (by decide) ?_
        refine a_iadd dX7_chance_50 ?_
        obtain ⟨v5, ev5, hF⟩ := bd_e hF
        refine a_nm ev5 ?_
        refine a_istore_2 dX7_chance_51 (by decide) rfl ?_
        refine a_aload_0 dX7_chance_52 ?_
        refine a_aload_0 dX7_chance_53 ?_
        refine a_getI dX7_chance_54 fa_X7_88 (hg.d (by decide)) rfl rfl ?_
        obtain ⟨x6, ex6, hF⟩ := ob_e hF
        refine a_iV1 dX7_chance_57 cv_X7_270 (ct_X7_draw hg (x4.2 144 0) x4.2 ex6) (by decide) (hg.d (by decide)) rfl (Nat.le_of_ble_eq_true rfl) ?_
        refine a_istore_3 dX7_chance_60 (by decide) rfl ?_
        refine a_aload_0 dX7_chance_61 ?_
        refine a_getR (q := 149) dX7_chance_62 fa_X7_22 (hg.d (by decide)) rfl rfl ?_
        refine a_bipush (v := 32) dX7_chance_65 (by decide) ?_
        refine a_ldC (j := 32) dX7_chance_67 (hg.d (by decide)) rfl (vi (by decide)) (by decide) ?_
        refine a_bipush (v := 12) dX7_chance_68 (by decide) ?_
        refine a_icmp_ge (tgt := 79) dX7_chance_70 (by decide) (fun h70 => ?_) (fun h70 => ?_)
        · rw [if_pos h70] at hF
          refine a_goto (tgt := 103) dX7_chance_79 (by decide) ?_
          obtain rfl := Option.some.inj hF
          exact a_vret dX7_chance_103 rfl ⟨rfl, rfl⟩
        · rw [if_neg h70] at hF
          refine a_aload_0 dX7_chance_73 ?_
          refine a_iload_2 dX7_chance_74 ?_
          refine a_iload_3 dX7_chance_75 ?_
          obtain ⟨x7, ex7, hF⟩ := ob_e hF
          refine a_vV2 dX7_chance_76 cv_X7_254 (ct_X7_sayNow hg v5 x6.1 x6.2 ex7) (by decide) (hg.d (by decide)) rfl (Nat.le_of_ble_eq_true rfl) ?_
          refine a_goto (tgt := 103) dX7_chance_79 (by decide) ?_
          obtain rfl := Option.some.inj hF
          exact a_vret dX7_chance_103 rfl ⟨rfl, rfl⟩
  · rw [if_pos h7] at hF
    refine a_aload_0 dX7_chance_10 ?_
    refine a_getR (q := 149) dX7_chance_11 fa_X7_22 (hg.d (by decide)) rfl rfl ?_
    refine a_bipush (v := 10) dX7_chance_14 (by decide) ?_
    refine a_aload_0 dX7_chance_16 ?_
    refine a_bipush (v := 10) dX7_chance_17 (by decide) ?_
    obtain ⟨x8, ex8, hF⟩ := ob_e hF
    refine a_iV1 dX7_chance_19 cv_X7_270 (ct_X7_draw hg 10 x1.2 ex8) (by decide) (hg.d (by decide)) rfl (Nat.le_of_ble_eq_true rfl) ?_
    obtain ⟨μ9, eμ9, hF⟩ := bd_e hF
    refine a_sI eμ9 dX7_chance_22 (hg.d (by decide)) rfl (vi (by decide)) (by decide) ?_
    refine a_goto (tgt := 103) dX7_chance_23 (by decide) ?_
    obtain rfl := Option.some.inj hF
    exact a_vret dX7_chance_103 rfl ⟨rfl, rfl⟩
set_option maxHeartbeats 4000000 in
set_option maxRecDepth 100000 in
theorem ct_X7_drift_L18 {g : GT} (hg : GR g) (l1 : Int32) (l2 : Int32)  {Q : Option Value → MM → Prop} : ∀ (n : Nat) (l3 : Int32) (μ : MM) (z : Int32 × MM), f_X7_drift_L18 l1 l2 n l3 μ = some z → (WA g 5 mi_X7_drift 37 [some (.ref 144), some (.int l1), some (.int l2), some (.int z.1)] [] z.2 Q) → WA g 5 mi_X7_drift 18 [some (.ref 144), some (.int l1), some (.int l2), some (.int l3)] [] μ Q := by
  intro n
  induction n with
  | zero => intro l3 μ z hF; exact absurd hF (by simp [f_X7_drift_L18])
  | succ n ih =>
    intro l3 μ z hF K
    unfold f_X7_drift_L18 at hF
    refine a_iload_3 dX7_drift_18 ?_
    refine a_iload_1 dX7_drift_19 ?_
    refine a_icmp_ge (tgt := 37) dX7_drift_20 (by decide) (fun h20 => ?_) (fun h20 => ?_)
    · rw [if_pos h20] at hF
      obtain rfl := Option.some.inj hF
      exact K
    · rw [if_neg h20] at hF
      refine a_aload_0 dX7_drift_23 ?_
      obtain ⟨x3, ex3, hF⟩ := ob_e hF
      refine a_vV0 dX7_drift_24 cv_X7_273 (ct_X7_chance hg μ ex3) (by decide) (hg.d (by decide)) rfl (Nat.le_of_ble_eq_true rfl) ?_
      refine a_aload_0 dX7_drift_27 ?_
      obtain ⟨x4, ex4, hF⟩ := ob_e hF
      refine a_vV0 dX7_drift_28 cv_X7_248 (ct_X7_pass hg x3 ex4) (by decide) (hg.d (by decide)) rfl (Nat.le_of_ble_eq_true rfl) ?_
      refine a_iinc_3 (c0 := 1) dX7_drift_31 (by decide) (by decide) rfl ?_
      refine a_goto (tgt := 18) dX7_drift_34 (by decide) ?_
      exact ih (l3 + 1) x4 _ hF K
set_option maxHeartbeats 4000000 in
set_option maxRecDepth 100000 in
theorem ct_X7_drift {g : GT} (hg : GR g) (p1 : Int32) (μ : MM)  {r : Int32 × MM} (hF : f_X7_drift p1 μ = some r) : Ct g 5 mi_X7_drift [.ref 144, .int p1] μ (QI r.1 r.2) := by
  refine ct_of (k := 2) (by decide +kernel) rfl hg.1 rfl ?_
  show WA g 5 mi_X7_drift 0 [some (.ref 144), some (.int p1), none, none] [] μ (QI r.1 r.2)
  unfold f_X7_drift at hF
  refine a_aload_0 dX7_drift_0 ?_
  refine a_iload_1 dX7_drift_1 ?_
  obtain ⟨x1, ex1, hF⟩ := bd_e hF
  refine a_iV1 dX7_drift_2 cv_X7_242 (ct_X7_hoursRefused hg p1 μ ex1.symm) (by decide) (hg.d (by decide)) rfl (Nat.le_of_ble_eq_true rfl) ?_
  refine a_istore_2 dX7_drift_5 (by decide) rfl ?_
  refine a_iload_2 dX7_drift_6 ?_
  refine a_if_eq (tgt := 12) dX7_drift_7 (by decide) (fun h7 => ?_) (fun h7 => ?_)
  · rw [if_pos h7] at hF
    refine a_aload_0 dX7_drift_12 ?_
    obtain ⟨x2, ex2, hF⟩ := ob_e hF
    refine a_vV0 dX7_drift_13 cv_X7_245 (ct_X7_remember hg μ ex2) (by decide) (hg.d (by decide)) rfl (Nat.le_of_ble_eq_true rfl) ?_
    refine a_iconst (v := 0) dX7_drift_16 (by decide) ?_
    refine a_istore_3 dX7_drift_17 (by decide) rfl ?_
    obtain ⟨z5, ez5, hF⟩ := ob_e hF
    refine ct_X7_drift_L18 hg p1 x1  FU 0 x2 z5 ez5 ?_
    refine a_aload_0 dX7_drift_37 ?_
    refine a_getR (q := 149) dX7_drift_38 fa_X7_22 (hg.d (by decide)) rfl rfl ?_
    refine a_bipush (v := 32) dX7_drift_41 (by decide) ?_
    refine a_ldC (j := 32) dX7_drift_43 (hg.d (by decide)) rfl (vi (by decide)) (by decide) ?_
    obtain rfl := Option.some.inj hF
    exact a_iret dX7_drift_44 rfl ⟨rfl, rfl⟩
  · rw [if_neg h7] at hF
    refine a_iload_2 dX7_drift_10 ?_
    obtain rfl := Option.some.inj hF
    exact a_iret dX7_drift_11 rfl ⟨rfl, rfl⟩
set_option maxHeartbeats 4000000 in
set_option maxRecDepth 100000 in
theorem ct_X7_undo_L22 {g : GT} (hg : GR g)   {Q : Option Value → MM → Prop} : ∀ (n : Nat) (l1 : Int32) (μ : MM) (z : Int32 × MM), f_X7_undo_L22  n l1 μ = some z → (WA g 0 mi_X7_undo 54 [some (.ref 144), some (.int z.1)] [] z.2 Q) → WA g 0 mi_X7_undo 22 [some (.ref 144), some (.int l1)] [] μ Q := by
  intro n
  induction n with
  | zero => intro l1 μ z hF; exact absurd hF (by simp [f_X7_undo_L22])
  | succ n ih =>
    intro l1 μ z hF K
    unfold f_X7_undo_L22 at hF
    refine a_iload_1 dX7_undo_22 ?_
    refine a_bipush (v := 66) dX7_undo_23 (by decide) ?_
    refine a_icmp_ge (tgt := 54) dX7_undo_25 (by decide) (fun h25 => ?_) (fun h25 => ?_)
    · rw [if_pos h25] at hF
      obtain rfl := Option.some.inj hF
      exact K
    · rw [if_neg h25] at hF
      refine a_aload_0 dX7_undo_28 ?_
      refine a_getR (q := 149) dX7_undo_29 fa_X7_22 (hg.d (by decide)) rfl rfl ?_
      refine a_iload_1 dX7_undo_32 ?_
      refine a_aload_0 dX7_undo_33 ?_
      refine a_getR (q := 157) dX7_undo_34 fa_X7_51 (hg.d (by decide)) rfl rfl ?_
      refine a_bipush (v := 66) dX7_undo_37 (by decide) ?_
      refine a_aload_0 dX7_undo_39 ?_
      refine a_getI dX7_undo_40 fa_X7_156 (hg.d (by decide)) rfl rfl ?_
      refine a_imul dX7_undo_43 ?_
      refine a_iload_1 dX7_undo_44 ?_
      refine a_iadd dX7_undo_45 ?_
      obtain ⟨hx46, hF⟩ := gd_e hF
      refine a_ldC dX7_undo_46 (hg.d (by decide)) rfl hx46 rfl ?_
      obtain ⟨hx47, hF⟩ := gd_e hF
      obtain ⟨μ2, eμ2, hF⟩ := bd_e hF
      refine a_sI eμ2 dX7_undo_47 (hg.d (by decide)) rfl hx47 rfl ?_
      refine a_iinc_1 (c0 := 1) dX7_undo_48 (by decide) (by decide) rfl ?_
      refine a_goto (tgt := 22) dX7_undo_51 (by decide) ?_
      exact ih (l1 + 1) μ2 _ hF K
set_option maxHeartbeats 4000000 in
set_option maxRecDepth 100000 in
theorem ct_X7_undo {g : GT} (hg : GR g)  (μ : MM)  {r : Int32 × MM} (hF : f_X7_undo  μ = some r) : Ct g 0 mi_X7_undo [.ref 144] μ (QI r.1 r.2) := by
  refine ct_of (k := 1) (by decide +kernel) rfl hg.1 rfl ?_
  show WA g 0 mi_X7_undo 0 [some (.ref 144), none] [] μ (QI r.1 r.2)
  unfold f_X7_undo at hF
  refine a_aload_0 dX7_undo_0 ?_
  refine a_getI dX7_undo_1 fa_X7_156 (hg.d (by decide)) rfl rfl ?_
  refine a_if_ne (tgt := 10) dX7_undo_4 (by decide) (fun h4 => ?_) (fun h4 => ?_)
  · rw [if_neg h4] at hF
    refine a_aload_0 dX7_undo_10 ?_
    refine a_dup dX7_undo_11 rfl ?_
    refine a_getI dX7_undo_12 fa_X7_156 (hg.d (by decide)) rfl rfl ?_
    refine a_iconst (v := 1) dX7_undo_15 (by decide) ?_
    refine a_isub dX7_undo_16 ?_
    obtain ⟨μ1, eμ1, hF⟩ := bd_e hF
    refine a_pI eμ1 dX7_undo_17 fp_X7_156 (hg.d (by decide)) rfl rfl ?_
    refine a_iconst (v := 0) dX7_undo_20 (by decide) ?_
    refine a_istore_1 dX7_undo_21 (by decide) rfl ?_
    obtain ⟨z3, ez3, hF⟩ := ob_e hF
    refine ct_X7_undo_L22 hg   FU 0 μ1 z3 ez3 ?_
    refine a_aload_0 dX7_undo_54 ?_
    refine a_getI dX7_undo_55 fa_X7_156 (hg.d (by decide)) rfl rfl ?_
    obtain rfl := Option.some.inj hF
    exact a_iret dX7_undo_58 rfl ⟨rfl, rfl⟩
  · rw [if_pos h4] at hF
    refine a_ldc dX7_undo_7 k_X7_241 ?_
    obtain rfl := Option.some.inj hF
    exact a_iret dX7_undo_9 rfl ⟨rfl, rfl⟩
set_option maxHeartbeats 4000000 in
set_option maxRecDepth 100000 in
theorem ct_X7_down {g : GT} (hg : GR g) (p1 : Int32) (μ : MM)  {r : Int32} (hF : f_X7_down p1 μ = some r) : Ct g 3 mi_X7_down [.ref 144, .int p1] μ (QI r μ) := by
  refine ct_of (k := 0) (by decide +kernel) rfl hg.1 rfl ?_
  show WA g 3 mi_X7_down 0 [some (.ref 144), some (.int p1)] [] μ (QI r μ)
  unfold f_X7_down at hF
  refine a_aload_0 dX7_down_0 ?_
  refine a_iload_1 dX7_down_1 ?_
  obtain ⟨x1, ex1, hF⟩ := bd_e hF
  refine a_iV1 dX7_down_2 cv_X7_233 (ct_X7_isFarm hg p1 μ ex1.symm) (by decide) (hg.d (by decide)) rfl (Nat.le_of_ble_eq_true rfl) ?_
  refine a_if_eq (tgt := 16) dX7_down_5 (by decide) (fun h5 => ?_) (fun h5 => ?_)
  · rw [if_pos h5] at hF
    refine a_ldc dX7_down_16 k_X7_236 ?_
    obtain rfl := Option.some.inj hF
    exact a_iret dX7_down_18 rfl ⟨rfl, rfl⟩
  · rw [if_neg h5] at hF
    refine a_aload_0 dX7_down_8 ?_
    refine a_iload_1 dX7_down_9 ?_
    obtain ⟨x2, ex2, hF⟩ := ob_e hF
    refine a_iV1 dX7_down_10 cv_X7_206 (ct_X7_downOf hg p1 μ ex2) (by decide) (hg.d (by decide)) rfl (Nat.le_of_ble_eq_true rfl) ?_
    refine a_goto (tgt := 18) dX7_down_13 (by decide) ?_
    obtain rfl := Option.some.inj hF
    exact a_iret dX7_down_18 rfl ⟨rfl, rfl⟩
set_option maxHeartbeats 4000000 in
set_option maxRecDepth 100000 in
theorem ct_X7_up {g : GT} (hg : GR g) (p1 : Int32) (μ : MM)  {r : Int32} (hF : f_X7_up p1 μ = some r) : Ct g 4 mi_X7_up [.ref 144, .int p1] μ (QI r μ) := by
  refine ct_of (k := 0) (by decide +kernel) rfl hg.1 rfl ?_
  show WA g 4 mi_X7_up 0 [some (.ref 144), some (.int p1)] [] μ (QI r μ)
  unfold f_X7_up at hF
  refine a_aload_0 dX7_up_0 ?_
  refine a_iload_1 dX7_up_1 ?_
  obtain ⟨x1, ex1, hF⟩ := bd_e hF
  refine a_iV1 dX7_up_2 cv_X7_233 (ct_X7_isFarm hg p1 μ ex1.symm) (by decide) (hg.d (by decide)) rfl (Nat.le_of_ble_eq_true rfl) ?_
  refine a_if_eq (tgt := 16) dX7_up_5 (by decide) (fun h5 => ?_) (fun h5 => ?_)
  · rw [if_pos h5] at hF
    refine a_ldc dX7_up_16 k_X7_236 ?_
    obtain rfl := Option.some.inj hF
    exact a_iret dX7_up_18 rfl ⟨rfl, rfl⟩
  · rw [if_neg h5] at hF
    refine a_aload_0 dX7_up_8 ?_
    refine a_iload_1 dX7_up_9 ?_
    obtain ⟨x2, ex2, hF⟩ := ob_e hF
    refine a_iV1 dX7_up_10 cv_X7_209 (ct_X7_upOf hg p1 μ ex2) (by decide) (hg.d (by decide)) rfl (Nat.le_of_ble_eq_true rfl) ?_
    refine a_goto (tgt := 18) dX7_up_13 (by decide) ?_
    obtain rfl := Option.some.inj hF
    exact a_iret dX7_up_18 rfl ⟨rfl, rfl⟩
set_option maxHeartbeats 4000000 in
set_option maxRecDepth 100000 in
theorem ct_X7_becomes {g : GT} (hg : GR g) (p1 : Int32) (p2 : Int32) (p3 : Int32) (μ : MM)  {r : Int32} (hF : f_X7_becomes p1 p2 p3 μ = some r) : Ct g 3 mi_X7_becomes [.ref 144, .int p1, .int p2, .int p3] μ (QI r μ) := by
  refine ct_of (k := 0) (by decide +kernel) rfl hg.1 rfl ?_
  show WA g 3 mi_X7_becomes 0 [some (.ref 144), some (.int p1), some (.int p2), some (.int p3)] [] μ (QI r μ)
  unfold f_X7_becomes at hF
  refine a_aload_0 dX7_becomes_0 ?_
  refine a_iload_1 dX7_becomes_1 ?_
  obtain ⟨x1, ex1, hF⟩ := bd_e hF
  refine a_iV1 dX7_becomes_2 cv_X7_233 (ct_X7_isFarm hg p1 μ ex1.symm) (by decide) (hg.d (by decide)) rfl (Nat.le_of_ble_eq_true rfl) ?_
  refine a_if_eq (tgt := 24) dX7_becomes_5 (by decide) (fun h5 => ?_) (fun h5 => ?_)
  · rw [if_pos h5] at hF
    refine a_ldc dX7_becomes_24 k_X7_236 ?_
    obtain rfl := Option.some.inj hF
    exact a_iret dX7_becomes_26 rfl ⟨rfl, rfl⟩
  · rw [if_neg h5] at hF
    refine a_aload_0 dX7_becomes_8 ?_
    refine a_iload_2 dX7_becomes_9 ?_
    obtain ⟨x2, ex2, hF⟩ := bd_e hF
    refine a_iV1 dX7_becomes_10 cv_X7_233 (ct_X7_isFarm hg p2 μ ex2.symm) (by decide) (hg.d (by decide)) rfl (Nat.le_of_ble_eq_true rfl) ?_
    refine a_if_eq (tgt := 24) dX7_becomes_13 (by decide) (fun h13 => ?_) (fun h13 => ?_)
    · rw [if_pos h13] at hF
      refine a_ldc dX7_becomes_24 k_X7_236 ?_
      obtain rfl := Option.some.inj hF
      exact a_iret dX7_becomes_26 rfl ⟨rfl, rfl⟩
    · rw [if_neg h13] at hF
      refine a_aload_0 dX7_becomes_16 ?_
      refine a_iload_3 dX7_becomes_17 ?_
      obtain ⟨x3, ex3, hF⟩ := bd_e hF
      refine a_iV1 dX7_becomes_18 cv_X7_251 (ct_X7_isWord hg p3 μ ex3.symm) (by decide) (hg.d (by decide)) rfl (Nat.le_of_ble_eq_true rfl) ?_
      refine a_if_ne (tgt := 27) dX7_becomes_21 (by decide) (fun h21 => ?_) (fun h21 => ?_)
      · rw [if_neg h21] at hF
        refine a_aload_0 dX7_becomes_27 ?_
        refine a_iload_1 dX7_becomes_28 ?_
        obtain ⟨x4, ex4, hF⟩ := ob_e hF
        refine a_iV1 dX7_becomes_29 cv_X7_206 (ct_X7_downOf hg p1 μ ex4) (by decide) (hg.d (by decide)) rfl (Nat.le_of_ble_eq_true rfl) ?_
        refine a_iload_2 dX7_becomes_32 ?_
        obtain ⟨x5, ex5, hF⟩ := bd_e hF
        refine a_iS2 dX7_becomes_33 cs_X7_163 (ct_X7_has hg x4 p2 μ ex5.symm) (by decide) (Nat.le_of_ble_eq_true rfl) ?_
        refine a_if_eq (tgt := 49) dX7_becomes_36 (by decide) (fun h36 => ?_) (fun h36 => ?_)
        · rw [if_pos h36] at hF
          refine a_iconst (v := (-1)) dX7_becomes_49 (by decide) ?_
          obtain rfl := Option.some.inj hF
          exact a_iret dX7_becomes_50 rfl ⟨rfl, rfl⟩
        · rw [if_neg h36] at hF
          refine a_aload_0 dX7_becomes_39 ?_
          refine a_iload_1 dX7_becomes_40 ?_
          refine a_iload_2 dX7_becomes_41 ?_
          refine a_iload_3 dX7_becomes_42 ?_
          obtain ⟨x6, ex6, hF⟩ := ob_e hF
          refine a_iV3 dX7_becomes_43 cv_X7_215 (ct_X7_wordAt hg p1 p2 p3 μ ex6) (by decide) (hg.d (by decide)) rfl (Nat.le_of_ble_eq_true rfl) ?_
          refine a_goto (tgt := 50) dX7_becomes_46 (by decide) ?_
          obtain rfl := Option.some.inj hF
          exact a_iret dX7_becomes_50 rfl ⟨rfl, rfl⟩
      · rw [if_pos h21] at hF
        refine a_ldc dX7_becomes_24 k_X7_236 ?_
        obtain rfl := Option.some.inj hF
        exact a_iret dX7_becomes_26 rfl ⟨rfl, rfl⟩
set_option maxHeartbeats 4000000 in
set_option maxRecDepth 100000 in
theorem ct_X7_takes {g : GT} (hg : GR g) (p1 : Int32) (p2 : Int32) (μ : MM)  {r : Int32} (hF : f_X7_takes p1 p2 μ = some r) : Ct g 3 mi_X7_takes [.ref 144, .int p1, .int p2] μ (QI r μ) := by
  refine ct_of (k := 0) (by decide +kernel) rfl hg.1 rfl ?_
  show WA g 3 mi_X7_takes 0 [some (.ref 144), some (.int p1), some (.int p2)] [] μ (QI r μ)
  unfold f_X7_takes at hF
  refine a_aload_0 dX7_takes_0 ?_
  refine a_iload_1 dX7_takes_1 ?_
  obtain ⟨x1, ex1, hF⟩ := bd_e hF
  refine a_iV1 dX7_takes_2 cv_X7_233 (ct_X7_isFarm hg p1 μ ex1.symm) (by decide) (hg.d (by decide)) rfl (Nat.le_of_ble_eq_true rfl) ?_
  refine a_if_eq (tgt := 16) dX7_takes_5 (by decide) (fun h5 => ?_) (fun h5 => ?_)
  · rw [if_pos h5] at hF
    refine a_ldc dX7_takes_16 k_X7_236 ?_
    obtain rfl := Option.some.inj hF
    exact a_iret dX7_takes_18 rfl ⟨rfl, rfl⟩
  · rw [if_neg h5] at hF
    refine a_aload_0 dX7_takes_8 ?_
    refine a_iload_2 dX7_takes_9 ?_
    obtain ⟨x2, ex2, hF⟩ := bd_e hF
    refine a_iV1 dX7_takes_10 cv_X7_233 (ct_X7_isFarm hg p2 μ ex2.symm) (by decide) (hg.d (by decide)) rfl (Nat.le_of_ble_eq_true rfl) ?_
    refine a_if_ne (tgt := 19) dX7_takes_13 (by decide) (fun h13 => ?_) (fun h13 => ?_)
    · rw [if_neg h13] at hF
      refine a_aload_0 dX7_takes_19 ?_
      refine a_iload_1 dX7_takes_20 ?_
      obtain ⟨x3, ex3, hF⟩ := ob_e hF
      refine a_iV1 dX7_takes_21 cv_X7_206 (ct_X7_downOf hg p1 μ ex3) (by decide) (hg.d (by decide)) rfl (Nat.le_of_ble_eq_true rfl) ?_
      refine a_iload_2 dX7_takes_24 ?_
      obtain ⟨x4, ex4, hF⟩ := bd_e hF
      refine a_iS2 dX7_takes_25 cs_X7_163 (ct_X7_has hg x3 p2 μ ex4.symm) (by decide) (Nat.le_of_ble_eq_true rfl) ?_
      refine a_if_eq (tgt := 50) dX7_takes_28 (by decide) (fun h28 => ?_) (fun h28 => ?_)
      · rw [if_pos h28] at hF
        refine a_iconst (v := (-1)) dX7_takes_50 (by decide) ?_
        obtain rfl := Option.some.inj hF
        exact a_iret dX7_takes_51 rfl ⟨rfl, rfl⟩
      · rw [if_neg h28] at hF
        refine a_aload_0 dX7_takes_31 ?_
        refine a_getR (q := 149) dX7_takes_32 fa_X7_22 (hg.d (by decide)) rfl rfl ?_
        refine a_bipush (v := 10) dX7_takes_35 (by decide) ?_
        refine a_ldC (j := 10) dX7_takes_37 (hg.d (by decide)) rfl (vi (by decide)) (by decide) ?_
        refine a_if_le (tgt := 50) dX7_takes_38 (by decide) (fun h38 => ?_) (fun h38 => ?_)
        · rw [if_pos h38] at hF
          refine a_iconst (v := (-1)) dX7_takes_50 (by decide) ?_
          obtain rfl := Option.some.inj hF
          exact a_iret dX7_takes_51 rfl ⟨rfl, rfl⟩
        · rw [if_neg h38] at hF
          refine a_aload_0 dX7_takes_41 ?_
          refine a_iload_1 dX7_takes_42 ?_
          refine a_iload_2 dX7_takes_43 ?_
          obtain ⟨x5, ex5, hF⟩ := ob_e hF
          refine a_iV2 dX7_takes_44 cv_X7_218 (ct_X7_hoursTo hg p1 p2 μ ex5) (by decide) (hg.d (by decide)) rfl (Nat.le_of_ble_eq_true rfl) ?_
          refine a_goto (tgt := 51) dX7_takes_47 (by decide) ?_
          obtain rfl := Option.some.inj hF
          exact a_iret dX7_takes_51 rfl ⟨rfl, rfl⟩
    · rw [if_pos h13] at hF
      refine a_ldc dX7_takes_16 k_X7_236 ?_
      obtain rfl := Option.some.inj hF
      exact a_iret dX7_takes_18 rfl ⟨rfl, rfl⟩
set_option maxHeartbeats 4000000 in
set_option maxRecDepth 100000 in
theorem ct_X7_wordsFor_L6 {g : GT} (hg : GR g) (l1 : Int32) (l2 : Int32) (l3 : Int32) (μ : MM)  {Q : Option Value → MM → Prop} : ∀ (n : Nat) (l4 : Int32) (l5 : Int32) (z : Int32 × Int32), f_X7_wordsFor_L6 l1 l2 l3 μ n l4 l5 = some z → (WA g 3 mi_X7_wordsFor 58 [some (.ref 144), some (.int l1), some (.int l2), some (.int l3), some (.int z.1), some (.int z.2)] [] μ Q) → WA g 3 mi_X7_wordsFor 6 [some (.ref 144), some (.int l1), some (.int l2), some (.int l3), some (.int l4), some (.int l5)] [] μ Q := by
  intro n
  induction n with
  | zero => intro l4 l5 z hF; exact absurd hF (by simp [f_X7_wordsFor_L6])
  | succ n ih =>
    intro l4 l5 z hF K
    unfold f_X7_wordsFor_L6 at hF
    refine a_iload_5 dX7_wordsFor_6 ?_
    refine a_aload_0 dX7_wordsFor_8 ?_
    refine a_getI dX7_wordsFor_9 fa_X7_88 (hg.d (by decide)) rfl rfl ?_
    refine a_icmp_ge (tgt := 58) dX7_wordsFor_12 (by decide) (fun h12 => ?_) (fun h12 => ?_)
    · rw [if_pos h12] at hF
      obtain rfl := Option.some.inj hF
      exact K
    · rw [if_neg h12] at hF
      refine a_aload_0 dX7_wordsFor_15 ?_
      refine a_iload_1 dX7_wordsFor_16 ?_
      obtain ⟨x1, ex1, hF⟩ := ob_e hF
      refine a_iV1 dX7_wordsFor_17 cv_X7_206 (ct_X7_downOf hg l1 μ ex1) (by decide) (hg.d (by decide)) rfl (Nat.le_of_ble_eq_true rfl) ?_
      refine a_iload_2 dX7_wordsFor_20 ?_
      obtain ⟨x2, ex2, hF⟩ := bd_e hF
      refine a_iS2 dX7_wordsFor_21 cs_X7_163 (ct_X7_has hg x1 l2 μ ex2.symm) (by decide) (Nat.le_of_ble_eq_true rfl) ?_
      refine a_if_eq (tgt := 58) dX7_wordsFor_24 (by decide) (fun h24 => ?_) (fun h24 => ?_)
      · rw [if_pos h24] at hF
        obtain rfl := Option.some.inj hF
        exact K
      · rw [if_neg h24] at hF
        refine a_iload_4 dX7_wordsFor_27 ?_
        refine a_aload_0 dX7_wordsFor_29 ?_
        refine a_iload_1 dX7_wordsFor_30 ?_
        refine a_iload_2 dX7_wordsFor_31 ?_
        refine a_iload_5 dX7_wordsFor_32 ?_
        obtain ⟨x3, ex3, hF⟩ := ob_e hF
        refine a_iV3 dX7_wordsFor_34 cv_X7_215 (ct_X7_wordAt hg l1 l2 l5 μ ex3) (by decide) (hg.d (by decide)) rfl (Nat.le_of_ble_eq_true rfl) ?_
        refine a_iload_3 dX7_wordsFor_37 ?_
        refine a_icmp_ne (tgt := 48) dX7_wordsFor_38 (by decide) (fun h38 => ?_) (fun h38 => ?_)
        · rw [if_neg h38] at hF
          refine a_iconst (v := 0) dX7_wordsFor_48 (by decide) ?_
          refine a_ior dX7_wordsFor_49 ?_
          obtain ⟨v4, ev4, hF⟩ := bd_e hF
          refine a_nm ev4 ?_
          refine a_istore_4 dX7_wordsFor_50 (by decide) rfl ?_
          refine a_iinc_5 (c0 := 1) dX7_wordsFor_52 (by decide) (by decide) rfl ?_
          refine a_goto (tgt := 6) dX7_wordsFor_55 (by decide) ?_
          exact ih v4 (l5 + 1) _ hF K
        · rw [if_pos h38] at hF
          refine a_iconst (v := 1) dX7_wordsFor_41 (by decide) ?_
          refine a_iload_5 dX7_wordsFor_42 ?_
          refine a_shl dX7_wordsFor_44 ?_
          refine a_goto (tgt := 49) dX7_wordsFor_45 (by decide) ?_
          refine a_ior dX7_wordsFor_49 ?_
          obtain ⟨v5, ev5, hF⟩ := bd_e hF
          refine a_nm ev5 ?_
          refine a_istore_4 dX7_wordsFor_50 (by decide) rfl ?_
          refine a_iinc_5 (c0 := 1) dX7_wordsFor_52 (by decide) (by decide) rfl ?_
          refine a_goto (tgt := 6) dX7_wordsFor_55 (by decide) ?_
          exact ih v5 (l5 + 1) _ hF K
set_option maxHeartbeats 4000000 in
set_option maxRecDepth 100000 in
theorem ct_X7_wordsFor {g : GT} (hg : GR g) (p1 : Int32) (p2 : Int32) (p3 : Int32) (μ : MM)  {r : Int32} (hF : f_X7_wordsFor p1 p2 p3 μ = some r) : Ct g 3 mi_X7_wordsFor [.ref 144, .int p1, .int p2, .int p3] μ (QI r μ) := by
  refine ct_of (k := 2) (by decide +kernel) rfl hg.1 rfl ?_
  show WA g 3 mi_X7_wordsFor 0 [some (.ref 144), some (.int p1), some (.int p2), some (.int p3), none, none] [] μ (QI r μ)
  unfold f_X7_wordsFor at hF
  refine a_iconst (v := 0) dX7_wordsFor_0 (by decide) ?_
  refine a_istore_4 dX7_wordsFor_1 (by decide) rfl ?_
  refine a_iconst (v := 0) dX7_wordsFor_3 (by decide) ?_
  refine a_istore_5 dX7_wordsFor_4 (by decide) rfl ?_
  obtain ⟨z6, ez6, hF⟩ := ob_e hF
  refine ct_X7_wordsFor_L6 hg p1 p2 p3 μ  FU 0 0 z6 ez6 ?_
  refine a_iload_4 dX7_wordsFor_58 ?_
  obtain rfl := Option.some.inj hF
  exact a_iret dX7_wordsFor_60 rfl ⟨rfl, rfl⟩
set_option maxHeartbeats 4000000 in
set_option maxRecDepth 100000 in
theorem ct_X7_toSay {g : GT} (hg : GR g) (p1 : Int32) (p2 : Int32) (p3 : Int32) (μ : MM)  {r : Int32} (hF : f_X7_toSay p1 p2 p3 μ = some r) : Ct g 4 mi_X7_toSay [.ref 144, .int p1, .int p2, .int p3] μ (QI r μ) := by
  refine ct_of (k := 0) (by decide +kernel) rfl hg.1 rfl ?_
  show WA g 4 mi_X7_toSay 0 [some (.ref 144), some (.int p1), some (.int p2), some (.int p3)] [] μ (QI r μ)
  unfold f_X7_toSay at hF
  refine a_aload_0 dX7_toSay_0 ?_
  refine a_iload_1 dX7_toSay_1 ?_
  obtain ⟨x1, ex1, hF⟩ := bd_e hF
  refine a_iV1 dX7_toSay_2 cv_X7_233 (ct_X7_isFarm hg p1 μ ex1.symm) (by decide) (hg.d (by decide)) rfl (Nat.le_of_ble_eq_true rfl) ?_
  refine a_if_eq (tgt := 34) dX7_toSay_5 (by decide) (fun h5 => ?_) (fun h5 => ?_)
  · rw [if_pos h5] at hF
    refine a_ldc dX7_toSay_34 k_X7_236 ?_
    obtain rfl := Option.some.inj hF
    exact a_iret dX7_toSay_36 rfl ⟨rfl, rfl⟩
  · rw [if_neg h5] at hF
    refine a_aload_0 dX7_toSay_8 ?_
    refine a_iload_2 dX7_toSay_9 ?_
    obtain ⟨x2, ex2, hF⟩ := bd_e hF
    refine a_iV1 dX7_toSay_10 cv_X7_233 (ct_X7_isFarm hg p2 μ ex2.symm) (by decide) (hg.d (by decide)) rfl (Nat.le_of_ble_eq_true rfl) ?_
    refine a_if_eq (tgt := 34) dX7_toSay_13 (by decide) (fun h13 => ?_) (fun h13 => ?_)
    · rw [if_pos h13] at hF
      refine a_ldc dX7_toSay_34 k_X7_236 ?_
      obtain rfl := Option.some.inj hF
      exact a_iret dX7_toSay_36 rfl ⟨rfl, rfl⟩
    · rw [if_neg h13] at hF
      refine a_aload_0 dX7_toSay_16 ?_
      refine a_iload_3 dX7_toSay_17 ?_
      obtain ⟨x3, ex3, hF⟩ := bd_e hF
      refine a_iV1 dX7_toSay_18 cv_X7_251 (ct_X7_isWord hg p3 μ ex3.symm) (by decide) (hg.d (by decide)) rfl (Nat.le_of_ble_eq_true rfl) ?_
      refine a_if_eq (tgt := 34) dX7_toSay_21 (by decide) (fun h21 => ?_) (fun h21 => ?_)
      · rw [if_pos h21] at hF
        refine a_ldc dX7_toSay_34 k_X7_236 ?_
        obtain rfl := Option.some.inj hF
        exact a_iret dX7_toSay_36 rfl ⟨rfl, rfl⟩
      · rw [if_neg h21] at hF
        refine a_aload_0 dX7_toSay_24 ?_
        refine a_iload_1 dX7_toSay_25 ?_
        refine a_iload_2 dX7_toSay_26 ?_
        refine a_iload_3 dX7_toSay_27 ?_
        obtain ⟨x4, ex4, hF⟩ := ob_e hF
        refine a_iV3 dX7_toSay_28 cv_X7_276 (ct_X7_wordsFor hg p1 p2 p3 μ ex4) (by decide) (hg.d (by decide)) rfl (Nat.le_of_ble_eq_true rfl) ?_
        refine a_goto (tgt := 36) dX7_toSay_31 (by decide) ?_
        obtain rfl := Option.some.inj hF
        exact a_iret dX7_toSay_36 rfl ⟨rfl, rfl⟩
set_option maxHeartbeats 4000000 in
set_option maxRecDepth 100000 in
theorem ct_X7_origin_L51 {g : GT} (hg : GR g) (l1 : Int32) (l2 : Int32) (l3 : Int32) (μ : MM)  {Q : Option Value → MM → Prop} : ∀ (n : Nat) (l4 : Int32) (l5 : Int32) (z : Int32 × Int32), f_X7_origin_L51 l1 l2 l3 μ n l4 l5 = some z → (WA g 4 mi_X7_origin 82 [some (.ref 144), some (.int l1), some (.int l2), some (.int l3), some (.int z.1), some (.int z.2)] [] μ Q) → WA g 4 mi_X7_origin 51 [some (.ref 144), some (.int l1), some (.int l2), some (.int l3), some (.int l4), some (.int l5)] [] μ Q := by
  intro n
  induction n with
  | zero => intro l4 l5 z hF; exact absurd hF (by simp [f_X7_origin_L51])
  | succ n ih =>
    intro l4 l5 z hF K
    unfold f_X7_origin_L51 at hF
    refine a_iload_5 dX7_origin_51 ?_
    refine a_aload_0 dX7_origin_53 ?_
    refine a_getI dX7_origin_54 fa_X7_81 (hg.d (by decide)) rfl rfl ?_
    refine a_icmp_ge (tgt := 82) dX7_origin_57 (by decide) (fun h57 => ?_) (fun h57 => ?_)
    · rw [if_pos h57] at hF
      obtain rfl := Option.some.inj hF
      exact K
    · rw [if_neg h57] at hF
      refine a_iload_4 dX7_origin_60 ?_
      refine a_aload_0 dX7_origin_62 ?_
      refine a_iload_5 dX7_origin_63 ?_
      refine a_iload_1 dX7_origin_65 ?_
      refine a_iload_2 dX7_origin_66 ?_
      obtain ⟨x3, ex3, hF⟩ := ob_e hF
      refine a_iV3 dX7_origin_67 cv_X7_276 (ct_X7_wordsFor hg l5 l1 l2 μ ex3) (by decide) (hg.d (by decide)) rfl (Nat.le_of_ble_eq_true rfl) ?_
      obtain ⟨x4, ex4, hF⟩ := ob_e hF
      refine a_iS1 dX7_origin_70 cs_X7_212 (ct_X7_bits hg x3 μ ex4) (by decide) (Nat.le_of_ble_eq_true rfl) ?_
      refine a_iadd dX7_origin_73 ?_
      obtain ⟨v5, ev5, hF⟩ := bd_e hF
      refine a_nm ev5 ?_
      refine a_istore_4 dX7_origin_74 (by decide) rfl ?_
      refine a_iinc_5 (c0 := 1) dX7_origin_76 (by decide) (by decide) rfl ?_
      refine a_goto (tgt := 51) dX7_origin_79 (by decide) ?_
      exact ih v5 (l5 + 1) _ hF K
set_option maxHeartbeats 4000000 in
set_option maxRecDepth 100000 in
theorem ct_X7_origin {g : GT} (hg : GR g) (p1 : Int32) (p2 : Int32) (p3 : Int32) (μ : MM)  {r : Int32} (hF : f_X7_origin p1 p2 p3 μ = some r) : Ct g 4 mi_X7_origin [.ref 144, .int p1, .int p2, .int p3] μ (QI r μ) := by
  refine ct_of (k := 2) (by decide +kernel) rfl hg.1 rfl ?_
  show WA g 4 mi_X7_origin 0 [some (.ref 144), some (.int p1), some (.int p2), some (.int p3), none, none] [] μ (QI r μ)
  unfold f_X7_origin at hF
  refine a_aload_0 dX7_origin_0 ?_
  refine a_iload_1 dX7_origin_1 ?_
  obtain ⟨x1, ex1, hF⟩ := bd_e hF
  refine a_iV1 dX7_origin_2 cv_X7_233 (ct_X7_isFarm hg p1 μ ex1.symm) (by decide) (hg.d (by decide)) rfl (Nat.le_of_ble_eq_true rfl) ?_
  refine a_if_eq (tgt := 29) dX7_origin_5 (by decide) (fun h5 => ?_) (fun h5 => ?_)
  · rw [if_pos h5] at hF
    refine a_ldc dX7_origin_29 k_X7_236 ?_
    obtain rfl := Option.some.inj hF
    exact a_iret dX7_origin_31 rfl ⟨rfl, rfl⟩
  · rw [if_neg h5] at hF
    refine a_aload_0 dX7_origin_8 ?_
    refine a_iload_2 dX7_origin_9 ?_
    obtain ⟨x2, ex2, hF⟩ := bd_e hF
    refine a_iV1 dX7_origin_10 cv_X7_251 (ct_X7_isWord hg p2 μ ex2.symm) (by decide) (hg.d (by decide)) rfl (Nat.le_of_ble_eq_true rfl) ?_
    refine a_if_eq (tgt := 29) dX7_origin_13 (by decide) (fun h13 => ?_) (fun h13 => ?_)
    · rw [if_pos h13] at hF
      refine a_ldc dX7_origin_29 k_X7_236 ?_
      obtain rfl := Option.some.inj hF
      exact a_iret dX7_origin_31 rfl ⟨rfl, rfl⟩
    · rw [if_neg h13] at hF
      refine a_iload_3 dX7_origin_16 ?_
      refine a_iconst (v := (-1)) dX7_origin_17 (by decide) ?_
      refine a_icmp_eq (tgt := 32) dX7_origin_18 (by decide) (fun h18 => ?_) (fun h18 => ?_)
      · rw [if_pos h18] at hF
        refine a_iload_3 dX7_origin_32 ?_
        refine a_iconst (v := (-1)) dX7_origin_33 (by decide) ?_
        refine a_icmp_eq (tgt := 45) dX7_origin_34 (by decide) (fun h34 => ?_) (fun h34 => ?_)
        · rw [if_pos h34] at hF
          refine a_iconst (v := 0) dX7_origin_45 (by decide) ?_
          refine a_istore_4 dX7_origin_46 (by decide) rfl ?_
          refine a_iconst (v := 0) dX7_origin_48 (by decide) ?_
          refine a_istore_5 dX7_origin_49 (by decide) rfl ?_
          obtain ⟨z6, ez6, hF⟩ := ob_e hF
          refine ct_X7_origin_L51 hg p1 p2 p3 μ  FU 0 0 z6 ez6 ?_
          refine a_iload_4 dX7_origin_82 ?_
          obtain rfl := Option.some.inj hF
          exact a_iret dX7_origin_84 rfl ⟨rfl, rfl⟩
        · rw [if_neg h34] at hF
          refine a_aload_0 dX7_origin_37 ?_
          refine a_iload_3 dX7_origin_38 ?_
          refine a_iload_1 dX7_origin_39 ?_
          refine a_iload_2 dX7_origin_40 ?_
          obtain ⟨x7, ex7, hF⟩ := ob_e hF
          refine a_iV3 dX7_origin_41 cv_X7_276 (ct_X7_wordsFor hg p3 p1 p2 μ ex7) (by decide) (hg.d (by decide)) rfl (Nat.le_of_ble_eq_true rfl) ?_
          obtain rfl := Option.some.inj hF
          exact a_iret dX7_origin_44 rfl ⟨rfl, rfl⟩
      · rw [if_neg h18] at hF
        refine a_aload_0 dX7_origin_21 ?_
        refine a_iload_3 dX7_origin_22 ?_
        obtain ⟨x8, ex8, hF⟩ := bd_e hF
        refine a_iV1 dX7_origin_23 cv_X7_233 (ct_X7_isFarm hg p3 μ ex8.symm) (by decide) (hg.d (by decide)) rfl (Nat.le_of_ble_eq_true rfl) ?_
        refine a_if_ne (tgt := 32) dX7_origin_26 (by decide) (fun h26 => ?_) (fun h26 => ?_)
        · rw [if_neg h26] at hF
          refine a_iload_3 dX7_origin_32 ?_
          refine a_iconst (v := (-1)) dX7_origin_33 (by decide) ?_
          refine a_icmp_eq (tgt := 45) dX7_origin_34 (by decide) (fun h34 => ?_) (fun h34 => ?_)
          · rw [if_pos h34] at hF
            refine a_iconst (v := 0) dX7_origin_45 (by decide) ?_
            refine a_istore_4 dX7_origin_46 (by decide) rfl ?_
            refine a_iconst (v := 0) dX7_origin_48 (by decide) ?_
            refine a_istore_5 dX7_origin_49 (by decide) rfl ?_
            obtain ⟨z9, ez9, hF⟩ := ob_e hF
            refine ct_X7_origin_L51 hg p1 p2 p3 μ  FU 0 0 z9 ez9 ?_
            refine a_iload_4 dX7_origin_82 ?_
            obtain rfl := Option.some.inj hF
            exact a_iret dX7_origin_84 rfl ⟨rfl, rfl⟩
          · rw [if_neg h34] at hF
            refine a_aload_0 dX7_origin_37 ?_
            refine a_iload_3 dX7_origin_38 ?_
            refine a_iload_1 dX7_origin_39 ?_
            refine a_iload_2 dX7_origin_40 ?_
            obtain ⟨x10, ex10, hF⟩ := ob_e hF
            refine a_iV3 dX7_origin_41 cv_X7_276 (ct_X7_wordsFor hg p3 p1 p2 μ ex10) (by decide) (hg.d (by decide)) rfl (Nat.le_of_ble_eq_true rfl) ?_
            obtain rfl := Option.some.inj hF
            exact a_iret dX7_origin_44 rfl ⟨rfl, rfl⟩
        · rw [if_pos h26] at hF
          refine a_ldc dX7_origin_29 k_X7_236 ?_
          obtain rfl := Option.some.inj hF
          exact a_iret dX7_origin_31 rfl ⟨rfl, rfl⟩
set_option maxHeartbeats 4000000 in
set_option maxRecDepth 100000 in
theorem ct_X7_isSet {g : GT} (hg : GR g) (p1 : Int32) (μ : MM)  {r : Int32} (hF : f_X7_isSet p1 μ = r) : Ct g 1 mi_X7_isSet [.ref 144, .int p1] μ (QI r μ) := by
  refine ct_of (k := 0) (by decide +kernel) rfl hg.1 rfl ?_
  show WA g 1 mi_X7_isSet 0 [some (.ref 144), some (.int p1)] [] μ (QI r μ)
  unfold f_X7_isSet at hF
  refine a_iload_1 dX7_isSet_0 ?_
  refine a_i2l dX7_isSet_1 ?_
  refine a_lconst (v := 0) dX7_isSet_2 (by decide) ?_
  refine a_iconst (v := 1) dX7_isSet_3 (by decide) ?_
  refine a_aload_0 dX7_isSet_4 ?_
  refine a_getI dX7_isSet_5 fa_X7_81 (hg.d (by decide)) rfl rfl ?_
  refine a_shl dX7_isSet_8 ?_
  refine a_iconst (v := 1) dX7_isSet_9 (by decide) ?_
  refine a_isub dX7_isSet_10 ?_
  refine a_i2l dX7_isSet_11 ?_
  obtain ⟨x1, ex1, hF⟩ := bd_e hF
  refine a_iS3 dX7_isSet_12 cs_X7_84 (ct_X7_in hg (Int32.toInt64 p1) 0 (Int32.toInt64 ((sl 1 (μ 144 1)) - 1)) μ ex1.symm) (by decide) (Nat.le_of_ble_eq_true rfl) ?_
  subst hF
  exact a_zret dX7_isSet_15 rfl (by rw [ex1]; exact fb_X7_in _ _ _ _) ⟨rfl, rfl⟩
set_option maxHeartbeats 4000000 in
set_option maxRecDepth 100000 in
theorem ct_X7_privately_L15 {g : GT} (hg : GR g) (l1 : Int32) (μ : MM)  {Q : Option Value → MM → Prop} : ∀ (n : Nat) (l2 : Int32) (l3 : Int32) (z : Int32 × Int32), f_X7_privately_L15 l1 μ n l2 l3 = some z → (WA g 3 mi_X7_privately 49 [some (.ref 144), some (.int l1), some (.int z.1), some (.int z.2)] [] μ Q) → WA g 3 mi_X7_privately 15 [some (.ref 144), some (.int l1), some (.int l2), some (.int l3)] [] μ Q := by
  intro n
  induction n with
  | zero => intro l2 l3 z hF; exact absurd hF (by simp [f_X7_privately_L15])
  | succ n ih =>
    intro l2 l3 z hF K
    unfold f_X7_privately_L15 at hF
    refine a_iload_3 dX7_privately_15 ?_
    refine a_aload_0 dX7_privately_16 ?_
    refine a_getI dX7_privately_17 fa_X7_81 (hg.d (by decide)) rfl rfl ?_
    refine a_icmp_ge (tgt := 49) dX7_privately_20 (by decide) (fun h20 => ?_) (fun h20 => ?_)
    · rw [if_pos h20] at hF
      obtain rfl := Option.some.inj hF
      exact K
    · rw [if_neg h20] at hF
      refine a_iload_2 dX7_privately_23 ?_
      refine a_aload_0 dX7_privately_24 ?_
      refine a_iload_3 dX7_privately_25 ?_
      obtain ⟨x2, ex2, hF⟩ := ob_e hF
      refine a_iV1 dX7_privately_26 cv_X7_206 (ct_X7_downOf hg l3 μ ex2) (by decide) (hg.d (by decide)) rfl (Nat.le_of_ble_eq_true rfl) ?_
      refine a_iload_1 dX7_privately_29 ?_
      refine a_iand dX7_privately_30 ?_
      refine a_if_ne (tgt := 40) dX7_privately_31 (by decide) (fun h31 => ?_) (fun h31 => ?_)
      · rw [if_neg h31] at hF
        refine a_iconst (v := 0) dX7_privately_40 (by decide) ?_
        refine a_ior dX7_privately_41 ?_
        obtain ⟨v3, ev3, hF⟩ := bd_e hF
        refine a_nm ev3 ?_
        refine a_istore_2 dX7_privately_42 (by decide) rfl ?_
        refine a_iinc_3 (c0 := 1) dX7_privately_43 (by decide) (by decide) rfl ?_
        refine a_goto (tgt := 15) dX7_privately_46 (by decide) ?_
        exact ih v3 (l3 + 1) _ hF K
      · rw [if_pos h31] at hF
        refine a_iconst (v := 1) dX7_privately_34 (by decide) ?_
        refine a_iload_3 dX7_privately_35 ?_
        refine a_shl dX7_privately_36 ?_
        refine a_goto (tgt := 41) dX7_privately_37 (by decide) ?_
        refine a_ior dX7_privately_41 ?_
        obtain ⟨v4, ev4, hF⟩ := bd_e hF
        refine a_nm ev4 ?_
        refine a_istore_2 dX7_privately_42 (by decide) rfl ?_
        refine a_iinc_3 (c0 := 1) dX7_privately_43 (by decide) (by decide) rfl ?_
        refine a_goto (tgt := 15) dX7_privately_46 (by decide) ?_
        exact ih v4 (l3 + 1) _ hF K
set_option maxHeartbeats 4000000 in
set_option maxRecDepth 100000 in
theorem ct_X7_privately {g : GT} (hg : GR g) (p1 : Int32) (μ : MM)  {r : Int32} (hF : f_X7_privately p1 μ = some r) : Ct g 3 mi_X7_privately [.ref 144, .int p1] μ (QI r μ) := by
  refine ct_of (k := 2) (by decide +kernel) rfl hg.1 rfl ?_
  show WA g 3 mi_X7_privately 0 [some (.ref 144), some (.int p1), none, none] [] μ (QI r μ)
  unfold f_X7_privately at hF
  refine a_aload_0 dX7_privately_0 ?_
  refine a_iload_1 dX7_privately_1 ?_
  obtain ⟨x1, ex1, hF⟩ := bd_e hF
  refine a_iV1 dX7_privately_2 cv_X7_279 (ct_X7_isSet hg p1 μ ex1.symm) (by decide) (hg.d (by decide)) rfl (Nat.le_of_ble_eq_true rfl) ?_
  refine a_if_ne (tgt := 11) dX7_privately_5 (by decide) (fun h5 => ?_) (fun h5 => ?_)
  · rw [if_neg h5] at hF
    refine a_iconst (v := 0) dX7_privately_11 (by decide) ?_
    refine a_istore_2 dX7_privately_12 (by decide) rfl ?_
    refine a_iconst (v := 1) dX7_privately_13 (by decide) ?_
    refine a_istore_3 dX7_privately_14 (by decide) rfl ?_
    obtain ⟨z5, ez5, hF⟩ := ob_e hF
    refine ct_X7_privately_L15 hg p1 μ  FU 0 1 z5 ez5 ?_
    refine a_iload_2 dX7_privately_49 ?_
    obtain rfl := Option.some.inj hF
    exact a_iret dX7_privately_50 rfl ⟨rfl, rfl⟩
  · rw [if_pos h5] at hF
    refine a_ldc dX7_privately_8 k_X7_236 ?_
    obtain rfl := Option.some.inj hF
    exact a_iret dX7_privately_10 rfl ⟨rfl, rfl⟩
set_option maxHeartbeats 4000000 in
set_option maxRecDepth 100000 in
theorem ct_X7_dams_L33 {g : GT} (hg : GR g) (l1 : Int32) (l2 : Int32) (l3 : Int32)  {Q : Option Value → MM → Prop} : ∀ (n : Nat) (l4 : Int32) (l5 : Int32) (μ : MM) (z : Int32 × Int32 × MM), f_X7_dams_L33 l1 l2 l3 n l4 l5 μ = some z → (WA g 3 mi_X7_dams 117 [some (.ref 144), some (.int l1), some (.int l2), some (.int l3), some (.int z.1), some (.int z.2.1), none] [] z.2.2 Q) → WA g 3 mi_X7_dams 33 [some (.ref 144), some (.int l1), some (.int l2), some (.int l3), some (.int l4), some (.int l5), none] [] μ Q := by
  intro n
  induction n with
  | zero => intro l4 l5 μ z hF; exact absurd hF (by simp [f_X7_dams_L33])
  | succ n ih =>
    intro l4 l5 μ z hF K
    unfold f_X7_dams_L33 at hF
    refine a_iload_5 dX7_dams_33 ?_
    refine a_iconst (v := 1) dX7_dams_35 (by decide) ?_
    refine a_aload_0 dX7_dams_36 ?_
    refine a_getI dX7_dams_37 fa_X7_81 (hg.d (by decide)) rfl rfl ?_
    refine a_shl dX7_dams_40 ?_
    refine a_icmp_ge (tgt := 117) dX7_dams_41 (by decide) (fun h41 => ?_) (fun h41 => ?_)
    · rw [if_pos h41] at hF
      obtain rfl := Option.some.inj hF
      exact K
    · rw [if_neg h41] at hF
      refine a_iload_5 dX7_dams_44 ?_
      refine a_iload_3 dX7_dams_46 ?_
      refine a_iand dX7_dams_47 ?_
      obtain ⟨j4, ej48, hF⟩ := ob_e hF
      have KJ48 : WA g 3 mi_X7_dams 74 [some (.ref 144), some (.int l1), some (.int l2), some (.int l3), some (.int l4), some (.int l5), none] [.int j4] μ Q := by
        refine a_istore_6 dX7_dams_74 (by decide) rfl ?_
        refine a_aload_0 dX7_dams_76 ?_
        refine a_getR (q := 149) dX7_dams_77 fa_X7_22 (hg.d (by decide)) rfl rfl ?_
        refine a_bipush (v := 9) dX7_dams_80 (by decide) ?_
        refine a_iload_3 dX7_dams_82 ?_
        refine a_iload_5 dX7_dams_83 ?_
        refine a_ior dX7_dams_85 ?_
        obtain ⟨μ7, eμ7, hF⟩ := bd_e hF
        refine a_sI eμ7 dX7_dams_86 (hg.d (by decide)) rfl (vi (by decide)) (by decide) ?_
        refine a_iload_6 dX7_dams_87 ?_
        refine a_if_eq (tgt := 107) dX7_dams_89 (by decide) (fun h89 => ?_) (fun h89 => ?_)
        · rw [if_pos h89] at hF
          refine a_iload_4 dX7_dams_107 ?_
          refine a_istore_4 dX7_dams_109 (by decide) rfl ?_
          refine a_iinc_5 (c0 := 2) dX7_dams_111 (by decide) (by decide) rfl ?_
          refine a_goto (tgt := 33) dX7_dams_114 (by decide) ?_
          exact a_wk2 (ih l4 (l5 + 2) μ7 _ hF K) (by simp [wk])
        · rw [if_neg h89] at hF
          refine a_aload_0 dX7_dams_92 ?_
          refine a_iload_1 dX7_dams_93 ?_
          obtain ⟨x8, ex8, hF⟩ := ob_e hF
          refine a_iV1 dX7_dams_94 cv_X7_206 (ct_X7_downOf hg l1 μ7 ex8) (by decide) (hg.d (by decide)) rfl (Nat.le_of_ble_eq_true rfl) ?_
          refine a_iload_2 dX7_dams_97 ?_
          refine a_iand dX7_dams_98 ?_
          refine a_if_ne (tgt := 107) dX7_dams_99 (by decide) (fun h99 => ?_) (fun h99 => ?_)
          · rw [if_neg h99] at hF
            refine a_iload_4 dX7_dams_107 ?_
            refine a_istore_4 dX7_dams_109 (by decide) rfl ?_
            refine a_iinc_5 (c0 := 2) dX7_dams_111 (by decide) (by decide) rfl ?_
            refine a_goto (tgt := 33) dX7_dams_114 (by decide) ?_
            exact a_wk2 (ih l4 (l5 + 2) μ7 _ hF K) (by simp [wk])
          · rw [if_pos h99] at hF
            refine a_iload_5 dX7_dams_102 ?_
            refine a_goto (tgt := 109) dX7_dams_104 (by decide) ?_
            refine a_istore_4 dX7_dams_109 (by decide) rfl ?_
            refine a_iinc_5 (c0 := 2) dX7_dams_111 (by decide) (by decide) rfl ?_
            refine a_goto (tgt := 33) dX7_dams_114 (by decide) ?_
            exact a_wk2 (ih l5 (l5 + 2) μ7 _ hF K) (by simp [wk])
      refine a_if_ne (tgt := 73) dX7_dams_48 (by decide) (fun h48 => ?_) (fun h48 => ?_)
      · rw [if_neg h48] at ej48
        refine a_iconst (v := 0) dX7_dams_73 (by decide) ?_
        obtain rfl := Option.some.inj ej48
        exact KJ48
      · rw [if_pos h48] at ej48
        refine a_iload_4 dX7_dams_51 ?_
        refine a_if_lt (tgt := 69) dX7_dams_53 (by decide) (fun h53 => ?_) (fun h53 => ?_)
        · rw [if_pos h53] at ej48
          refine a_iconst (v := 1) dX7_dams_69 (by decide) ?_
          refine a_goto (tgt := 74) dX7_dams_70 (by decide) ?_
          obtain rfl := Option.some.inj ej48
          exact KJ48
        · rw [if_neg h53] at ej48
          refine a_iload_5 dX7_dams_56 ?_
          obtain ⟨x5, ex5, ej48⟩ := ob_e ej48
          refine a_iS1 dX7_dams_58 cs_X7_212 (ct_X7_bits hg l5 μ ex5) (by decide) (Nat.le_of_ble_eq_true rfl) ?_
          refine a_iload_4 dX7_dams_61 ?_
          obtain ⟨x6, ex6, ej48⟩ := ob_e ej48
          refine a_iS1 dX7_dams_63 cs_X7_212 (ct_X7_bits hg l4 μ ex6) (by decide) (Nat.le_of_ble_eq_true rfl) ?_
          refine a_icmp_ge (tgt := 73) dX7_dams_66 (by decide) (fun h66 => ?_) (fun h66 => ?_)
          · rw [if_pos h66] at ej48
            refine a_iconst (v := 0) dX7_dams_73 (by decide) ?_
            obtain rfl := Option.some.inj ej48
            exact KJ48
          · rw [if_neg h66] at ej48
            refine a_iconst (v := 1) dX7_dams_69 (by decide) ?_
            refine a_goto (tgt := 74) dX7_dams_70 (by decide) ?_
            obtain rfl := Option.some.inj ej48
            exact KJ48
set_option maxHeartbeats 4000000 in
set_option maxRecDepth 100000 in
theorem ct_X7_dams {g : GT} (hg : GR g) (p1 : Int32) (p2 : Int32) (μ : MM)  {r : Int32 × MM} (hF : f_X7_dams p1 p2 μ = some r) : Ct g 3 mi_X7_dams [.ref 144, .int p1, .int p2] μ (QI r.1 r.2) := by
  refine ct_of (k := 4) (by decide +kernel) rfl hg.1 rfl ?_
  show WA g 3 mi_X7_dams 0 [some (.ref 144), some (.int p1), some (.int p2), none, none, none, none] [] μ (QI r.1 r.2)
  unfold f_X7_dams at hF
  refine a_aload_0 dX7_dams_0 ?_
  refine a_iload_1 dX7_dams_1 ?_
  obtain ⟨x1, ex1, hF⟩ := bd_e hF
  refine a_iV1 dX7_dams_2 cv_X7_233 (ct_X7_isFarm hg p1 μ ex1.symm) (by decide) (hg.d (by decide)) rfl (Nat.le_of_ble_eq_true rfl) ?_
  refine a_if_eq (tgt := 16) dX7_dams_5 (by decide) (fun h5 => ?_) (fun h5 => ?_)
  · rw [if_pos h5] at hF
    refine a_ldc dX7_dams_16 k_X7_236 ?_
    obtain rfl := Option.some.inj hF
    exact a_iret dX7_dams_18 rfl ⟨rfl, rfl⟩
  · rw [if_neg h5] at hF
    refine a_aload_0 dX7_dams_8 ?_
    refine a_iload_2 dX7_dams_9 ?_
    obtain ⟨x2, ex2, hF⟩ := bd_e hF
    refine a_iV1 dX7_dams_10 cv_X7_279 (ct_X7_isSet hg p2 μ ex2.symm) (by decide) (hg.d (by decide)) rfl (Nat.le_of_ble_eq_true rfl) ?_
    refine a_if_ne (tgt := 19) dX7_dams_13 (by decide) (fun h13 => ?_) (fun h13 => ?_)
    · rw [if_neg h13] at hF
      refine a_aload_0 dX7_dams_19 ?_
      refine a_getR (q := 149) dX7_dams_20 fa_X7_22 (hg.d (by decide)) rfl rfl ?_
      refine a_bipush (v := 9) dX7_dams_23 (by decide) ?_
      refine a_ldC (j := 9) dX7_dams_25 (hg.d (by decide)) rfl (vi (by decide)) (by decide) ?_
      obtain ⟨v3, ev3, hF⟩ := bd_e hF
      refine a_nm ev3 ?_
      refine a_istore_3 dX7_dams_26 (by decide) rfl ?_
      refine a_iconst (v := (-1)) dX7_dams_27 (by decide) ?_
      refine a_istore_4 dX7_dams_28 (by decide) rfl ?_
      refine a_iconst (v := 0) dX7_dams_30 (by decide) ?_
      refine a_istore_5 dX7_dams_31 (by decide) rfl ?_
      obtain ⟨z9, ez9, hF⟩ := ob_e hF
      refine ct_X7_dams_L33 hg p1 p2 v3  FU (-1) 0 μ z9 ez9 ?_
      refine a_aload_0 dX7_dams_117 ?_
      refine a_getR (q := 149) dX7_dams_118 fa_X7_22 (hg.d (by decide)) rfl rfl ?_
      refine a_bipush (v := 9) dX7_dams_121 (by decide) ?_
      refine a_iload_3 dX7_dams_123 ?_
      obtain ⟨μ10, eμ10, hF⟩ := bd_e hF
      refine a_sI eμ10 dX7_dams_124 (hg.d (by decide)) rfl (vi (by decide)) (by decide) ?_
      refine a_iload_4 dX7_dams_125 ?_
      obtain rfl := Option.some.inj hF
      exact a_iret dX7_dams_127 rfl ⟨rfl, rfl⟩
    · rw [if_pos h13] at hF
      refine a_ldc dX7_dams_16 k_X7_236 ?_
      obtain rfl := Option.some.inj hF
      exact a_iret dX7_dams_18 rfl ⟨rfl, rfl⟩
