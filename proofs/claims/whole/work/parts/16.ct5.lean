set_option maxHeartbeats 4000000 in
set_option maxRecDepth 100000 in
theorem ct_X7_putBack_L2 {g : GT} (hg : GR g)   {Q : Option Value → MM → Prop} : ∀ (n : Nat) (l1 : Int32) (μ : MM) (z : Int32 × MM), f_X7_putBack_L2  n l1 μ = some z → (WA g 0 mi_X7_putBack 26 [some (.ref 144), some (.int z.1)] [] z.2 Q) → WA g 0 mi_X7_putBack 2 [some (.ref 144), some (.int l1)] [] μ Q := by
  intro n
  induction n with
  | zero => intro l1 μ z hF; exact absurd hF (by simp [f_X7_putBack_L2])
  | succ n ih =>
    intro l1 μ z hF K
    unfold f_X7_putBack_L2 at hF
    refine a_iload_1 dX7_putBack_2 ?_
    refine a_bipush (v := 66) dX7_putBack_3 (by decide) ?_
    refine a_icmp_ge (tgt := 26) dX7_putBack_5 (by decide) (fun h5 => ?_) (fun h5 => ?_)
    · rw [if_pos h5] at hF
      obtain rfl := Option.some.inj hF
      exact K
    · rw [if_neg h5] at hF
      refine a_aload_0 dX7_putBack_8 ?_
      refine a_getR (q := 149) dX7_putBack_9 fa_X7_22 (hg.d (by decide)) rfl rfl ?_
      refine a_iload_1 dX7_putBack_12 ?_
      refine a_aload_0 dX7_putBack_13 ?_
      refine a_getR (q := 158) dX7_putBack_14 fa_X7_54 (hg.d (by decide)) rfl rfl ?_
      refine a_iload_1 dX7_putBack_17 ?_
      obtain ⟨hx18, hF⟩ := gd_e hF
      refine a_ldC dX7_putBack_18 (hg.d (by decide)) rfl hx18 rfl ?_
      obtain ⟨hx19, hF⟩ := gd_e hF
      obtain ⟨μ1, eμ1, hF⟩ := bd_e hF
      refine a_sI eμ1 dX7_putBack_19 (hg.d (by decide)) rfl hx19 rfl ?_
      refine a_iinc_1 (c0 := 1) dX7_putBack_20 (by decide) (by decide) rfl ?_
      refine a_goto (tgt := 2) dX7_putBack_23 (by decide) ?_
      exact ih (l1 + 1) μ1 _ hF K
set_option maxHeartbeats 4000000 in
set_option maxRecDepth 100000 in
theorem ct_X7_putBack {g : GT} (hg : GR g)  (μ : MM)  {r : MM} (hF : f_X7_putBack  μ = some r) : Ct g 0 mi_X7_putBack [.ref 144] μ (QV r) := by
  refine ct_of (k := 1) (by decide +kernel) rfl hg.1 rfl ?_
  show WA g 0 mi_X7_putBack 0 [some (.ref 144), none] [] μ (QV r)
  unfold f_X7_putBack at hF
  refine a_iconst (v := 0) dX7_putBack_0 (by decide) ?_
  refine a_istore_1 dX7_putBack_1 (by decide) rfl ?_
  obtain ⟨z2, ez2, hF⟩ := ob_e hF
  refine ct_X7_putBack_L2 hg   FU 0 μ z2 ez2 ?_
  obtain rfl := Option.some.inj hF
  exact a_vret dX7_putBack_26 rfl ⟨rfl, rfl⟩
set_option maxHeartbeats 4000000 in
set_option maxRecDepth 100000 in
theorem ct_X7_keepBefore_L2 {g : GT} (hg : GR g)   {Q : Option Value → MM → Prop} : ∀ (n : Nat) (l1 : Int32) (μ : MM) (z : Int32 × MM), f_X7_keepBefore_L2  n l1 μ = some z → (WA g 0 mi_X7_keepBefore 26 [some (.ref 144), some (.int z.1)] [] z.2 Q) → WA g 0 mi_X7_keepBefore 2 [some (.ref 144), some (.int l1)] [] μ Q := by
  intro n
  induction n with
  | zero => intro l1 μ z hF; exact absurd hF (by simp [f_X7_keepBefore_L2])
  | succ n ih =>
    intro l1 μ z hF K
    unfold f_X7_keepBefore_L2 at hF
    refine a_iload_1 dX7_keepBefore_2 ?_
    refine a_bipush (v := 66) dX7_keepBefore_3 (by decide) ?_
    refine a_icmp_ge (tgt := 26) dX7_keepBefore_5 (by decide) (fun h5 => ?_) (fun h5 => ?_)
    · rw [if_pos h5] at hF
      obtain rfl := Option.some.inj hF
      exact K
    · rw [if_neg h5] at hF
      refine a_aload_0 dX7_keepBefore_8 ?_
      refine a_getR (q := 158) dX7_keepBefore_9 fa_X7_54 (hg.d (by decide)) rfl rfl ?_
      refine a_iload_1 dX7_keepBefore_12 ?_
      refine a_aload_0 dX7_keepBefore_13 ?_
      refine a_getR (q := 149) dX7_keepBefore_14 fa_X7_22 (hg.d (by decide)) rfl rfl ?_
      refine a_iload_1 dX7_keepBefore_17 ?_
      obtain ⟨hx18, hF⟩ := gd_e hF
      refine a_ldC dX7_keepBefore_18 (hg.d (by decide)) rfl hx18 rfl ?_
      obtain ⟨hx19, hF⟩ := gd_e hF
      obtain ⟨μ1, eμ1, hF⟩ := bd_e hF
      refine a_sI eμ1 dX7_keepBefore_19 (hg.d (by decide)) rfl hx19 rfl ?_
      refine a_iinc_1 (c0 := 1) dX7_keepBefore_20 (by decide) (by decide) rfl ?_
      refine a_goto (tgt := 2) dX7_keepBefore_23 (by decide) ?_
      exact ih (l1 + 1) μ1 _ hF K
set_option maxHeartbeats 4000000 in
set_option maxRecDepth 100000 in
theorem ct_X7_keepBefore {g : GT} (hg : GR g)  (μ : MM)  {r : MM} (hF : f_X7_keepBefore  μ = some r) : Ct g 0 mi_X7_keepBefore [.ref 144] μ (QV r) := by
  refine ct_of (k := 1) (by decide +kernel) rfl hg.1 rfl ?_
  show WA g 0 mi_X7_keepBefore 0 [some (.ref 144), none] [] μ (QV r)
  unfold f_X7_keepBefore at hF
  refine a_iconst (v := 0) dX7_keepBefore_0 (by decide) ?_
  refine a_istore_1 dX7_keepBefore_1 (by decide) rfl ?_
  obtain ⟨z2, ez2, hF⟩ := ob_e hF
  refine ct_X7_keepBefore_L2 hg   FU 0 μ z2 ez2 ?_
  obtain rfl := Option.some.inj hF
  exact a_vret dX7_keepBefore_26 rfl ⟨rfl, rfl⟩
set_option maxHeartbeats 4000000 in
set_option maxRecDepth 100000 in
theorem ct_X7_willHear_L53 {g : GT} (hg : GR g) (l1 : Int32) (l2 : Int32) (l3 : Int32)  {Q : Option Value → MM → Prop} : ∀ (n : Nat) (l4 : Int32) (μ : MM) (z : Int32 × MM), f_X7_willHear_L53 l1 l2 l3 n l4 μ = some z → (WA g 5 mi_X7_willHear 69 [some (.ref 144), some (.int l1), some (.int l2), some (.int l3), some (.int z.1)] [] z.2 Q) → WA g 5 mi_X7_willHear 53 [some (.ref 144), some (.int l1), some (.int l2), some (.int l3), some (.int l4)] [] μ Q := by
  intro n
  induction n with
  | zero => intro l4 μ z hF; exact absurd hF (by simp [f_X7_willHear_L53])
  | succ n ih =>
    intro l4 μ z hF K
    unfold f_X7_willHear_L53 at hF
    refine a_iload_4 dX7_willHear_53 ?_
    refine a_iload_2 dX7_willHear_55 ?_
    refine a_icmp_ge (tgt := 69) dX7_willHear_56 (by decide) (fun h56 => ?_) (fun h56 => ?_)
    · rw [if_pos h56] at hF
      obtain rfl := Option.some.inj hF
      exact K
    · rw [if_neg h56] at hF
      refine a_aload_0 dX7_willHear_59 ?_
      obtain ⟨x6, ex6, hF⟩ := ob_e hF
      refine a_vV0 dX7_willHear_60 cv_X7_248 (ct_X7_pass hg μ ex6) (by decide) (hg.d (by decide)) rfl (Nat.le_of_ble_eq_true rfl) ?_
      refine a_iinc_4 (c0 := 1) dX7_willHear_63 (by decide) (by decide) rfl ?_
      refine a_goto (tgt := 53) dX7_willHear_66 (by decide) ?_
      exact ih (l4 + 1) x6 _ hF K
set_option maxHeartbeats 4000000 in
set_option maxRecDepth 100000 in
theorem ct_X7_willHear {g : GT} (hg : GR g) (p1 : Int32) (p2 : Int32) (p3 : Int32) (μ : MM)  {r : Int32 × MM} (hF : f_X7_willHear p1 p2 p3 μ = some r) : Ct g 5 mi_X7_willHear [.ref 144, .int p1, .int p2, .int p3] μ (QI r.1 r.2) := by
  refine ct_of (k := 1) (by decide +kernel) rfl hg.1 rfl ?_
  show WA g 5 mi_X7_willHear 0 [some (.ref 144), some (.int p1), some (.int p2), some (.int p3), none] [] μ (QI r.1 r.2)
  unfold f_X7_willHear at hF
  refine a_aload_0 dX7_willHear_0 ?_
  refine a_iload_1 dX7_willHear_1 ?_
  obtain ⟨x1, ex1, hF⟩ := bd_e hF
  refine a_iV1 dX7_willHear_2 cv_X7_233 (ct_X7_isFarm hg p1 μ ex1.symm) (by decide) (hg.d (by decide)) rfl (Nat.le_of_ble_eq_true rfl) ?_
  refine a_if_ne (tgt := 11) dX7_willHear_5 (by decide) (fun h5 => ?_) (fun h5 => ?_)
  · rw [if_neg h5] at hF
    refine a_iload_2 dX7_willHear_11 ?_
    refine a_i2l dX7_willHear_12 ?_
    refine a_lconst (v := 0) dX7_willHear_13 (by decide) ?_
    refine a_ldc2 dX7_willHear_14 k_X7_282 ?_
    obtain ⟨x2, ex2, hF⟩ := bd_e hF
    refine a_iS3 dX7_willHear_17 cs_X7_84 (ct_X7_in hg (Int32.toInt64 p2) 0 100 μ ex2.symm) (by decide) (Nat.le_of_ble_eq_true rfl) ?_
    refine a_if_eq (tgt := 33) dX7_willHear_20 (by decide) (fun h20 => ?_) (fun h20 => ?_)
    · rw [if_pos h20] at hF
      refine a_ldc dX7_willHear_33 k_X7_93 ?_
      obtain rfl := Option.some.inj hF
      exact a_iret dX7_willHear_35 rfl ⟨rfl, rfl⟩
    · rw [if_neg h20] at hF
      refine a_iload_3 dX7_willHear_23 ?_
      refine a_i2l dX7_willHear_24 ?_
      refine a_lconst (v := 0) dX7_willHear_25 (by decide) ?_
      refine a_lconst (v := 1) dX7_willHear_26 (by decide) ?_
      obtain ⟨x3, ex3, hF⟩ := bd_e hF
      refine a_iS3 dX7_willHear_27 cs_X7_84 (ct_X7_in hg (Int32.toInt64 p3) 0 1 μ ex3.symm) (by decide) (Nat.le_of_ble_eq_true rfl) ?_
      refine a_if_ne (tgt := 36) dX7_willHear_30 (by decide) (fun h30 => ?_) (fun h30 => ?_)
      · rw [if_neg h30] at hF
        refine a_aload_0 dX7_willHear_36 ?_
        obtain ⟨x4, ex4, hF⟩ := ob_e hF
        refine a_vV0 dX7_willHear_37 cv_X7_284 (ct_X7_keepBefore hg μ ex4) (by decide) (hg.d (by decide)) rfl (Nat.le_of_ble_eq_true rfl) ?_
        refine a_aload_0 dX7_willHear_40 ?_
        refine a_getR (q := 149) dX7_willHear_41 fa_X7_22 (hg.d (by decide)) rfl rfl ?_
        refine a_bipush (v := 23) dX7_willHear_44 (by decide) ?_
        refine a_iload_1 dX7_willHear_46 ?_
        refine a_iadd dX7_willHear_47 ?_
        refine a_iconst (v := 0) dX7_willHear_48 (by decide) ?_
        obtain ⟨hx49, hF⟩ := gd_e hF
        obtain ⟨μ5, eμ5, hF⟩ := bd_e hF
        refine a_sI eμ5 dX7_willHear_49 (hg.d (by decide)) rfl hx49 rfl ?_
        refine a_iconst (v := 0) dX7_willHear_50 (by decide) ?_
        refine a_istore_4 dX7_willHear_51 (by decide) rfl ?_
        obtain ⟨z7, ez7, hF⟩ := ob_e hF
        refine ct_X7_willHear_L53 hg p1 p2 p3  FU 0 μ5 z7 ez7 ?_
        refine a_iload_3 dX7_willHear_69 ?_
        obtain ⟨j8, ej70, hF⟩ := ob_e hF
        have KJ70 : WA g 5 mi_X7_willHear 94 [some (.ref 144), some (.int p1), some (.int p2), some (.int p3), some (.int z7.1)] [.int j8] z7.2 (QI r.1 r.2) := by
          refine a_istore_4 dX7_willHear_94 (by decide) rfl ?_
          refine a_aload_0 dX7_willHear_96 ?_
          obtain ⟨x9, ex9, hF⟩ := ob_e hF
          refine a_vV0 dX7_willHear_97 cv_X7_287 (ct_X7_putBack hg z7.2 ex9) (by decide) (hg.d (by decide)) rfl (Nat.le_of_ble_eq_true rfl) ?_
          refine a_iload_4 dX7_willHear_100 ?_
          obtain rfl := Option.some.inj hF
          exact a_iret dX7_willHear_102 rfl ⟨rfl, rfl⟩
        refine a_if_ne (tgt := 85) dX7_willHear_70 (by decide) (fun h70 => ?_) (fun h70 => ?_)
        · rw [if_neg h70] at ej70
          refine a_aload_0 dX7_willHear_85 ?_
          refine a_getR (q := 149) dX7_willHear_86 fa_X7_22 (hg.d (by decide)) rfl rfl ?_
          refine a_bipush (v := 14) dX7_willHear_89 (by decide) ?_
          refine a_iload_1 dX7_willHear_91 ?_
          refine a_iadd dX7_willHear_92 ?_
          obtain ⟨hx93, ej70⟩ := gd_e ej70
          refine a_ldC dX7_willHear_93 (hg.d (by decide)) rfl hx93 rfl ?_
          obtain rfl := Option.some.inj ej70
          exact KJ70
        · rw [if_pos h70] at ej70
          refine a_aload_0 dX7_willHear_73 ?_
          refine a_getR (q := 149) dX7_willHear_74 fa_X7_22 (hg.d (by decide)) rfl rfl ?_
          refine a_bipush (v := 23) dX7_willHear_77 (by decide) ?_
          refine a_iload_1 dX7_willHear_79 ?_
          refine a_iadd dX7_willHear_80 ?_
          obtain ⟨hx81, ej70⟩ := gd_e ej70
          refine a_ldC dX7_willHear_81 (hg.d (by decide)) rfl hx81 rfl ?_
          refine a_goto (tgt := 94) dX7_willHear_82 (by decide) ?_
          obtain rfl := Option.some.inj ej70
          exact KJ70
      · rw [if_pos h30] at hF
        refine a_ldc dX7_willHear_33 k_X7_93 ?_
        obtain rfl := Option.some.inj hF
        exact a_iret dX7_willHear_35 rfl ⟨rfl, rfl⟩
  · rw [if_pos h5] at hF
    refine a_ldc dX7_willHear_8 k_X7_236 ?_
    obtain rfl := Option.some.inj hF
    exact a_iret dX7_willHear_10 rfl ⟨rfl, rfl⟩
set_option maxHeartbeats 4000000 in
set_option maxRecDepth 100000 in
theorem ct_X7_where_L78 {g : GT} (hg : GR g) (l1 : Int32) (l2 : Int32) (l3 : Int32)  {Q : Option Value → MM → Prop} : ∀ (n : Nat) (l4 : Int32) (μ : MM) (z : Int32 × MM), f_X7_where_L78 l1 l2 l3 n l4 μ = some z → (WA g 5 mi_X7_where 94 [some (.ref 144), some (.int l1), some (.int l2), some (.int l3), some (.int z.1)] [] z.2 Q) → WA g 5 mi_X7_where 78 [some (.ref 144), some (.int l1), some (.int l2), some (.int l3), some (.int l4)] [] μ Q := by
  intro n
  induction n with
  | zero => intro l4 μ z hF; exact absurd hF (by simp [f_X7_where_L78])
  | succ n ih =>
    intro l4 μ z hF K
    unfold f_X7_where_L78 at hF
    refine a_iload_4 dX7_where_78 ?_
    refine a_iload_2 dX7_where_80 ?_
    refine a_icmp_ge (tgt := 94) dX7_where_81 (by decide) (fun h81 => ?_) (fun h81 => ?_)
    · rw [if_pos h81] at hF
      obtain rfl := Option.some.inj hF
      exact K
    · rw [if_neg h81] at hF
      refine a_aload_0 dX7_where_84 ?_
      obtain ⟨x7, ex7, hF⟩ := ob_e hF
      refine a_vV0 dX7_where_85 cv_X7_248 (ct_X7_pass hg μ ex7) (by decide) (hg.d (by decide)) rfl (Nat.le_of_ble_eq_true rfl) ?_
      refine a_iinc_4 (c0 := 1) dX7_where_88 (by decide) (by decide) rfl ?_
      refine a_goto (tgt := 78) dX7_where_91 (by decide) ?_
      exact ih (l4 + 1) x7 _ hF K
set_option maxHeartbeats 4000000 in
set_option maxRecDepth 100000 in
theorem ct_X7_where {g : GT} (hg : GR g) (p1 : Int32) (p2 : Int32) (p3 : Int32) (μ : MM)  {r : Int32 × MM} (hF : f_X7_where p1 p2 p3 μ = some r) : Ct g 5 mi_X7_where [.ref 144, .int p1, .int p2, .int p3] μ (QI r.1 r.2) := by
  refine ct_of (k := 1) (by decide +kernel) rfl hg.1 rfl ?_
  show WA g 5 mi_X7_where 0 [some (.ref 144), some (.int p1), some (.int p2), some (.int p3), none] [] μ (QI r.1 r.2)
  unfold f_X7_where at hF
  refine a_iload_1 dX7_where_0 ?_
  refine a_i2l dX7_where_1 ?_
  refine a_lconst (v := 0) dX7_where_2 (by decide) ?_
  refine a_aload_0 dX7_where_3 ?_
  refine a_getR (q := 149) dX7_where_4 fa_X7_22 (hg.d (by decide)) rfl rfl ?_
  refine a_bipush (v := 32) dX7_where_7 (by decide) ?_
  refine a_ldC (j := 32) dX7_where_9 (hg.d (by decide)) rfl (vi (by decide)) (by decide) ?_
  refine a_iconst (v := 1) dX7_where_10 (by decide) ?_
  refine a_isub dX7_where_11 ?_
  refine a_i2l dX7_where_12 ?_
  obtain ⟨x1, ex1, hF⟩ := bd_e hF
  refine a_iS3 dX7_where_13 cs_X7_84 (ct_X7_in hg (Int32.toInt64 p1) 0 (Int32.toInt64 ((μ 149 32) - 1)) μ ex1.symm) (by decide) (Nat.le_of_ble_eq_true rfl) ?_
  refine a_if_ne (tgt := 22) dX7_where_16 (by decide) (fun h16 => ?_) (fun h16 => ?_)
  · rw [if_neg h16] at hF
    refine a_iload_2 dX7_where_22 ?_
    refine a_i2l dX7_where_23 ?_
    refine a_lconst (v := 0) dX7_where_24 (by decide) ?_
    refine a_ldc2 dX7_where_25 k_X7_282 ?_
    obtain ⟨x2, ex2, hF⟩ := bd_e hF
    refine a_iS3 dX7_where_28 cs_X7_84 (ct_X7_in hg (Int32.toInt64 p2) 0 100 μ ex2.symm) (by decide) (Nat.le_of_ble_eq_true rfl) ?_
    refine a_if_eq (tgt := 44) dX7_where_31 (by decide) (fun h31 => ?_) (fun h31 => ?_)
    · rw [if_pos h31] at hF
      refine a_ldc dX7_where_44 k_X7_93 ?_
      obtain rfl := Option.some.inj hF
      exact a_iret dX7_where_46 rfl ⟨rfl, rfl⟩
    · rw [if_neg h31] at hF
      refine a_iload_3 dX7_where_34 ?_
      refine a_i2l dX7_where_35 ?_
      refine a_lconst (v := 0) dX7_where_36 (by decide) ?_
      refine a_lconst (v := 1) dX7_where_37 (by decide) ?_
      obtain ⟨x3, ex3, hF⟩ := bd_e hF
      refine a_iS3 dX7_where_38 cs_X7_84 (ct_X7_in hg (Int32.toInt64 p3) 0 1 μ ex3.symm) (by decide) (Nat.le_of_ble_eq_true rfl) ?_
      refine a_if_ne (tgt := 47) dX7_where_41 (by decide) (fun h41 => ?_) (fun h41 => ?_)
      · rw [if_neg h41] at hF
        refine a_aload_0 dX7_where_47 ?_
        obtain ⟨x4, ex4, hF⟩ := ob_e hF
        refine a_vV0 dX7_where_48 cv_X7_284 (ct_X7_keepBefore hg μ ex4) (by decide) (hg.d (by decide)) rfl (Nat.le_of_ble_eq_true rfl) ?_
        refine a_aload_0 dX7_where_51 ?_
        refine a_getR (q := 149) dX7_where_52 fa_X7_22 (hg.d (by decide)) rfl rfl ?_
        refine a_bipush (v := 33) dX7_where_55 (by decide) ?_
        refine a_aload_0 dX7_where_57 ?_
        refine a_getR (q := 149) dX7_where_58 fa_X7_22 (hg.d (by decide)) rfl rfl ?_
        refine a_bipush (v := 33) dX7_where_61 (by decide) ?_
        refine a_iload_1 dX7_where_63 ?_
        refine a_iadd dX7_where_64 ?_
        obtain ⟨hx65, hF⟩ := gd_e hF
        refine a_ldC dX7_where_65 (hg.d (by decide)) rfl hx65 rfl ?_
        obtain ⟨μ5, eμ5, hF⟩ := bd_e hF
        refine a_sI eμ5 dX7_where_66 (hg.d (by decide)) rfl (vi (by decide)) (by decide) ?_
        refine a_aload_0 dX7_where_67 ?_
        refine a_getR (q := 149) dX7_where_68 fa_X7_22 (hg.d (by decide)) rfl rfl ?_
        refine a_bipush (v := 32) dX7_where_71 (by decide) ?_
        refine a_iconst (v := 1) dX7_where_73 (by decide) ?_
        obtain ⟨μ6, eμ6, hF⟩ := bd_e hF
        refine a_sI eμ6 dX7_where_74 (hg.d (by decide)) rfl (vi (by decide)) (by decide) ?_
        refine a_iconst (v := 0) dX7_where_75 (by decide) ?_
        refine a_istore_4 dX7_where_76 (by decide) rfl ?_
        obtain ⟨z8, ez8, hF⟩ := ob_e hF
        refine ct_X7_where_L78 hg p1 p2 p3  FU 0 μ6 z8 ez8 ?_
        refine a_aload_0 dX7_where_94 ?_
        refine a_getR (q := 149) dX7_where_95 fa_X7_22 (hg.d (by decide)) rfl rfl ?_
        refine a_bipush (v := 32) dX7_where_98 (by decide) ?_
        refine a_ldC (j := 32) dX7_where_100 (hg.d (by decide)) rfl (vi (by decide)) (by decide) ?_
        obtain ⟨j9, ej101, hF⟩ := ob_e hF
        have KJ101 : WA g 5 mi_X7_where 125 [some (.ref 144), some (.int p1), some (.int p2), some (.int p3), some (.int z8.1)] [.int j9] z8.2 (QI r.1 r.2) := by
          refine a_istore_4 dX7_where_125 (by decide) rfl ?_
          refine a_aload_0 dX7_where_127 ?_
          obtain ⟨x12, ex12, hF⟩ := ob_e hF
          refine a_vV0 dX7_where_128 cv_X7_287 (ct_X7_putBack hg z8.2 ex12) (by decide) (hg.d (by decide)) rfl (Nat.le_of_ble_eq_true rfl) ?_
          refine a_iload_4 dX7_where_131 ?_
          obtain rfl := Option.some.inj hF
          exact a_iret dX7_where_133 rfl ⟨rfl, rfl⟩
        refine a_if_ne (tgt := 108) dX7_where_101 (by decide) (fun h101 => ?_) (fun h101 => ?_)
        · rw [if_neg h101] at ej101
          refine a_iload_3 dX7_where_108 ?_
          refine a_if_ne (tgt := 120) dX7_where_109 (by decide) (fun h109 => ?_) (fun h109 => ?_)
          · rw [if_neg h109] at ej101
            refine a_aload_0 dX7_where_120 ?_
            refine a_iconst (v := 0) dX7_where_121 (by decide) ?_
            obtain ⟨x10, ex10, ej101⟩ := ob_e ej101
            refine a_iV1 dX7_where_122 cv_X7_175 (ct_X7_wordOf hg 0 z8.2 ex10) (by decide) (hg.d (by decide)) rfl (Nat.le_of_ble_eq_true rfl) ?_
            obtain rfl := Option.some.inj ej101
            exact KJ101
          · rw [if_pos h109] at ej101
            refine a_aload_0 dX7_where_112 ?_
            refine a_iconst (v := 0) dX7_where_113 (by decide) ?_
            obtain ⟨x11, ex11, ej101⟩ := ob_e ej101
            refine a_iV1 dX7_where_114 cv_X7_172 (ct_X7_goesFrom hg 0 z8.2 ex11) (by decide) (hg.d (by decide)) rfl (Nat.le_of_ble_eq_true rfl) ?_
            refine a_goto (tgt := 125) dX7_where_117 (by decide) ?_
            obtain rfl := Option.some.inj ej101
            exact KJ101
        · rw [if_pos h101] at ej101
          refine a_iconst (v := (-1)) dX7_where_104 (by decide) ?_
          refine a_goto (tgt := 125) dX7_where_105 (by decide) ?_
          obtain rfl := Option.some.inj ej101
          exact KJ101
      · rw [if_pos h41] at hF
        refine a_ldc dX7_where_44 k_X7_93 ?_
        obtain rfl := Option.some.inj hF
        exact a_iret dX7_where_46 rfl ⟨rfl, rfl⟩
  · rw [if_pos h16] at hF
    refine a_ldc dX7_where_19 k_X7_236 ?_
    obtain rfl := Option.some.inj hF
    exact a_iret dX7_where_21 rfl ⟨rfl, rfl⟩
set_option maxHeartbeats 4000000 in
set_option maxRecDepth 100000 in
theorem ct_X7_dry_L34 {g : GT} (hg : GR g) (l1 : Int32) (l2 : Int32) (μ : MM)  {Q : Option Value → MM → Prop} : ∀ (n : Nat) (l3 : Int64) (l5 : Int32) (z : Int64 × Int32), f_X7_dry_L34 l1 l2 μ n l3 l5 = some z → (WA g 1 mi_X7_dry 55 [some (.ref 144), some (.int l1), some (.int l2), some (.long z.1), none, some (.int z.2)] [] μ Q) → WA g 1 mi_X7_dry 34 [some (.ref 144), some (.int l1), some (.int l2), some (.long l3), none, some (.int l5)] [] μ Q := by
  intro n
  induction n with
  | zero => intro l3 l5 z hF; exact absurd hF (by simp [f_X7_dry_L34])
  | succ n ih =>
    intro l3 l5 z hF K
    unfold f_X7_dry_L34 at hF
    refine a_iload_5 dX7_dry_34 ?_
    refine a_iload_1 dX7_dry_36 ?_
    refine a_icmp_ge (tgt := 55) dX7_dry_37 (by decide) (fun h37 => ?_) (fun h37 => ?_)
    · rw [if_pos h37] at hF
      obtain rfl := Option.some.inj hF
      exact K
    · rw [if_neg h37] at hF
      refine a_lload_3 dX7_dry_40 ?_
      refine a_iload_2 dX7_dry_41 ?_
      refine a_i2l dX7_dry_42 ?_
      refine a_lmul dX7_dry_43 ?_
      refine a_ldc2 dX7_dry_44 k_X7_282 ?_
      refine a_ldiv dX7_dry_47 (by decide) ?_
      obtain ⟨v3, ev3, hF⟩ := bd_e hF
      refine a_nmL ev3 ?_
      refine a_lstore_3 dX7_dry_48 (by decide) rfl ?_
      refine a_iinc_5 (c0 := 1) dX7_dry_49 (by decide) (by decide) rfl ?_
      refine a_goto (tgt := 34) dX7_dry_52 (by decide) ?_
      exact ih v3 (l5 + 1) _ hF K
set_option maxHeartbeats 4000000 in
set_option maxRecDepth 100000 in
theorem ct_X7_dry {g : GT} (hg : GR g) (p1 : Int32) (p2 : Int32) (μ : MM)  {r : Int32} (hF : f_X7_dry p1 p2 μ = some r) : Ct g 1 mi_X7_dry [.ref 144, .int p1, .int p2] μ (QI r μ) := by
  refine ct_of (k := 3) (by decide +kernel) rfl hg.1 rfl ?_
  show WA g 1 mi_X7_dry 0 [some (.ref 144), some (.int p1), some (.int p2), none, none, none] [] μ (QI r μ)
  unfold f_X7_dry at hF
  refine a_iload_1 dX7_dry_0 ?_
  refine a_i2l dX7_dry_1 ?_
  refine a_lconst (v := 0) dX7_dry_2 (by decide) ?_
  refine a_ldc2 dX7_dry_3 k_X7_239 ?_
  obtain ⟨x1, ex1, hF⟩ := bd_e hF
  refine a_iS3 dX7_dry_6 cs_X7_84 (ct_X7_in hg (Int32.toInt64 p1) 0 60 μ ex1.symm) (by decide) (Nat.le_of_ble_eq_true rfl) ?_
  refine a_if_eq (tgt := 24) dX7_dry_9 (by decide) (fun h9 => ?_) (fun h9 => ?_)
  · rw [if_pos h9] at hF
    refine a_ldc dX7_dry_24 k_X7_93 ?_
    obtain rfl := Option.some.inj hF
    exact a_iret dX7_dry_26 rfl ⟨rfl, rfl⟩
  · rw [if_neg h9] at hF
    refine a_iload_2 dX7_dry_12 ?_
    refine a_i2l dX7_dry_13 ?_
    refine a_lconst (v := 0) dX7_dry_14 (by decide) ?_
    refine a_ldc2 dX7_dry_15 k_X7_282 ?_
    obtain ⟨x2, ex2, hF⟩ := bd_e hF
    refine a_iS3 dX7_dry_18 cs_X7_84 (ct_X7_in hg (Int32.toInt64 p2) 0 100 μ ex2.symm) (by decide) (Nat.le_of_ble_eq_true rfl) ?_
    refine a_if_ne (tgt := 27) dX7_dry_21 (by decide) (fun h21 => ?_) (fun h21 => ?_)
    · rw [if_neg h21] at hF
      refine a_ldc2 dX7_dry_27 k_X7_290 ?_
      refine a_lstore_3 dX7_dry_30 (by decide) rfl ?_
      refine a_iconst (v := 0) dX7_dry_31 (by decide) ?_
      refine a_istore_5 dX7_dry_32 (by decide) rfl ?_
      obtain ⟨z4, ez4, hF⟩ := ob_e hF
      refine ct_X7_dry_L34 hg p1 p2 μ  FU 1000000000 0 z4 ez4 ?_
      refine a_lload_3 dX7_dry_55 ?_
      refine a_l2i dX7_dry_56 ?_
      obtain rfl := Option.some.inj hF
      exact a_iret dX7_dry_57 rfl ⟨rfl, rfl⟩
    · rw [if_pos h21] at hF
      refine a_ldc dX7_dry_24 k_X7_93 ?_
      obtain rfl := Option.some.inj hF
      exact a_iret dX7_dry_26 rfl ⟨rfl, rfl⟩
set_option maxHeartbeats 4000000 in
set_option maxRecDepth 100000 in
theorem ct_X7_see {g : GT} (hg : GR g) (p1 : Int32) (p2 : Int32) (μ : MM)  {r : Int32 × MM} (hF : f_X7_see p1 p2 μ = some r) : Ct g 2 mi_X7_see [.ref 144, .int p1, .int p2] μ (QI r.1 r.2) := by
  refine ct_of (k := 0) (by decide +kernel) rfl hg.1 rfl ?_
  show WA g 2 mi_X7_see 0 [some (.ref 144), some (.int p1), some (.int p2)] [] μ (QI r.1 r.2)
  unfold f_X7_see at hF
  refine a_aload_0 dX7_see_0 ?_
  refine a_iload_1 dX7_see_1 ?_
  obtain ⟨x1, ex1, hF⟩ := bd_e hF
  refine a_iV1 dX7_see_2 cv_X7_251 (ct_X7_isWord hg p1 μ ex1.symm) (by decide) (hg.d (by decide)) rfl (Nat.le_of_ble_eq_true rfl) ?_
  refine a_if_eq (tgt := 16) dX7_see_5 (by decide) (fun h5 => ?_) (fun h5 => ?_)
  · rw [if_pos h5] at hF
    refine a_ldc dX7_see_16 k_X7_236 ?_
    obtain rfl := Option.some.inj hF
    exact a_iret dX7_see_18 rfl ⟨rfl, rfl⟩
  · rw [if_neg h5] at hF
    refine a_aload_0 dX7_see_8 ?_
    refine a_iload_2 dX7_see_9 ?_
    obtain ⟨x2, ex2, hF⟩ := bd_e hF
    refine a_iV1 dX7_see_10 cv_X7_251 (ct_X7_isWord hg p2 μ ex2.symm) (by decide) (hg.d (by decide)) rfl (Nat.le_of_ble_eq_true rfl) ?_
    refine a_if_ne (tgt := 19) dX7_see_13 (by decide) (fun h13 => ?_) (fun h13 => ?_)
    · rw [if_neg h13] at hF
      refine a_aload_0 dX7_see_19 ?_
      refine a_getI dX7_see_20 fa_X7_150 (hg.d (by decide)) rfl rfl ?_
      refine a_bipush (v := 6) dX7_see_23 (by decide) ?_
      refine a_icmp_ne (tgt := 31) dX7_see_25 (by decide) (fun h25 => ?_) (fun h25 => ?_)
      · rw [if_neg h25] at hF
        refine a_aload_0 dX7_see_31 ?_
        refine a_getR (q := 159) dX7_see_32 fa_X7_57 (hg.d (by decide)) rfl rfl ?_
        refine a_aload_0 dX7_see_35 ?_
        refine a_getI dX7_see_36 fa_X7_150 (hg.d (by decide)) rfl rfl ?_
        refine a_iload_1 dX7_see_39 ?_
        obtain ⟨hx40, hF⟩ := gd_e hF
        obtain ⟨μ3, eμ3, hF⟩ := bd_e hF
        refine a_sI eμ3 dX7_see_40 (hg.d (by decide)) rfl hx40 rfl ?_
        refine a_aload_0 dX7_see_41 ?_
        refine a_getR (q := 160) dX7_see_42 fa_X7_60 (hg.d (by decide)) rfl rfl ?_
        refine a_aload_0 dX7_see_45 ?_
        refine a_getI dX7_see_46 fa_X7_150 (hg.d (by decide)) rfl rfl ?_
        refine a_iload_2 dX7_see_49 ?_
        obtain ⟨hx50, hF⟩ := gd_e hF
        obtain ⟨μ4, eμ4, hF⟩ := bd_e hF
        refine a_sI eμ4 dX7_see_50 (hg.d (by decide)) rfl hx50 rfl ?_
        refine a_aload_0 dX7_see_51 ?_
        refine a_dup dX7_see_52 rfl ?_
        refine a_getI dX7_see_53 fa_X7_150 (hg.d (by decide)) rfl rfl ?_
        refine a_iconst (v := 1) dX7_see_56 (by decide) ?_
        refine a_iadd dX7_see_57 ?_
        obtain ⟨μ5, eμ5, hF⟩ := bd_e hF
        refine a_pI eμ5 dX7_see_58 fp_X7_150 (hg.d (by decide)) rfl rfl ?_
        refine a_aload_0 dX7_see_61 ?_
        refine a_getI dX7_see_62 fa_X7_150 (hg.d (by decide)) rfl rfl ?_
        obtain rfl := Option.some.inj hF
        exact a_iret dX7_see_65 rfl ⟨rfl, rfl⟩
      · rw [if_pos h25] at hF
        refine a_ldc dX7_see_28 k_X7_97 ?_
        obtain rfl := Option.some.inj hF
        exact a_iret dX7_see_30 rfl ⟨rfl, rfl⟩
    · rw [if_pos h13] at hF
      refine a_ldc dX7_see_16 k_X7_236 ?_
      obtain rfl := Option.some.inj hF
      exact a_iret dX7_see_18 rfl ⟨rfl, rfl⟩
set_option maxHeartbeats 4000000 in
set_option maxRecDepth 100000 in
theorem ct_X7_couldFall_L66 {g : GT} (hg : GR g) (l1 : Int32) (l2 : Int32) (l3 : Int32) (μ : MM)  {Q : Option Value → MM → Prop} : ∀ (n : Nat) (l4 : Int32) (l5 : Int32) (z : Int32 × Int32), f_X7_couldFall_L66 l1 l2 l3 μ n l4 l5 = some z → (WA g 2 mi_X7_couldFall 116 [some (.ref 144), some (.int l1), some (.int l2), some (.int l3), some (.int z.1), some (.int z.2)] [] μ Q) → WA g 2 mi_X7_couldFall 66 [some (.ref 144), some (.int l1), some (.int l2), some (.int l3), some (.int l4), some (.int l5)] [] μ Q := by
  intro n
  induction n with
  | zero => intro l4 l5 z hF; exact absurd hF (by simp [f_X7_couldFall_L66])
  | succ n ih =>
    intro l4 l5 z hF K
    unfold f_X7_couldFall_L66 at hF
    refine a_iload_5 dX7_couldFall_66 ?_
    refine a_aload_0 dX7_couldFall_68 ?_
    refine a_getI dX7_couldFall_69 fa_X7_150 (hg.d (by decide)) rfl rfl ?_
    refine a_icmp_ge (tgt := 116) dX7_couldFall_72 (by decide) (fun h72 => ?_) (fun h72 => ?_)
    · rw [if_pos h72] at hF
      obtain rfl := Option.some.inj hF
      exact K
    · rw [if_neg h72] at hF
      refine a_iload_4 dX7_couldFall_75 ?_
      refine a_if_eq (tgt := 116) dX7_couldFall_77 (by decide) (fun h77 => ?_) (fun h77 => ?_)
      · rw [if_pos h77] at hF
        obtain rfl := Option.some.inj hF
        exact K
      · rw [if_neg h77] at hF
        refine a_aload_0 dX7_couldFall_80 ?_
        refine a_iload_2 dX7_couldFall_81 ?_
        refine a_iload_3 dX7_couldFall_82 ?_
        refine a_aload_0 dX7_couldFall_83 ?_
        refine a_getR (q := 159) dX7_couldFall_84 fa_X7_57 (hg.d (by decide)) rfl rfl ?_
        refine a_iload_5 dX7_couldFall_87 ?_
        obtain ⟨hx89, hF⟩ := gd_e hF
        refine a_ldC dX7_couldFall_89 (hg.d (by decide)) rfl hx89 rfl ?_
        obtain ⟨x5, ex5, hF⟩ := ob_e hF
        refine a_iV3 dX7_couldFall_90 cv_X7_159 (ct_X7_garbleBy hg l2 l3 (μ 159 (Int32.toNatClampNeg l5)) μ ex5) (by decide) (hg.d (by decide)) rfl (Nat.le_of_ble_eq_true rfl) ?_
        refine a_aload_0 dX7_couldFall_93 ?_
        refine a_getR (q := 160) dX7_couldFall_94 fa_X7_60 (hg.d (by decide)) rfl rfl ?_
        refine a_iload_5 dX7_couldFall_97 ?_
        obtain ⟨hx99, hF⟩ := gd_e hF
        refine a_ldC dX7_couldFall_99 (hg.d (by decide)) rfl hx99 rfl ?_
        refine a_icmp_ne (tgt := 107) dX7_couldFall_100 (by decide) (fun h100 => ?_) (fun h100 => ?_)
        · rw [if_neg h100] at hF
          refine a_iconst (v := 0) dX7_couldFall_107 (by decide) ?_
          refine a_istore_4 dX7_couldFall_108 (by decide) rfl ?_
          refine a_iinc_5 (c0 := 1) dX7_couldFall_110 (by decide) (by decide) rfl ?_
          refine a_goto (tgt := 66) dX7_couldFall_113 (by decide) ?_
          exact ih 0 (l5 + 1) _ hF K
        · rw [if_pos h100] at hF
          refine a_iconst (v := 1) dX7_couldFall_103 (by decide) ?_
          refine a_goto (tgt := 108) dX7_couldFall_104 (by decide) ?_
          refine a_istore_4 dX7_couldFall_108 (by decide) rfl ?_
          refine a_iinc_5 (c0 := 1) dX7_couldFall_110 (by decide) (by decide) rfl ?_
          refine a_goto (tgt := 66) dX7_couldFall_113 (by decide) ?_
          exact ih 1 (l5 + 1) _ hF K
set_option maxHeartbeats 4000000 in
set_option maxRecDepth 100000 in
theorem ct_X7_couldFall {g : GT} (hg : GR g) (p1 : Int32) (μ : MM)  {r : Int32} (hF : f_X7_couldFall p1 μ = some r) : Ct g 2 mi_X7_couldFall [.ref 144, .int p1] μ (QI r μ) := by
  refine ct_of (k := 4) (by decide +kernel) rfl hg.1 rfl ?_
  show WA g 2 mi_X7_couldFall 0 [some (.ref 144), some (.int p1), none, none, none, none] [] μ (QI r μ)
  unfold f_X7_couldFall at hF
  refine a_iload_1 dX7_couldFall_0 ?_
  refine a_bipush (v := 10) dX7_couldFall_1 (by decide) ?_
  refine a_idiv dX7_couldFall_3 (by decide) ?_
  obtain ⟨v1, ev1, hF⟩ := bd_e hF
  refine a_nm ev1 ?_
  refine a_istore_2 dX7_couldFall_4 (by decide) rfl ?_
  refine a_iload_1 dX7_couldFall_5 ?_
  refine a_bipush (v := 10) dX7_couldFall_6 (by decide) ?_
  refine a_rem dX7_couldFall_8 (by decide) ?_
  obtain ⟨v2, ev2, hF⟩ := bd_e hF
  refine a_nm ev2 ?_
  refine a_istore_3 dX7_couldFall_9 (by decide) rfl ?_
  refine a_aload_0 dX7_couldFall_10 ?_
  refine a_iload_3 dX7_couldFall_11 ?_
  obtain ⟨x3, ex3, hF⟩ := bd_e hF
  refine a_iV1 dX7_couldFall_12 cv_X7_251 (ct_X7_isWord hg v2 μ ex3.symm) (by decide) (hg.d (by decide)) rfl (Nat.le_of_ble_eq_true rfl) ?_
  obtain ⟨j4, ej15, hF⟩ := bd_e hF
  replace ej15 := ej15.symm
  have KJ15 : WA g 2 mi_X7_couldFall 61 [some (.ref 144), some (.int p1), some (.int v1), some (.int v2), none, none] [.int j4] μ (QI r μ) := by
    refine a_istore_4 dX7_couldFall_61 (by decide) rfl ?_
    refine a_iconst (v := 0) dX7_couldFall_63 (by decide) ?_
    refine a_istore_5 dX7_couldFall_64 (by decide) rfl ?_
    obtain ⟨z6, ez6, hF⟩ := ob_e hF
    refine ct_X7_couldFall_L66 hg p1 v1 v2 μ  FU j4 0 z6 ez6 ?_
    refine a_iload_4 dX7_couldFall_116 ?_
    obtain ⟨hv, hF⟩ := gd_e hF
    obtain rfl := Option.some.inj hF
    exact a_zret dX7_couldFall_118 rfl hv ⟨rfl, rfl⟩
  refine a_if_eq (tgt := 60) dX7_couldFall_15 (by decide) (fun h15 => ?_) (fun h15 => ?_)
  · rw [if_pos h15] at ej15
    refine a_iconst (v := 0) dX7_couldFall_60 (by decide) ?_
    subst ej15
    exact KJ15
  · rw [if_neg h15] at ej15
    refine a_iload_2 dX7_couldFall_18 ?_
    refine a_if_eq (tgt := 27) dX7_couldFall_19 (by decide) (fun h19 => ?_) (fun h19 => ?_)
    · rw [if_pos h19] at ej15
      refine a_iload_3 dX7_couldFall_27 ?_
      refine a_if_ne (tgt := 60) dX7_couldFall_28 (by decide) (fun h28 => ?_) (fun h28 => ?_)
      · rw [if_neg h28] at ej15
        refine a_iconst (v := 0) dX7_couldFall_60 (by decide) ?_
        subst ej15
        exact KJ15
      · rw [if_pos h28] at ej15
        refine a_goto (tgt := 56) dX7_couldFall_31 (by decide) ?_
        refine a_iconst (v := 1) dX7_couldFall_56 (by decide) ?_
        refine a_goto (tgt := 61) dX7_couldFall_57 (by decide) ?_
        subst ej15
        exact KJ15
    · rw [if_neg h19] at ej15
      refine a_iload_2 dX7_couldFall_22 ?_
      refine a_iconst (v := 3) dX7_couldFall_23 (by decide) ?_
      refine a_icmp_ne (tgt := 34) dX7_couldFall_24 (by decide) (fun h24 => ?_) (fun h24 => ?_)
      · rw [if_neg h24] at ej15
        refine a_iload_2 dX7_couldFall_34 ?_
        refine a_iconst (v := 2) dX7_couldFall_35 (by decide) ?_
        refine a_icmp_ne (tgt := 52) dX7_couldFall_36 (by decide) (fun h36 => ?_) (fun h36 => ?_)
        · rw [if_neg h36] at ej15
          refine a_iload_3 dX7_couldFall_52 ?_
          refine a_if_le (tgt := 60) dX7_couldFall_53 (by decide) (fun h53 => ?_) (fun h53 => ?_)
          · rw [if_pos h53] at ej15
            refine a_iconst (v := 0) dX7_couldFall_60 (by decide) ?_
            subst ej15
            exact KJ15
          · rw [if_neg h53] at ej15
            refine a_iconst (v := 1) dX7_couldFall_56 (by decide) ?_
            refine a_goto (tgt := 61) dX7_couldFall_57 (by decide) ?_
            subst ej15
            exact KJ15
        · rw [if_pos h36] at ej15
          refine a_iload_3 dX7_couldFall_39 ?_
          refine a_aload_0 dX7_couldFall_40 ?_
          refine a_getI dX7_couldFall_41 fa_X7_88 (hg.d (by decide)) rfl rfl ?_
          refine a_iconst (v := 2) dX7_couldFall_44 (by decide) ?_
          refine a_isub dX7_couldFall_45 ?_
          refine a_icmp_gt (tgt := 60) dX7_couldFall_46 (by decide) (fun h46 => ?_) (fun h46 => ?_)
          · rw [if_pos h46] at ej15
            refine a_iconst (v := 0) dX7_couldFall_60 (by decide) ?_
            subst ej15
            exact KJ15
          · rw [if_neg h46] at ej15
            refine a_goto (tgt := 56) dX7_couldFall_49 (by decide) ?_
            refine a_iconst (v := 1) dX7_couldFall_56 (by decide) ?_
            refine a_goto (tgt := 61) dX7_couldFall_57 (by decide) ?_
            subst ej15
            exact KJ15
      · rw [if_pos h24] at ej15
        refine a_iload_3 dX7_couldFall_27 ?_
        refine a_if_ne (tgt := 60) dX7_couldFall_28 (by decide) (fun h28 => ?_) (fun h28 => ?_)
        · rw [if_neg h28] at ej15
          refine a_iconst (v := 0) dX7_couldFall_60 (by decide) ?_
          subst ej15
          exact KJ15
        · rw [if_pos h28] at ej15
          refine a_goto (tgt := 56) dX7_couldFall_31 (by decide) ?_
          refine a_iconst (v := 1) dX7_couldFall_56 (by decide) ?_
          refine a_goto (tgt := 61) dX7_couldFall_57 (by decide) ?_
          subst ej15
          exact KJ15
set_option maxHeartbeats 4000000 in
set_option maxRecDepth 100000 in
theorem ct_X7_falls_L20 {g : GT} (hg : GR g) (l1 : Int32) (μ : MM)  {Q : Option Value → MM → Prop} : ∀ (n : Nat) (l2 : Int32) (l3 : Int32) (l4 : Int32) (z : Int32 × Int32 × Int32), f_X7_falls_L20 l1 μ n l2 l3 l4 = some z → (WA g 3 mi_X7_falls 56 [some (.ref 144), some (.int l1), some (.int z.1), some (.int z.2.1), some (.int z.2.2)] [] μ Q) → WA g 3 mi_X7_falls 20 [some (.ref 144), some (.int l1), some (.int l2), some (.int l3), some (.int l4)] [] μ Q := by
  intro n
  induction n with
  | zero => intro l2 l3 l4 z hF; exact absurd hF (by simp [f_X7_falls_L20])
  | succ n ih =>
    intro l2 l3 l4 z hF K
    unfold f_X7_falls_L20 at hF
    refine a_iload_4 dX7_falls_20 ?_
    refine a_bipush (v := 50) dX7_falls_22 (by decide) ?_
    refine a_icmp_ge (tgt := 56) dX7_falls_24 (by decide) (fun h24 => ?_) (fun h24 => ?_)
    · rw [if_pos h24] at hF
      obtain rfl := Option.some.inj hF
      exact K
    · rw [if_neg h24] at hF
      refine a_aload_0 dX7_falls_27 ?_
      refine a_iload_4 dX7_falls_28 ?_
      obtain ⟨x2, ex2, hF⟩ := ob_e hF
      refine a_iV1 dX7_falls_30 cv_X7_292 (ct_X7_couldFall hg l4 μ ex2) (by decide) (hg.d (by decide)) rfl (Nat.le_of_ble_eq_true rfl) ?_
      refine a_if_eq (tgt := 50) dX7_falls_33 (by decide) (fun h33 => ?_) (fun h33 => ?_)
      · rw [if_pos h33] at hF
        refine a_iinc_4 (c0 := 1) dX7_falls_50 (by decide) (by decide) rfl ?_
        refine a_goto (tgt := 20) dX7_falls_53 (by decide) ?_
        exact ih l2 l3 (l4 + 1) _ hF K
      · rw [if_neg h33] at hF
        refine a_iload_2 dX7_falls_36 ?_
        refine a_if_ne (tgt := 45) dX7_falls_37 (by decide) (fun h37 => ?_) (fun h37 => ?_)
        · rw [if_neg h37] at hF
          refine a_iload_3 dX7_falls_45 ?_
          refine a_istore_3 dX7_falls_46 (by decide) rfl ?_
          refine a_iinc_2 (c0 := 1) dX7_falls_47 (by decide) (by decide) rfl ?_
          refine a_iinc_4 (c0 := 1) dX7_falls_50 (by decide) (by decide) rfl ?_
          refine a_goto (tgt := 20) dX7_falls_53 (by decide) ?_
          exact ih (l2 + 1) l3 (l4 + 1) _ hF K
        · rw [if_pos h37] at hF
          refine a_iload_4 dX7_falls_40 ?_
          refine a_goto (tgt := 46) dX7_falls_42 (by decide) ?_
          refine a_istore_3 dX7_falls_46 (by decide) rfl ?_
          refine a_iinc_2 (c0 := 1) dX7_falls_47 (by decide) (by decide) rfl ?_
          refine a_iinc_4 (c0 := 1) dX7_falls_50 (by decide) (by decide) rfl ?_
          refine a_goto (tgt := 20) dX7_falls_53 (by decide) ?_
          exact ih (l2 + 1) l4 (l4 + 1) _ hF K
set_option maxHeartbeats 4000000 in
set_option maxRecDepth 100000 in
theorem ct_X7_falls {g : GT} (hg : GR g) (p1 : Int32) (μ : MM)  {r : Int32} (hF : f_X7_falls p1 μ = some r) : Ct g 3 mi_X7_falls [.ref 144, .int p1] μ (QI r μ) := by
  refine ct_of (k := 3) (by decide +kernel) rfl hg.1 rfl ?_
  show WA g 3 mi_X7_falls 0 [some (.ref 144), some (.int p1), none, none, none] [] μ (QI r μ)
  unfold f_X7_falls at hF
  refine a_iload_1 dX7_falls_0 ?_
  refine a_i2l dX7_falls_1 ?_
  refine a_lconst (v := 0) dX7_falls_2 (by decide) ?_
  refine a_lconst (v := 1) dX7_falls_3 (by decide) ?_
  obtain ⟨x1, ex1, hF⟩ := bd_e hF
  refine a_iS3 dX7_falls_4 cs_X7_84 (ct_X7_in hg (Int32.toInt64 p1) 0 1 μ ex1.symm) (by decide) (Nat.le_of_ble_eq_true rfl) ?_
  refine a_if_ne (tgt := 13) dX7_falls_7 (by decide) (fun h7 => ?_) (fun h7 => ?_)
  · rw [if_neg h7] at hF
    refine a_iconst (v := 0) dX7_falls_13 (by decide) ?_
    refine a_istore_2 dX7_falls_14 (by decide) rfl ?_
    refine a_iconst (v := (-1)) dX7_falls_15 (by decide) ?_
    refine a_istore_3 dX7_falls_16 (by decide) rfl ?_
    refine a_iconst (v := 0) dX7_falls_17 (by decide) ?_
    refine a_istore_4 dX7_falls_18 (by decide) rfl ?_
    obtain ⟨z3, ez3, hF⟩ := ob_e hF
    refine ct_X7_falls_L20 hg p1 μ  FU 0 (-1) 0 z3 ez3 ?_
    refine a_iload_1 dX7_falls_56 ?_
    refine a_if_ne (tgt := 64) dX7_falls_57 (by decide) (fun h57 => ?_) (fun h57 => ?_)
    · rw [if_neg h57] at hF
      refine a_iload_3 dX7_falls_64 ?_
      obtain rfl := Option.some.inj hF
      exact a_iret dX7_falls_65 rfl ⟨rfl, rfl⟩
    · rw [if_pos h57] at hF
      refine a_iload_2 dX7_falls_60 ?_
      refine a_goto (tgt := 65) dX7_falls_61 (by decide) ?_
      obtain rfl := Option.some.inj hF
      exact a_iret dX7_falls_65 rfl ⟨rfl, rfl⟩
  · rw [if_pos h7] at hF
    refine a_ldc dX7_falls_10 k_X7_93 ?_
    obtain rfl := Option.some.inj hF
    exact a_iret dX7_falls_12 rfl ⟨rfl, rfl⟩
set_option maxHeartbeats 4000000 in
set_option maxRecDepth 100000 in
theorem ct_X7_greatestPart_L4 {g : GT} (hg : GR g) (l1 : Int32)  {Q : Option Value → MM → Prop} : ∀ (n : Nat) (l3 : Int32) (μ : MM) (z : Int32 × MM), f_X7_greatestPart_L4 l1 n l3 μ = some z → (WA g 3 mi_X7_greatestPart 23 [some (.ref 144), some (.int l1), some (.int 0), some (.int z.1), none] [] z.2 Q) → WA g 3 mi_X7_greatestPart 4 [some (.ref 144), some (.int l1), some (.int 0), some (.int l3), none] [] μ Q := by
  intro n
  induction n with
  | zero => intro l3 μ z hF; exact absurd hF (by simp [f_X7_greatestPart_L4])
  | succ n ih =>
    intro l3 μ z hF K
    unfold f_X7_greatestPart_L4 at hF
    refine a_iload_3 dX7_greatestPart_4 ?_
    refine a_bipush (v := 10) dX7_greatestPart_5 (by decide) ?_
    refine a_icmp_ge (tgt := 23) dX7_greatestPart_7 (by decide) (fun h7 => ?_) (fun h7 => ?_)
    · rw [if_pos h7] at hF
      obtain rfl := Option.some.inj hF
      exact K
    · rw [if_neg h7] at hF
      refine a_aload_0 dX7_greatestPart_10 ?_
      refine a_getR (q := 161) dX7_greatestPart_11 fa_X7_63 (hg.d (by decide)) rfl rfl ?_
      refine a_iload_3 dX7_greatestPart_14 ?_
      refine a_iconst (v := 0) dX7_greatestPart_15 (by decide) ?_
      obtain ⟨hx16, hF⟩ := gd_e hF
      obtain ⟨μ1, eμ1, hF⟩ := bd_e hF
      refine a_sI eμ1 dX7_greatestPart_16 (hg.d (by decide)) rfl hx16 rfl ?_
      refine a_iinc_3 (c0 := 1) dX7_greatestPart_17 (by decide) (by decide) rfl ?_
      refine a_goto (tgt := 4) dX7_greatestPart_20 (by decide) ?_
      exact ih (l3 + 1) μ1 _ hF K
set_option maxHeartbeats 4000000 in
set_option maxRecDepth 100000 in
theorem ct_X7_greatestPart_L25 {g : GT} (hg : GR g) (l1 : Int32)  {Q : Option Value → MM → Prop} : ∀ (n : Nat) (l2 : Int32) (l3 : Int32) (μ : MM) (z : Int32 × Int32 × MM), f_X7_greatestPart_L25 l1 n l2 l3 μ = some z → (WA g 3 mi_X7_greatestPart 94 [some (.ref 144), some (.int l1), some (.int z.1), some (.int z.2.1), none] [] z.2.2 Q) → WA g 3 mi_X7_greatestPart 25 [some (.ref 144), some (.int l1), some (.int l2), some (.int l3), none] [] μ Q := by
  intro n
  induction n with
  | zero => intro l2 l3 μ z hF; exact absurd hF (by simp [f_X7_greatestPart_L25])
  | succ n ih =>
    intro l2 l3 μ z hF K
    unfold f_X7_greatestPart_L25 at hF
    refine a_iload_3 dX7_greatestPart_25 ?_
    refine a_bipush (v := 50) dX7_greatestPart_26 (by decide) ?_
    refine a_icmp_ge (tgt := 94) dX7_greatestPart_28 (by decide) (fun h28 => ?_) (fun h28 => ?_)
    · rw [if_pos h28] at hF
      obtain rfl := Option.some.inj hF
      exact K
    · rw [if_neg h28] at hF
      refine a_aload_0 dX7_greatestPart_31 ?_
      refine a_iload_3 dX7_greatestPart_32 ?_
      obtain ⟨x3, ex3, hF⟩ := ob_e hF
      refine a_iV1 dX7_greatestPart_33 cv_X7_292 (ct_X7_couldFall hg l3 μ ex3) (by decide) (hg.d (by decide)) rfl (Nat.le_of_ble_eq_true rfl) ?_
      refine a_if_eq (tgt := 88) dX7_greatestPart_36 (by decide) (fun h36 => ?_) (fun h36 => ?_)
      · rw [if_pos h36] at hF
        refine a_iinc_3 (c0 := 1) dX7_greatestPart_88 (by decide) (by decide) rfl ?_
        refine a_goto (tgt := 25) dX7_greatestPart_91 (by decide) ?_
        exact ih l2 (l3 + 1) μ _ hF K
      · rw [if_neg h36] at hF
        refine a_aload_0 dX7_greatestPart_39 ?_
        refine a_iload_3 dX7_greatestPart_40 ?_
        refine a_bipush (v := 10) dX7_greatestPart_41 (by decide) ?_
        refine a_idiv dX7_greatestPart_43 (by decide) ?_
        refine a_iload_3 dX7_greatestPart_44 ?_
        refine a_bipush (v := 10) dX7_greatestPart_45 (by decide) ?_
        refine a_rem dX7_greatestPart_47 (by decide) ?_
        refine a_iload_1 dX7_greatestPart_48 ?_
        obtain ⟨x4, ex4, hF⟩ := ob_e hF
        refine a_iV3 dX7_greatestPart_49 cv_X7_159 (ct_X7_garbleBy hg (l3 / 10) (rm l3 10) l1 μ ex4) (by decide) (hg.d (by decide)) rfl (Nat.le_of_ble_eq_true rfl) ?_
        refine a_istore_4 dX7_greatestPart_52 (by decide) rfl ?_
        refine a_aload_0 dX7_greatestPart_54 ?_
        refine a_getR (q := 161) dX7_greatestPart_55 fa_X7_63 (hg.d (by decide)) rfl rfl ?_
        refine a_iload_4 dX7_greatestPart_58 ?_
        refine a_dup2 dX7_greatestPart_60 rfl rfl ?_
        obtain ⟨hx61, hF⟩ := gd_e hF
        refine a_ldC dX7_greatestPart_61 (hg.d (by decide)) rfl hx61 rfl ?_
        refine a_iconst (v := 1) dX7_greatestPart_62 (by decide) ?_
        refine a_iadd dX7_greatestPart_63 ?_
        obtain ⟨hx64, hF⟩ := gd_e hF
        obtain ⟨μ5, eμ5, hF⟩ := bd_e hF
        refine a_sI eμ5 dX7_greatestPart_64 (hg.d (by decide)) rfl hx64 rfl ?_
        refine a_aload_0 dX7_greatestPart_65 ?_
        refine a_getR (q := 161) dX7_greatestPart_66 fa_X7_63 (hg.d (by decide)) rfl rfl ?_
        refine a_iload_4 dX7_greatestPart_69 ?_
        obtain ⟨hx71, hF⟩ := gd_e hF
        refine a_ldC dX7_greatestPart_71 (hg.d (by decide)) rfl hx71 rfl ?_
        refine a_iload_2 dX7_greatestPart_72 ?_
        refine a_icmp_le (tgt := 86) dX7_greatestPart_73 (by decide) (fun h73 => ?_) (fun h73 => ?_)
        · rw [if_pos h73] at hF
          refine a_iload_2 dX7_greatestPart_86 ?_
          refine a_istore_2 dX7_greatestPart_87 (by decide) rfl ?_
          refine a_iinc_3 (c0 := 1) dX7_greatestPart_88 (by decide) (by decide) rfl ?_
          refine a_goto (tgt := 25) dX7_greatestPart_91 (by decide) ?_
          exact a_wk2 (ih l2 (l3 + 1) μ5 _ hF K) (by simp [wk])
        · rw [if_neg h73] at hF
          refine a_aload_0 dX7_greatestPart_76 ?_
          refine a_getR (q := 161) dX7_greatestPart_77 fa_X7_63 (hg.d (by decide)) rfl rfl ?_
          refine a_iload_4 dX7_greatestPart_80 ?_
          obtain ⟨hx82, hF⟩ := gd_e hF
          refine a_ldC dX7_greatestPart_82 (hg.d (by decide)) rfl hx82 rfl ?_
          refine a_goto (tgt := 87) dX7_greatestPart_83 (by decide) ?_
          obtain ⟨v6, ev6, hF⟩ := bd_e hF
          refine a_nm ev6 ?_
          refine a_istore_2 dX7_greatestPart_87 (by decide) rfl ?_
          refine a_iinc_3 (c0 := 1) dX7_greatestPart_88 (by decide) (by decide) rfl ?_
          refine a_goto (tgt := 25) dX7_greatestPart_91 (by decide) ?_
          exact a_wk2 (ih v6 (l3 + 1) μ5 _ hF K) (by simp [wk])
set_option maxHeartbeats 4000000 in
set_option maxRecDepth 100000 in
theorem ct_X7_greatestPart {g : GT} (hg : GR g) (p1 : Int32) (μ : MM)  {r : Int32 × MM} (hF : f_X7_greatestPart p1 μ = some r) : Ct g 3 mi_X7_greatestPart [.ref 144, .int p1] μ (QI r.1 r.2) := by
  refine ct_of (k := 3) (by decide +kernel) rfl hg.1 rfl ?_
  show WA g 3 mi_X7_greatestPart 0 [some (.ref 144), some (.int p1), none, none, none] [] μ (QI r.1 r.2)
  unfold f_X7_greatestPart at hF
  refine a_iconst (v := 0) dX7_greatestPart_0 (by decide) ?_
  refine a_istore_2 dX7_greatestPart_1 (by decide) rfl ?_
  refine a_iconst (v := 0) dX7_greatestPart_2 (by decide) ?_
  refine a_istore_3 dX7_greatestPart_3 (by decide) rfl ?_
  obtain ⟨z2, ez2, hF⟩ := ob_e hF
  refine ct_X7_greatestPart_L4 hg p1  FU 0 μ z2 ez2 ?_
  refine a_iconst (v := 0) dX7_greatestPart_23 (by decide) ?_
  refine a_istore_3 dX7_greatestPart_24 (by decide) rfl ?_
  obtain ⟨z7, ez7, hF⟩ := ob_e hF
  refine ct_X7_greatestPart_L25 hg p1  FU 0 0 z2.2 z7 ez7 ?_
  refine a_iload_2 dX7_greatestPart_94 ?_
  obtain rfl := Option.some.inj hF
  exact a_iret dX7_greatestPart_95 rfl ⟨rfl, rfl⟩
set_option maxHeartbeats 4000000 in
set_option maxRecDepth 100000 in
theorem ct_X7_tryNext_L10 {g : GT} (hg : GR g)   {Q : Option Value → MM → Prop} : ∀ (n : Nat) (l1 : Int32) (l2 : Int32) (l3 : Int32) (μ : MM) (z : Int32 × Int32 × Int32 × MM), f_X7_tryNext_L10  n l1 l2 l3 μ = some z → (WA g 4 mi_X7_tryNext 56 [some (.ref 144), some (.int z.1), some (.int z.2.1), some (.int z.2.2.1), none] [] z.2.2.2 Q) → WA g 4 mi_X7_tryNext 10 [some (.ref 144), some (.int l1), some (.int l2), some (.int l3), none] [] μ Q := by
  intro n
  induction n with
  | zero => intro l1 l2 l3 μ z hF; exact absurd hF (by simp [f_X7_tryNext_L10])
  | succ n ih =>
    intro l1 l2 l3 μ z hF K
    unfold f_X7_tryNext_L10 at hF
    refine a_iload_3 dX7_tryNext_10 ?_
    refine a_aload_0 dX7_tryNext_11 ?_
    refine a_getI dX7_tryNext_12 fa_X7_88 (hg.d (by decide)) rfl rfl ?_
    refine a_icmp_ge (tgt := 56) dX7_tryNext_15 (by decide) (fun h15 => ?_) (fun h15 => ?_)
    · rw [if_pos h15] at hF
      obtain rfl := Option.some.inj hF
      exact K
    · rw [if_neg h15] at hF
      refine a_aload_0 dX7_tryNext_18 ?_
      refine a_iload_3 dX7_tryNext_19 ?_
      obtain ⟨x2, ex2, hF⟩ := ob_e hF
      refine a_iV1 dX7_tryNext_20 cv_X7_298 (ct_X7_greatestPart hg l3 μ ex2) (by decide) (hg.d (by decide)) rfl (Nat.le_of_ble_eq_true rfl) ?_
      refine a_istore_4 dX7_tryNext_23 (by decide) rfl ?_
      refine a_iload_4 dX7_tryNext_25 ?_
      refine a_iload_2 dX7_tryNext_27 ?_
      obtain ⟨j3, ej28, hF⟩ := bd_e hF
      replace ej28 := ej28.symm
      have KJ28 : WA g 4 mi_X7_tryNext 36 [some (.ref 144), some (.int l1), some (.int l2), some (.int l3), some (.int x2.1)] [.int j3] x2.2 Q := by
        refine a_istore_1 dX7_tryNext_36 (by decide) rfl ?_
        refine a_iload_4 dX7_tryNext_37 ?_
        refine a_iload_2 dX7_tryNext_39 ?_
        refine a_icmp_ge (tgt := 48) dX7_tryNext_40 (by decide) (fun h40 => ?_) (fun h40 => ?_)
        · rw [if_pos h40] at hF
          refine a_iload_2 dX7_tryNext_48 ?_
          refine a_istore_2 dX7_tryNext_49 (by decide) rfl ?_
          refine a_iinc_3 (c0 := 1) dX7_tryNext_50 (by decide) (by decide) rfl ?_
          refine a_goto (tgt := 10) dX7_tryNext_53 (by decide) ?_
          exact a_wk2 (ih j3 l2 (l3 + 1) x2.2 _ hF K) (by simp [wk])
        · rw [if_neg h40] at hF
          refine a_iload_4 dX7_tryNext_43 ?_
          refine a_goto (tgt := 49) dX7_tryNext_45 (by decide) ?_
          refine a_istore_2 dX7_tryNext_49 (by decide) rfl ?_
          refine a_iinc_3 (c0 := 1) dX7_tryNext_50 (by decide) (by decide) rfl ?_
          refine a_goto (tgt := 10) dX7_tryNext_53 (by decide) ?_
          exact a_wk2 (ih j3 x2.1 (l3 + 1) x2.2 _ hF K) (by simp [wk])
      refine a_icmp_ge (tgt := 35) dX7_tryNext_28 (by decide) (fun h28 => ?_) (fun h28 => ?_)
      · rw [if_pos h28] at ej28
        refine a_iload_1 dX7_tryNext_35 ?_
        subst ej28
        exact KJ28
      · rw [if_neg h28] at ej28
        refine a_iload_3 dX7_tryNext_31 ?_
        refine a_goto (tgt := 36) dX7_tryNext_32 (by decide) ?_
        subst ej28
        exact KJ28
set_option maxHeartbeats 4000000 in
set_option maxRecDepth 100000 in
theorem ct_X7_tryNext {g : GT} (hg : GR g)  (μ : MM)  {r : Int32 × MM} (hF : f_X7_tryNext  μ = some r) : Ct g 4 mi_X7_tryNext [.ref 144] μ (QI r.1 r.2) := by
  refine ct_of (k := 4) (by decide +kernel) rfl hg.1 rfl ?_
  show WA g 4 mi_X7_tryNext 0 [some (.ref 144), none, none, none, none] [] μ (QI r.1 r.2)
  unfold f_X7_tryNext at hF
  refine a_iconst (v := (-1)) dX7_tryNext_0 (by decide) ?_
  refine a_istore_1 dX7_tryNext_1 (by decide) rfl ?_
  refine a_aload_0 dX7_tryNext_2 ?_
  refine a_iconst (v := 0) dX7_tryNext_3 (by decide) ?_
  obtain ⟨x1, ex1, hF⟩ := ob_e hF
  refine a_iV1 dX7_tryNext_4 cv_X7_295 (ct_X7_falls hg 0 μ ex1) (by decide) (hg.d (by decide)) rfl (Nat.le_of_ble_eq_true rfl) ?_
  refine a_istore_2 dX7_tryNext_7 (by decide) rfl ?_
  refine a_iconst (v := 0) dX7_tryNext_8 (by decide) ?_
  refine a_istore_3 dX7_tryNext_9 (by decide) rfl ?_
  obtain ⟨z4, ez4, hF⟩ := ob_e hF
  refine ct_X7_tryNext_L10 hg   FU (-1) x1 0 μ z4 ez4 ?_
  refine a_iload_1 dX7_tryNext_56 ?_
  obtain rfl := Option.some.inj hF
  exact a_iret dX7_tryNext_57 rfl ⟨rfl, rfl⟩
set_option maxHeartbeats 4000000 in
set_option maxRecDepth 100000 in
theorem ct_X7_write {g : GT} (hg : GR g) (p1 : Int32) (p2 : Int32) (μ : MM)  {r : Int32 × MM} (hF : f_X7_write p1 p2 μ = some r) : Ct g 2 mi_X7_write [.ref 144, .int p1, .int p2] μ (QI r.1 r.2) := by
  refine ct_of (k := 0) (by decide +kernel) rfl hg.1 rfl ?_
  show WA g 2 mi_X7_write 0 [some (.ref 144), some (.int p1), some (.int p2)] [] μ (QI r.1 r.2)
  unfold f_X7_write at hF
  refine a_aload_0 dX7_write_0 ?_
  refine a_iload_1 dX7_write_1 ?_
  obtain ⟨x1, ex1, hF⟩ := bd_e hF
  refine a_iV1 dX7_write_2 cv_X7_233 (ct_X7_isFarm hg p1 μ ex1.symm) (by decide) (hg.d (by decide)) rfl (Nat.le_of_ble_eq_true rfl) ?_
  refine a_if_eq (tgt := 21) dX7_write_5 (by decide) (fun h5 => ?_) (fun h5 => ?_)
  · rw [if_pos h5] at hF
    refine a_ldc dX7_write_21 k_X7_236 ?_
    obtain rfl := Option.some.inj hF
    exact a_iret dX7_write_23 rfl ⟨rfl, rfl⟩
  · rw [if_neg h5] at hF
    refine a_iload_2 dX7_write_8 ?_
    refine a_iconst (v := (-1)) dX7_write_9 (by decide) ?_
    refine a_icmp_eq (tgt := 24) dX7_write_10 (by decide) (fun h10 => ?_) (fun h10 => ?_)
    · rw [if_pos h10] at hF
      refine a_aload_0 dX7_write_24 ?_
      refine a_getI dX7_write_25 fa_X7_153 (hg.d (by decide)) rfl rfl ?_
      refine a_bipush (v := 15) dX7_write_28 (by decide) ?_
      refine a_icmp_ne (tgt := 36) dX7_write_30 (by decide) (fun h30 => ?_) (fun h30 => ?_)
      · rw [if_neg h30] at hF
        refine a_aload_0 dX7_write_36 ?_
        refine a_getR (q := 162) dX7_write_37 fa_X7_66 (hg.d (by decide)) rfl rfl ?_
        refine a_aload_0 dX7_write_40 ?_
        refine a_getI dX7_write_41 fa_X7_153 (hg.d (by decide)) rfl rfl ?_
        refine a_iload_1 dX7_write_44 ?_
        obtain ⟨hx45, hF⟩ := gd_e hF
        obtain ⟨μ2, eμ2, hF⟩ := bd_e hF
        refine a_sI eμ2 dX7_write_45 (hg.d (by decide)) rfl hx45 rfl ?_
        refine a_aload_0 dX7_write_46 ?_
        refine a_getR (q := 163) dX7_write_47 fa_X7_69 (hg.d (by decide)) rfl rfl ?_
        refine a_aload_0 dX7_write_50 ?_
        refine a_getI dX7_write_51 fa_X7_153 (hg.d (by decide)) rfl rfl ?_
        refine a_iload_2 dX7_write_54 ?_
        obtain ⟨hx55, hF⟩ := gd_e hF
        obtain ⟨μ3, eμ3, hF⟩ := bd_e hF
        refine a_sI eμ3 dX7_write_55 (hg.d (by decide)) rfl hx55 rfl ?_
        refine a_aload_0 dX7_write_56 ?_
        refine a_dup dX7_write_57 rfl ?_
        refine a_getI dX7_write_58 fa_X7_153 (hg.d (by decide)) rfl rfl ?_
        refine a_iconst (v := 1) dX7_write_61 (by decide) ?_
        refine a_iadd dX7_write_62 ?_
        obtain ⟨μ4, eμ4, hF⟩ := bd_e hF
        refine a_pI eμ4 dX7_write_63 fp_X7_153 (hg.d (by decide)) rfl rfl ?_
        refine a_aload_0 dX7_write_66 ?_
        refine a_getI dX7_write_67 fa_X7_153 (hg.d (by decide)) rfl rfl ?_
        obtain rfl := Option.some.inj hF
        exact a_iret dX7_write_70 rfl ⟨rfl, rfl⟩
      · rw [if_pos h30] at hF
        refine a_ldc dX7_write_33 k_X7_97 ?_
        obtain rfl := Option.some.inj hF
        exact a_iret dX7_write_35 rfl ⟨rfl, rfl⟩
    · rw [if_neg h10] at hF
      refine a_aload_0 dX7_write_13 ?_
      refine a_iload_2 dX7_write_14 ?_
      obtain ⟨x5, ex5, hF⟩ := bd_e hF
      refine a_iV1 dX7_write_15 cv_X7_251 (ct_X7_isWord hg p2 μ ex5.symm) (by decide) (hg.d (by decide)) rfl (Nat.le_of_ble_eq_true rfl) ?_
      refine a_if_ne (tgt := 24) dX7_write_18 (by decide) (fun h18 => ?_) (fun h18 => ?_)
      · rw [if_neg h18] at hF
        refine a_aload_0 dX7_write_24 ?_
        refine a_getI dX7_write_25 fa_X7_153 (hg.d (by decide)) rfl rfl ?_
        refine a_bipush (v := 15) dX7_write_28 (by decide) ?_
        refine a_icmp_ne (tgt := 36) dX7_write_30 (by decide) (fun h30 => ?_) (fun h30 => ?_)
        · rw [if_neg h30] at hF
          refine a_aload_0 dX7_write_36 ?_
          refine a_getR (q := 162) dX7_write_37 fa_X7_66 (hg.d (by decide)) rfl rfl ?_
          refine a_aload_0 dX7_write_40 ?_
          refine a_getI dX7_write_41 fa_X7_153 (hg.d (by decide)) rfl rfl ?_
          refine a_iload_1 dX7_write_44 ?_
          obtain ⟨hx45, hF⟩ := gd_e hF
          obtain ⟨μ6, eμ6, hF⟩ := bd_e hF
          refine a_sI eμ6 dX7_write_45 (hg.d (by decide)) rfl hx45 rfl ?_
          refine a_aload_0 dX7_write_46 ?_
          refine a_getR (q := 163) dX7_write_47 fa_X7_69 (hg.d (by decide)) rfl rfl ?_
          refine a_aload_0 dX7_write_50 ?_
          refine a_getI dX7_write_51 fa_X7_153 (hg.d (by decide)) rfl rfl ?_
          refine a_iload_2 dX7_write_54 ?_
          obtain ⟨hx55, hF⟩ := gd_e hF
          obtain ⟨μ7, eμ7, hF⟩ := bd_e hF
          refine a_sI eμ7 dX7_write_55 (hg.d (by decide)) rfl hx55 rfl ?_
          refine a_aload_0 dX7_write_56 ?_
          refine a_dup dX7_write_57 rfl ?_
          refine a_getI dX7_write_58 fa_X7_153 (hg.d (by decide)) rfl rfl ?_
          refine a_iconst (v := 1) dX7_write_61 (by decide) ?_
          refine a_iadd dX7_write_62 ?_
          obtain ⟨μ8, eμ8, hF⟩ := bd_e hF
          refine a_pI eμ8 dX7_write_63 fp_X7_153 (hg.d (by decide)) rfl rfl ?_
          refine a_aload_0 dX7_write_66 ?_
          refine a_getI dX7_write_67 fa_X7_153 (hg.d (by decide)) rfl rfl ?_
          obtain rfl := Option.some.inj hF
          exact a_iret dX7_write_70 rfl ⟨rfl, rfl⟩
        · rw [if_pos h30] at hF
          refine a_ldc dX7_write_33 k_X7_97 ?_
          obtain rfl := Option.some.inj hF
          exact a_iret dX7_write_35 rfl ⟨rfl, rfl⟩
      · rw [if_pos h18] at hF
        refine a_ldc dX7_write_21 k_X7_236 ?_
        obtain rfl := Option.some.inj hF
        exact a_iret dX7_write_23 rfl ⟨rfl, rfl⟩
set_option maxHeartbeats 4000000 in
set_option maxRecDepth 100000 in
theorem ct_X7_tear {g : GT} (hg : GR g)  (μ : MM)  {r : Int32 × MM} (hF : f_X7_tear  μ = r) : Ct g 0 mi_X7_tear [.ref 144] μ (QI r.1 r.2) := by
  refine ct_of (k := 1) (by decide +kernel) rfl hg.1 rfl ?_
  show WA g 0 mi_X7_tear 0 [some (.ref 144), none] [] μ (QI r.1 r.2)
  unfold f_X7_tear at hF
  refine a_aload_0 dX7_tear_0 ?_
  refine a_getI dX7_tear_1 fa_X7_150 (hg.d (by decide)) rfl rfl ?_
  refine a_aload_0 dX7_tear_4 ?_
  refine a_getI dX7_tear_5 fa_X7_153 (hg.d (by decide)) rfl rfl ?_
  refine a_iadd dX7_tear_8 ?_
  obtain ⟨v1, ev1, hF⟩ := bd_e hF
  refine a_nm ev1 ?_
  refine a_istore_1 dX7_tear_9 (by decide) rfl ?_
  refine a_aload_0 dX7_tear_10 ?_
  refine a_iconst (v := 0) dX7_tear_11 (by decide) ?_
  obtain ⟨μ2, eμ2, hF⟩ := bd_e hF
  refine a_pI eμ2 dX7_tear_12 fp_X7_150 (hg.d (by decide)) rfl rfl ?_
  refine a_aload_0 dX7_tear_15 ?_
  refine a_iconst (v := 0) dX7_tear_16 (by decide) ?_
  obtain ⟨μ3, eμ3, hF⟩ := bd_e hF
  refine a_pI eμ3 dX7_tear_17 fp_X7_153 (hg.d (by decide)) rfl rfl ?_
  refine a_iload_1 dX7_tear_20 ?_
  subst hF
  exact a_iret dX7_tear_21 rfl ⟨rfl, rfl⟩
set_option maxHeartbeats 4000000 in
set_option maxRecDepth 100000 in
theorem ct_X7_judge_L2 {g : GT} (hg : GR g) (μ : MM)  {Q : Option Value → MM → Prop} : ∀ (n : Nat) (l1 : Int32) (z : (Int32) ⊕ (Int32)), f_X7_judge_L2 μ n l1 = some z → (match z with | .inl z => WA g 0 mi_X7_judge 41 [some (.ref 144), some (.int z)] [] μ Q | .inr r => Q (some (.int r)) μ) → WA g 0 mi_X7_judge 2 [some (.ref 144), some (.int l1)] [] μ Q := by
  intro n
  induction n with
  | zero => intro l1 z hF; exact absurd hF (by simp [f_X7_judge_L2])
  | succ n ih =>
    intro l1 z hF K
    unfold f_X7_judge_L2 at hF
    refine a_iload_1 dX7_judge_2 ?_
    refine a_aload_0 dX7_judge_3 ?_
    refine a_getI dX7_judge_4 fa_X7_153 (hg.d (by decide)) rfl rfl ?_
    refine a_icmp_ge (tgt := 41) dX7_judge_7 (by decide) (fun h7 => ?_) (fun h7 => ?_)
    · rw [if_pos h7] at hF
      obtain rfl := Option.some.inj hF
      exact K
    · rw [if_neg h7] at hF
      refine a_aload_0 dX7_judge_10 ?_
      refine a_getR (q := 149) dX7_judge_11 fa_X7_22 (hg.d (by decide)) rfl rfl ?_
      refine a_bipush (v := 14) dX7_judge_14 (by decide) ?_
      refine a_aload_0 dX7_judge_16 ?_
      refine a_getR (q := 162) dX7_judge_17 fa_X7_66 (hg.d (by decide)) rfl rfl ?_
      refine a_iload_1 dX7_judge_20 ?_
      obtain ⟨hx21, hF⟩ := gd_e hF
      refine a_ldC dX7_judge_21 (hg.d (by decide)) rfl hx21 rfl ?_
      refine a_iadd dX7_judge_22 ?_
      obtain ⟨hx23, hF⟩ := gd_e hF
      refine a_ldC dX7_judge_23 (hg.d (by decide)) rfl hx23 rfl ?_
      refine a_aload_0 dX7_judge_24 ?_
      refine a_getR (q := 163) dX7_judge_25 fa_X7_69 (hg.d (by decide)) rfl rfl ?_
      refine a_iload_1 dX7_judge_28 ?_
      obtain ⟨hx29, hF⟩ := gd_e hF
      refine a_ldC dX7_judge_29 (hg.d (by decide)) rfl hx29 rfl ?_
      refine a_icmp_eq (tgt := 35) dX7_judge_30 (by decide) (fun h30 => ?_) (fun h30 => ?_)
      · rw [if_pos h30] at hF
        refine a_iinc_1 (c0 := 1) dX7_judge_35 (by decide) (by decide) rfl ?_
        refine a_goto (tgt := 2) dX7_judge_38 (by decide) ?_
        exact ih (l1 + 1) _ hF K
      · rw [if_neg h30] at hF
        refine a_iload_1 dX7_judge_33 ?_
        obtain rfl := Option.some.inj hF
        exact a_iret dX7_judge_34 rfl K
set_option maxHeartbeats 4000000 in
set_option maxRecDepth 100000 in
theorem ct_X7_judge {g : GT} (hg : GR g)  (μ : MM)  {r : Int32} (hF : f_X7_judge  μ = some r) : Ct g 0 mi_X7_judge [.ref 144] μ (QI r μ) := by
  refine ct_of (k := 1) (by decide +kernel) rfl hg.1 rfl ?_
  show WA g 0 mi_X7_judge 0 [some (.ref 144), none] [] μ (QI r μ)
  unfold f_X7_judge at hF
  refine a_iconst (v := 0) dX7_judge_0 (by decide) ?_
  refine a_istore_1 dX7_judge_1 (by decide) rfl ?_
  obtain ⟨z1, ez1, hF⟩ := ob_e hF
  refine ct_X7_judge_L2 hg μ  FU 0 z1 ez1 ?_
  rcases z1 with y2 | r
  · rw [Sum.elim_inl] at hF
    dsimp only
    refine a_iconst (v := (-1)) dX7_judge_41 (by decide) ?_
    obtain rfl := Option.some.inj hF
    exact a_iret dX7_judge_42 rfl ⟨rfl, rfl⟩
  · rw [Sum.elim_inr] at hF
    dsimp only
    obtain rfl := Option.some.inj hF
    exact ⟨rfl, rfl⟩
set_option maxHeartbeats 4000000 in
set_option maxRecDepth 100000 in
theorem ct_X7_seed {g : GT} (hg : GR g) (p1 : Int32) (μ : MM)  {r : Int32 × MM} (hF : f_X7_seed p1 μ = r) : Ct g 0 mi_X7_seed [.ref 144, .int p1] μ (QI r.1 r.2) := by
  refine ct_of (k := 1) (by decide +kernel) rfl hg.1 rfl ?_
  show WA g 0 mi_X7_seed 0 [some (.ref 144), some (.int p1), none] [] μ (QI r.1 r.2)
  unfold f_X7_seed at hF
  refine a_iload_1 dX7_seed_0 ?_
  refine a_if_ge (tgt := 7) dX7_seed_1 (by decide) (fun h1 => ?_) (fun h1 => ?_)
  · rw [if_pos h1] at hF
    refine a_aload_0 dX7_seed_7 ?_
    refine a_getI dX7_seed_8 fa_X7_260 (hg.d (by decide)) rfl rfl ?_
    obtain ⟨v1, ev1, hF⟩ := bd_e hF
    refine a_nm ev1 ?_
    refine a_istore_2 dX7_seed_11 (by decide) rfl ?_
    refine a_aload_0 dX7_seed_12 ?_
    refine a_iload_1 dX7_seed_13 ?_
    obtain ⟨μ2, eμ2, hF⟩ := bd_e hF
    refine a_pI eμ2 dX7_seed_14 fp_X7_260 (hg.d (by decide)) rfl rfl ?_
    refine a_iload_2 dX7_seed_17 ?_
    subst hF
    exact a_iret dX7_seed_18 rfl ⟨rfl, rfl⟩
  · rw [if_neg h1] at hF
    refine a_ldc dX7_seed_4 k_X7_93 ?_
    subst hF
    exact a_iret dX7_seed_6 rfl ⟨rfl, rfl⟩
set_option maxHeartbeats 4000000 in
set_option maxRecDepth 100000 in
theorem ct_X7_keep_L15 {g : GT} (hg : GR g) (l1 : Int32)  {Q : Option Value → MM → Prop} : ∀ (n : Nat) (l2 : Int32) (μ : MM) (z : Int32 × MM), f_X7_keep_L15 l1 n l2 μ = some z → (WA g 1 mi_X7_keep 44 [some (.ref 144), some (.int l1), some (.int z.1)] [] z.2 Q) → WA g 1 mi_X7_keep 15 [some (.ref 144), some (.int l1), some (.int l2)] [] μ Q := by
  intro n
  induction n with
  | zero => intro l2 μ z hF; exact absurd hF (by simp [f_X7_keep_L15])
  | succ n ih =>
    intro l2 μ z hF K
    unfold f_X7_keep_L15 at hF
    refine a_iload_2 dX7_keep_15 ?_
    refine a_bipush (v := 66) dX7_keep_16 (by decide) ?_
    refine a_icmp_ge (tgt := 44) dX7_keep_18 (by decide) (fun h18 => ?_) (fun h18 => ?_)
    · rw [if_pos h18] at hF
      obtain rfl := Option.some.inj hF
      exact K
    · rw [if_neg h18] at hF
      refine a_aload_0 dX7_keep_21 ?_
      refine a_getR (q := 164) dX7_keep_22 fa_X7_72 (hg.d (by decide)) rfl rfl ?_
      refine a_bipush (v := 67) dX7_keep_25 (by decide) ?_
      refine a_iload_1 dX7_keep_27 ?_
      refine a_imul dX7_keep_28 ?_
      refine a_iload_2 dX7_keep_29 ?_
      refine a_iadd dX7_keep_30 ?_
      refine a_aload_0 dX7_keep_31 ?_
      refine a_getR (q := 149) dX7_keep_32 fa_X7_22 (hg.d (by decide)) rfl rfl ?_
      refine a_iload_2 dX7_keep_35 ?_
      obtain ⟨hx36, hF⟩ := gd_e hF
      refine a_ldC dX7_keep_36 (hg.d (by decide)) rfl hx36 rfl ?_
      obtain ⟨hx37, hF⟩ := gd_e hF
      obtain ⟨μ2, eμ2, hF⟩ := bd_e hF
      refine a_sI eμ2 dX7_keep_37 (hg.d (by decide)) rfl hx37 rfl ?_
      refine a_iinc_2 (c0 := 1) dX7_keep_38 (by decide) (by decide) rfl ?_
      refine a_goto (tgt := 15) dX7_keep_41 (by decide) ?_
      exact ih (l2 + 1) μ2 _ hF K
set_option maxHeartbeats 4000000 in
set_option maxRecDepth 100000 in
theorem ct_X7_keep {g : GT} (hg : GR g) (p1 : Int32) (μ : MM)  {r : Int32 × MM} (hF : f_X7_keep p1 μ = some r) : Ct g 1 mi_X7_keep [.ref 144, .int p1] μ (QI r.1 r.2) := by
  refine ct_of (k := 1) (by decide +kernel) rfl hg.1 rfl ?_
  show WA g 1 mi_X7_keep 0 [some (.ref 144), some (.int p1), none] [] μ (QI r.1 r.2)
  unfold f_X7_keep at hF
  refine a_iload_1 dX7_keep_0 ?_
  refine a_i2l dX7_keep_1 ?_
  refine a_lconst (v := 0) dX7_keep_2 (by decide) ?_
  refine a_lconst (v := 1) dX7_keep_3 (by decide) ?_
  obtain ⟨x1, ex1, hF⟩ := bd_e hF
  refine a_iS3 dX7_keep_4 cs_X7_84 (ct_X7_in hg (Int32.toInt64 p1) 0 1 μ ex1.symm) (by decide) (Nat.le_of_ble_eq_true rfl) ?_
  refine a_if_ne (tgt := 13) dX7_keep_7 (by decide) (fun h7 => ?_) (fun h7 => ?_)
  · rw [if_neg h7] at hF
    refine a_iconst (v := 0) dX7_keep_13 (by decide) ?_
    refine a_istore_2 dX7_keep_14 (by decide) rfl ?_
    obtain ⟨z3, ez3, hF⟩ := ob_e hF
    refine ct_X7_keep_L15 hg p1  FU 0 μ z3 ez3 ?_
    refine a_aload_0 dX7_keep_44 ?_
    refine a_getR (q := 164) dX7_keep_45 fa_X7_72 (hg.d (by decide)) rfl rfl ?_
    refine a_bipush (v := 67) dX7_keep_48 (by decide) ?_
    refine a_iload_1 dX7_keep_50 ?_
    refine a_imul dX7_keep_51 ?_
    refine a_bipush (v := 66) dX7_keep_52 (by decide) ?_
    refine a_iadd dX7_keep_54 ?_
    refine a_aload_0 dX7_keep_55 ?_
    refine a_getI dX7_keep_56 fa_X7_260 (hg.d (by decide)) rfl rfl ?_
    obtain ⟨hx59, hF⟩ := gd_e hF
    obtain ⟨μ4, eμ4, hF⟩ := bd_e hF
    refine a_sI eμ4 dX7_keep_59 (hg.d (by decide)) rfl hx59 rfl ?_
    refine a_aload_0 dX7_keep_60 ?_
    refine a_getR (q := 165) dX7_keep_61 fa_X7_75 (hg.d (by decide)) rfl rfl ?_
    refine a_iload_1 dX7_keep_64 ?_
    refine a_iconst (v := 1) dX7_keep_65 (by decide) ?_
    obtain ⟨hx66, hF⟩ := gd_e hF
    obtain ⟨μ5, eμ5, hF⟩ := bd_e hF
    refine a_sZ eμ5 dX7_keep_66 (hg.d (by decide)) rfl hx66 rfl ?_
    refine a_aload_0 dX7_keep_67 ?_
    refine a_iconst (v := 0) dX7_keep_68 (by decide) ?_
    obtain ⟨μ6, eμ6, hF⟩ := bd_e hF
    refine a_pI eμ6 dX7_keep_69 fp_X7_156 (hg.d (by decide)) rfl rfl ?_
    refine a_iconst (v := 1) dX7_keep_72 (by decide) ?_
    obtain rfl := Option.some.inj hF
    exact a_iret dX7_keep_73 rfl ⟨rfl, rfl⟩
  · rw [if_pos h7] at hF
    refine a_ldc dX7_keep_10 k_X7_236 ?_
    obtain rfl := Option.some.inj hF
    exact a_iret dX7_keep_12 rfl ⟨rfl, rfl⟩
set_option maxHeartbeats 4000000 in
set_option maxRecDepth 100000 in
theorem ct_X7_goBack_L27 {g : GT} (hg : GR g) (l1 : Int32)  {Q : Option Value → MM → Prop} : ∀ (n : Nat) (l2 : Int32) (μ : MM) (z : Int32 × MM), f_X7_goBack_L27 l1 n l2 μ = some z → (WA g 1 mi_X7_goBack 56 [some (.ref 144), some (.int l1), some (.int z.1)] [] z.2 Q) → WA g 1 mi_X7_goBack 27 [some (.ref 144), some (.int l1), some (.int l2)] [] μ Q := by
  intro n
  induction n with
  | zero => intro l2 μ z hF; exact absurd hF (by simp [f_X7_goBack_L27])
  | succ n ih =>
    intro l2 μ z hF K
    unfold f_X7_goBack_L27 at hF
    refine a_iload_2 dX7_goBack_27 ?_
    refine a_bipush (v := 66) dX7_goBack_28 (by decide) ?_
    refine a_icmp_ge (tgt := 56) dX7_goBack_30 (by decide) (fun h30 => ?_) (fun h30 => ?_)
    · rw [if_pos h30] at hF
      obtain rfl := Option.some.inj hF
      exact K
    · rw [if_neg h30] at hF
      refine a_aload_0 dX7_goBack_33 ?_
      refine a_getR (q := 149) dX7_goBack_34 fa_X7_22 (hg.d (by decide)) rfl rfl ?_
      refine a_iload_2 dX7_goBack_37 ?_
      refine a_aload_0 dX7_goBack_38 ?_
      refine a_getR (q := 164) dX7_goBack_39 fa_X7_72 (hg.d (by decide)) rfl rfl ?_
      refine a_bipush (v := 67) dX7_goBack_42 (by decide) ?_
      refine a_iload_1 dX7_goBack_44 ?_
      refine a_imul dX7_goBack_45 ?_
      refine a_iload_2 dX7_goBack_46 ?_
      refine a_iadd dX7_goBack_47 ?_
      obtain ⟨hx48, hF⟩ := gd_e hF
      refine a_ldC dX7_goBack_48 (hg.d (by decide)) rfl hx48 rfl ?_
      obtain ⟨hx49, hF⟩ := gd_e hF
      obtain ⟨μ2, eμ2, hF⟩ := bd_e hF
      refine a_sI eμ2 dX7_goBack_49 (hg.d (by decide)) rfl hx49 rfl ?_
      refine a_iinc_2 (c0 := 1) dX7_goBack_50 (by decide) (by decide) rfl ?_
      refine a_goto (tgt := 27) dX7_goBack_53 (by decide) ?_
      exact ih (l2 + 1) μ2 _ hF K
set_option maxHeartbeats 4000000 in
set_option maxRecDepth 100000 in
theorem ct_X7_goBack {g : GT} (hg : GR g) (p1 : Int32) (μ : MM)  {r : Int32 × MM} (hF : f_X7_goBack p1 μ = some r) : Ct g 1 mi_X7_goBack [.ref 144, .int p1] μ (QI r.1 r.2) := by
  refine ct_of (k := 1) (by decide +kernel) rfl hg.1 rfl ?_
  show WA g 1 mi_X7_goBack 0 [some (.ref 144), some (.int p1), none] [] μ (QI r.1 r.2)
  unfold f_X7_goBack at hF
  refine a_iload_1 dX7_goBack_0 ?_
  refine a_i2l dX7_goBack_1 ?_
  refine a_lconst (v := 0) dX7_goBack_2 (by decide) ?_
  refine a_lconst (v := 1) dX7_goBack_3 (by decide) ?_
  obtain ⟨x1, ex1, hF⟩ := bd_e hF
  refine a_iS3 dX7_goBack_4 cs_X7_84 (ct_X7_in hg (Int32.toInt64 p1) 0 1 μ ex1.symm) (by decide) (Nat.le_of_ble_eq_true rfl) ?_
  refine a_if_ne (tgt := 13) dX7_goBack_7 (by decide) (fun h7 => ?_) (fun h7 => ?_)
  · rw [if_neg h7] at hF
    refine a_aload_0 dX7_goBack_13 ?_
    refine a_getR (q := 165) dX7_goBack_14 fa_X7_75 (hg.d (by decide)) rfl rfl ?_
    refine a_iload_1 dX7_goBack_17 ?_
    obtain ⟨hx18, hF⟩ := gd_e hF
    refine a_zldC dX7_goBack_18 (hg.d (by decide)) rfl hx18 rfl ?_
    refine a_if_ne (tgt := 25) dX7_goBack_19 (by decide) (fun h19 => ?_) (fun h19 => ?_)
    · rw [if_neg h19] at hF
      refine a_iconst (v := 0) dX7_goBack_25 (by decide) ?_
      refine a_istore_2 dX7_goBack_26 (by decide) rfl ?_
      obtain ⟨z3, ez3, hF⟩ := ob_e hF
      refine ct_X7_goBack_L27 hg p1  FU 0 μ z3 ez3 ?_
      refine a_aload_0 dX7_goBack_56 ?_
      refine a_aload_0 dX7_goBack_57 ?_
      refine a_getR (q := 164) dX7_goBack_58 fa_X7_72 (hg.d (by decide)) rfl rfl ?_
      refine a_bipush (v := 67) dX7_goBack_61 (by decide) ?_
      refine a_iload_1 dX7_goBack_63 ?_
      refine a_imul dX7_goBack_64 ?_
      refine a_bipush (v := 66) dX7_goBack_65 (by decide) ?_
      refine a_iadd dX7_goBack_67 ?_
      obtain ⟨hx68, hF⟩ := gd_e hF
      refine a_ldC dX7_goBack_68 (hg.d (by decide)) rfl hx68 rfl ?_
      obtain ⟨μ4, eμ4, hF⟩ := bd_e hF
      refine a_pI eμ4 dX7_goBack_69 fp_X7_260 (hg.d (by decide)) rfl rfl ?_
      refine a_aload_0 dX7_goBack_72 ?_
      refine a_iconst (v := 0) dX7_goBack_73 (by decide) ?_
      obtain ⟨μ5, eμ5, hF⟩ := bd_e hF
      refine a_pI eμ5 dX7_goBack_74 fp_X7_156 (hg.d (by decide)) rfl rfl ?_
      refine a_iconst (v := 1) dX7_goBack_77 (by decide) ?_
      obtain rfl := Option.some.inj hF
      exact a_iret dX7_goBack_78 rfl ⟨rfl, rfl⟩
    · rw [if_pos h19] at hF
      refine a_ldc dX7_goBack_22 k_X7_241 ?_
      obtain rfl := Option.some.inj hF
      exact a_iret dX7_goBack_24 rfl ⟨rfl, rfl⟩
  · rw [if_pos h7] at hF
    refine a_ldc dX7_goBack_10 k_X7_236 ?_
    obtain rfl := Option.some.inj hF
    exact a_iret dX7_goBack_12 rfl ⟨rfl, rfl⟩
