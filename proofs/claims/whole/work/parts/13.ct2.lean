set_option maxHeartbeats 4000000 in
set_option maxRecDepth 100000 in
theorem ct_X5_pass {g : GT} (hg : GC g) (w : Nat) (p1 : Nat) (μ : MM) (hw : isW w) (hp1 : isD p1) {r : MM} (hF : f_X5_pass w p1 μ = some r) : Ct g 3 mi_X5_pass [.ref w, .ref p1] μ (QV r) := by
  refine ct_of (k := 0) (by decide +kernel) rfl hg.1 rfl ?_
  show WA g 3 mi_X5_pass 0 [some (.ref w), some (.ref p1)] [] μ (QV r)
  unfold f_X5_pass at hF
  refine a_aload_0 dX5_pass_0 ?_
  refine a_getI dX5_pass_1 fa_X5_37 (isW_lt hg hw) (isW_sh hw) rfl ?_
  obtain ⟨j1, ej4, hF⟩ := ob_e hF
  have KJ4 : WA g 3 mi_X5_pass 20 [some (.ref w), some (.ref p1)] [] j1 (QV r) := by
    refine a_aload_0 dX5_pass_20 ?_
    refine a_getI dX5_pass_21 fa_X5_27 (isW_lt hg hw) (isW_sh hw) rfl ?_
    refine a_bipush (v := 6) dX5_pass_24 (by decide) ?_
    refine a_rem dX5_pass_26 (by decide) ?_
    refine a_iconst (v := 5) dX5_pass_27 (by decide) ?_
    obtain ⟨j3, ej28, hF⟩ := bd_e hF
    replace ej28 := ej28.symm
    have KJ28 : WA g 3 mi_X5_pass 48 [some (.ref w), some (.ref p1)] [] j3 (QV r) := by
      refine a_aload_0 dX5_pass_48 ?_
      refine a_dup dX5_pass_49 rfl ?_
      refine a_getI dX5_pass_50 fa_X5_27 (isW_lt hg hw) (isW_sh hw) rfl ?_
      refine a_iconst (v := 1) dX5_pass_53 (by decide) ?_
      refine a_iadd dX5_pass_54 ?_
      obtain ⟨μ5, eμ5, hF⟩ := bd_e hF
      refine a_pI eμ5 dX5_pass_55 fp_X5_27 (isW_lt hg hw) (isW_sh hw) rfl ?_
      obtain rfl := Option.some.inj hF
      exact a_vret dX5_pass_58 rfl ⟨rfl, rfl⟩
    refine a_icmp_ne (tgt := 48) dX5_pass_28 (by decide) (fun h28 => ?_) (fun h28 => ?_)
    · rw [if_neg h28] at ej28
      subst ej28
      exact KJ28
    · rw [if_pos h28] at ej28
      refine a_aload_0 dX5_pass_31 ?_
      refine a_getI dX5_pass_32 fa_X5_36 (isW_lt hg hw) (isW_sh hw) rfl ?_
      refine a_if_le (tgt := 48) dX5_pass_35 (by decide) (fun h35 => ?_) (fun h35 => ?_)
      · rw [if_pos h35] at ej28
        subst ej28
        exact KJ28
      · rw [if_neg h35] at ej28
        refine a_aload_0 dX5_pass_38 ?_
        refine a_dup dX5_pass_39 rfl ?_
        refine a_getI dX5_pass_40 fa_X5_36 (isW_lt hg hw) (isW_sh hw) rfl ?_
        refine a_iconst (v := 1) dX5_pass_43 (by decide) ?_
        refine a_isub dX5_pass_44 ?_
        obtain ⟨μ4, eμ4, ej28⟩ := bd_e ej28
        refine a_pI eμ4 dX5_pass_45 fp_X5_36 (isW_lt hg hw) (isW_sh hw) rfl ?_
        subst ej28
        exact KJ28
  refine a_if_ne (tgt := 20) dX5_pass_4 (by decide) (fun h4 => ?_) (fun h4 => ?_)
  · rw [if_neg h4] at ej4
    obtain rfl := Option.some.inj ej4
    exact KJ4
  · rw [if_pos h4] at ej4
    refine a_aload_0 dX5_pass_7 ?_
    refine a_getI dX5_pass_8 fa_X5_36 (isW_lt hg hw) (isW_sh hw) rfl ?_
    refine a_iconst (v := 1) dX5_pass_11 (by decide) ?_
    refine a_icmp_lt (tgt := 20) dX5_pass_12 (by decide) (fun h12 => ?_) (fun h12 => ?_)
    · rw [if_pos h12] at ej4
      obtain rfl := Option.some.inj ej4
      exact KJ4
    · rw [if_neg h12] at ej4
      refine a_aload_0 dX5_pass_15 ?_
      refine a_aload_1 dX5_pass_16 ?_
      obtain ⟨x2, ex2, ej4⟩ := ob_e ej4
      refine a_vV1 dX5_pass_17 cv_X5_89 (ct_X5_carryAll hg w p1 μ hw hp1 ex2) (by decide) (isW_lt hg hw) (isW_sh hw) (Nat.le_of_ble_eq_true rfl) ?_
      obtain rfl := Option.some.inj ej4
      exact KJ4
set_option maxHeartbeats 4000000 in
set_option maxRecDepth 100000 in
theorem ct_X5_passHours_L2 {g : GT} (hg : GC g) (w : Nat) (p1 : Nat) (l2 : Int32) (hw : isW w) (hp1 : isD p1) {Q : Option Value → MM → Prop} : ∀ (n : Nat) (l3 : Int32) (μ : MM) (z : Int32 × MM), f_X5_passHours_L2 w p1 l2 n l3 μ = some z → (WA g 4 mi_X5_passHours 18 [some (.ref w), some (.ref p1), some (.int l2), some (.int z.1)] [] z.2 Q) → WA g 4 mi_X5_passHours 2 [some (.ref w), some (.ref p1), some (.int l2), some (.int l3)] [] μ Q := by
  intro n
  induction n with
  | zero => intro l3 μ z hF; exact absurd hF (by simp [f_X5_passHours_L2])
  | succ n ih =>
    intro l3 μ z hF K
    unfold f_X5_passHours_L2 at hF
    refine a_iload_3 dX5_passHours_2 ?_
    refine a_iload_2 dX5_passHours_3 ?_
    refine a_icmp_ge (tgt := 18) dX5_passHours_4 (by decide) (fun h4 => ?_) (fun h4 => ?_)
    · rw [if_pos h4] at hF
      obtain rfl := Option.some.inj hF
      exact K
    · rw [if_neg h4] at hF
      refine a_aload_0 dX5_passHours_7 ?_
      refine a_aload_1 dX5_passHours_8 ?_
      obtain ⟨x1, ex1, hF⟩ := ob_e hF
      refine a_vV1 dX5_passHours_9 cv_X5_85 (ct_X5_pass hg w p1 μ hw hp1 ex1) (by decide) (isW_lt hg hw) (isW_sh hw) (Nat.le_of_ble_eq_true rfl) ?_
      refine a_iinc_3 (c0 := 1) dX5_passHours_12 (by decide) (by decide) rfl ?_
      refine a_goto (tgt := 2) dX5_passHours_15 (by decide) ?_
      exact ih (l3 + 1) x1 _ hF K
set_option maxHeartbeats 4000000 in
set_option maxRecDepth 100000 in
theorem ct_X5_passHours {g : GT} (hg : GC g) (w : Nat) (p1 : Nat) (p2 : Int32) (μ : MM) (hw : isW w) (hp1 : isD p1) {r : MM} (hF : f_X5_passHours w p1 p2 μ = some r) : Ct g 4 mi_X5_passHours [.ref w, .ref p1, .int p2] μ (QV r) := by
  refine ct_of (k := 1) (by decide +kernel) rfl hg.1 rfl ?_
  show WA g 4 mi_X5_passHours 0 [some (.ref w), some (.ref p1), some (.int p2), none] [] μ (QV r)
  unfold f_X5_passHours at hF
  refine a_iconst (v := 0) dX5_passHours_0 (by decide) ?_
  refine a_istore_3 dX5_passHours_1 (by decide) rfl ?_
  obtain ⟨z2, ez2, hF⟩ := ob_e hF
  refine ct_X5_passHours_L2 hg w p1 p2 hw hp1 FU 0 μ z2 ez2 ?_
  obtain rfl := Option.some.inj hF
  exact a_vret dX5_passHours_18 rfl ⟨rfl, rfl⟩
set_option maxHeartbeats 4000000 in
set_option maxRecDepth 100000 in
theorem ct_X6_feed {g : GT} (hg : GC g) (p1 : Int32) (μ : MM)  {r : Int32 × MM} (hF : f_X6_feed p1 μ = r) : Ct g 1 mi_X6_feed [.ref 0, .int p1] μ (QI r.1 r.2) := by
  refine ct_of (k := 0) (by decide +kernel) rfl hg.1 rfl ?_
  show WA g 1 mi_X6_feed 0 [some (.ref 0), some (.int p1)] [] μ (QI r.1 r.2)
  unfold f_X6_feed at hF
  refine a_iload_1 dX6_feed_0 ?_
  refine a_if_lt (tgt := 11) dX6_feed_1 (by decide) (fun h1 => ?_) (fun h1 => ?_)
  · rw [if_pos h1] at hF
    refine a_ldc dX6_feed_11 k_X6_65 ?_
    subst hF
    exact a_iret dX6_feed_13 rfl ⟨rfl, rfl⟩
  · rw [if_neg h1] at hF
    refine a_iload_1 dX6_feed_4 ?_
    refine a_sipush (v := 255) dX6_feed_5 (by decide) ?_
    refine a_icmp_le (tgt := 14) dX6_feed_8 (by decide) (fun h8 => ?_) (fun h8 => ?_)
    · rw [if_pos h8] at hF
      refine a_aload_0 dX6_feed_14 ?_
      refine a_getR (q := 1) dX6_feed_15 fa_X6_10 (hg.d (by decide)) rfl rfl ?_
      refine a_getI dX6_feed_18 fa_X6_66 (hg.d (by decide)) rfl rfl ?_
      refine a_sipush (v := 240) dX6_feed_21 (by decide) ?_
      refine a_icmp_lt (tgt := 30) dX6_feed_24 (by decide) (fun h24 => ?_) (fun h24 => ?_)
      · rw [if_pos h24] at hF
        refine a_aload_0 dX6_feed_30 ?_
        refine a_getR (q := 1) dX6_feed_31 fa_X6_10 (hg.d (by decide)) rfl rfl ?_
        refine a_getR (q := 2) dX6_feed_34 fa_X6_71 (hg.d (by decide)) rfl rfl ?_
        refine a_aload_0 dX6_feed_37 ?_
        refine a_getR (q := 1) dX6_feed_38 fa_X6_10 (hg.d (by decide)) rfl rfl ?_
        refine a_getI dX6_feed_41 fa_X6_66 (hg.d (by decide)) rfl rfl ?_
        refine a_iload_1 dX6_feed_44 ?_
        obtain ⟨x1, ex1, hF⟩ := bd_e hF
        refine a_vS3 dX6_feed_45 cs_X6_74 (ct_X6_put hg 2 (μ 1 1) p1 μ ⟨hg.d (by decide), by decide, rfl⟩ ex1.symm) (by decide) (Nat.le_of_ble_eq_true rfl) ?_
        refine a_aload_0 dX6_feed_48 ?_
        refine a_getR (q := 1) dX6_feed_49 fa_X6_10 (hg.d (by decide)) rfl rfl ?_
        refine a_dup dX6_feed_52 rfl ?_
        refine a_getI dX6_feed_53 fa_X6_66 (hg.d (by decide)) rfl rfl ?_
        refine a_iconst (v := 1) dX6_feed_56 (by decide) ?_
        refine a_iadd dX6_feed_57 ?_
        obtain ⟨μ2, eμ2, hF⟩ := bd_e hF
        refine a_pI eμ2 dX6_feed_58 fp_X6_66 (hg.d (by decide)) rfl rfl ?_
        refine a_aload_0 dX6_feed_61 ?_
        refine a_getR (q := 1) dX6_feed_62 fa_X6_10 (hg.d (by decide)) rfl rfl ?_
        refine a_getI dX6_feed_65 fa_X6_66 (hg.d (by decide)) rfl rfl ?_
        subst hF
        exact a_iret dX6_feed_68 rfl ⟨rfl, rfl⟩
      · rw [if_neg h24] at hF
        refine a_ldc dX6_feed_27 k_X6_70 ?_
        subst hF
        exact a_iret dX6_feed_29 rfl ⟨rfl, rfl⟩
    · rw [if_neg h8] at hF
      refine a_ldc dX6_feed_11 k_X6_65 ?_
      subst hF
      exact a_iret dX6_feed_13 rfl ⟨rfl, rfl⟩
set_option maxHeartbeats 4000000 in
set_option maxRecDepth 100000 in
theorem ct_X6_dale {g : GT} (hg : GC g)  (μ : MM)  {r : Int32 × MM} (hF : f_X6_dale  μ = some r) : Ct g 6 mi_X6_dale [.ref 0] μ (QI r.1 r.2) := by
  refine ct_of (k := 0) (by decide +kernel) rfl hg.1 rfl ?_
  show WA g 6 mi_X6_dale 0 [some (.ref 0)] [] μ (QI r.1 r.2)
  unfold f_X6_dale at hF
  refine a_aload_0 dX6_dale_0 ?_
  refine a_getR (q := 1) dX6_dale_1 fa_X6_10 (hg.d (by decide)) rfl rfl ?_
  refine a_aload_0 dX6_dale_4 ?_
  refine a_getR (q := 8) dX6_dale_5 fa_X6_23 (hg.d (by decide)) rfl rfl ?_
  obtain ⟨x1, ex1, hF⟩ := ob_e hF
  refine a_vV1 dX6_dale_8 cv_X6_78 (ct_X4_readInto hg 8 μ (Or.inr rfl) ex1) (by decide) (hg.d (by decide)) rfl (Nat.le_of_ble_eq_true rfl) ?_
  refine a_aload_0 dX6_dale_11 ?_
  refine a_getR (q := 1) dX6_dale_12 fa_X6_10 (hg.d (by decide)) rfl rfl ?_
  refine a_iconst (v := 0) dX6_dale_15 (by decide) ?_
  obtain ⟨μ2, eμ2, hF⟩ := bd_e hF
  refine a_pI eμ2 dX6_dale_16 fp_X6_66 (hg.d (by decide)) rfl rfl ?_
  refine a_aload_0 dX6_dale_19 ?_
  refine a_getR (q := 1) dX6_dale_20 fa_X6_10 (hg.d (by decide)) rfl rfl ?_
  refine a_getI dX6_dale_23 fa_X6_82 (hg.d (by decide)) rfl rfl ?_
  refine a_if_eq (tgt := 40) dX6_dale_26 (by decide) (fun h26 => ?_) (fun h26 => ?_)
  · rw [if_pos h26] at hF
    refine a_aload_0 dX6_dale_40 ?_
    refine a_getR (q := 3) dX6_dale_41 fa_X6_19 (hg.d (by decide)) rfl rfl ?_
    refine a_aload_0 dX6_dale_44 ?_
    refine a_getR (q := 8) dX6_dale_45 fa_X6_23 (hg.d (by decide)) rfl rfl ?_
    obtain ⟨x3, ex3, hF⟩ := bd_e hF
    refine a_vV1 dX6_dale_48 cv_X6_85 (ct_X1_copyFrom hg 3 8 μ2 (Or.inl rfl) (Or.inr rfl) ex3.symm) (by decide) (hg.d (by decide)) rfl (Nat.le_of_ble_eq_true rfl) ?_
    refine a_aload_0 dX6_dale_51 ?_
    refine a_getR (q := 24) dX6_dale_52 fa_X6_29 (hg.d (by decide)) rfl rfl ?_
    refine a_aload_0 dX6_dale_55 ?_
    refine a_getR (q := 3) dX6_dale_56 fa_X6_19 (hg.d (by decide)) rfl rfl ?_
    obtain ⟨x4, ex4, hF⟩ := ob_e hF
    refine a_vV1 dX6_dale_59 cv_X6_88 (ct_X5_begin hg 24 3 x3 ⟨0, by decide, rfl⟩ (Or.inl rfl) ex4) (by decide) (hg.d (by decide)) rfl (Nat.le_of_ble_eq_true rfl) ?_
    refine a_aload_0 dX6_dale_62 ?_
    refine a_getR (q := 17) dX6_dale_63 fa_X6_54 (hg.d (by decide)) rfl rfl ?_
    refine a_iconst (v := 0) dX6_dale_66 (by decide) ?_
    obtain ⟨μ5, eμ5, hF⟩ := bd_e hF
    refine a_pI eμ5 dX6_dale_67 fp_X6_91 (hg.d (by decide)) rfl rfl ?_
    refine a_aload_0 dX6_dale_70 ?_
    refine a_getR (q := 21) dX6_dale_71 fa_X6_61 (hg.d (by decide)) rfl rfl ?_
    refine a_iconst (v := 0) dX6_dale_74 (by decide) ?_
    obtain ⟨μ6, eμ6, hF⟩ := bd_e hF
    refine a_pI eμ6 dX6_dale_75 fp_X6_94 (hg.d (by decide)) rfl rfl ?_
    refine a_aload_0 dX6_dale_78 ?_
    refine a_iconst (v := 0) dX6_dale_79 (by decide) ?_
    obtain ⟨μ7, eμ7, hF⟩ := bd_e hF
    refine a_pI eμ7 dX6_dale_80 fp_X6_95 (hg.d (by decide)) rfl rfl ?_
    refine a_aload_0 dX6_dale_83 ?_
    refine a_getR (q := 13) dX6_dale_84 fa_X6_39 (hg.d (by decide)) rfl rfl ?_
    refine a_iconst (v := 0) dX6_dale_87 (by decide) ?_
    obtain ⟨μ8, eμ8, hF⟩ := bd_e hF
    refine a_pI eμ8 dX6_dale_88 fp_X6_98 (hg.d (by decide)) rfl rfl ?_
    refine a_aload_0 dX6_dale_91 ?_
    refine a_getR (q := 3) dX6_dale_92 fa_X6_19 (hg.d (by decide)) rfl rfl ?_
    refine a_getI dX6_dale_95 fa_X6_99 (hg.d (by decide)) rfl rfl ?_
    obtain rfl := Option.some.inj hF
    exact a_iret dX6_dale_98 rfl ⟨rfl, rfl⟩
  · rw [if_neg h26] at hF
    refine a_bipush (v := (-10)) dX6_dale_29 (by decide) ?_
    refine a_aload_0 dX6_dale_31 ?_
    refine a_getR (q := 1) dX6_dale_32 fa_X6_10 (hg.d (by decide)) rfl rfl ?_
    refine a_getI dX6_dale_35 fa_X6_82 (hg.d (by decide)) rfl rfl ?_
    refine a_isub dX6_dale_38 ?_
    obtain rfl := Option.some.inj hF
    exact a_iret dX6_dale_39 rfl ⟨rfl, rfl⟩
set_option maxHeartbeats 4000000 in
set_option maxRecDepth 100000 in
theorem ct_X6_fault {g : GT} (hg : GC g)  (μ : MM)  {r : Int32} (hF : f_X6_fault  μ = r) : Ct g 0 mi_X6_fault [.ref 0] μ (QI r μ) := by
  refine ct_of (k := 0) (by decide +kernel) rfl hg.1 rfl ?_
  show WA g 0 mi_X6_fault 0 [some (.ref 0)] [] μ (QI r μ)
  unfold f_X6_fault at hF
  refine a_aload_0 dX6_fault_0 ?_
  refine a_getR (q := 1) dX6_fault_1 fa_X6_10 (hg.d (by decide)) rfl rfl ?_
  refine a_getI dX6_fault_4 fa_X6_102 (hg.d (by decide)) rfl rfl ?_
  subst hF
  exact a_iret dX6_fault_7 rfl ⟨rfl, rfl⟩
set_option maxHeartbeats 4000000 in
set_option maxRecDepth 100000 in
theorem ct_X6_loudest_L6 {g : GT} (hg : GC g) (μ : MM)  {Q : Option Value → MM → Prop} : ∀ (n : Nat) (l1 : Int32) (l2 : Int32) (l3 : Int32) (z : Int32 × Int32 × Int32), f_X6_loudest_L6 μ n l1 l2 l3 = some z → (WA g 1 mi_X6_loudest 47 [some (.ref 0), some (.int z.1), some (.int z.2.1), some (.int z.2.2), none] [] μ Q) → WA g 1 mi_X6_loudest 6 [some (.ref 0), some (.int l1), some (.int l2), some (.int l3), none] [] μ Q := by
  intro n
  induction n with
  | zero => intro l1 l2 l3 z hF; exact absurd hF (by simp [f_X6_loudest_L6])
  | succ n ih =>
    intro l1 l2 l3 z hF K
    unfold f_X6_loudest_L6 at hF
    refine a_iload_3 dX6_loudest_6 ?_
    refine a_aload_0 dX6_loudest_7 ?_
    refine a_getR (q := 3) dX6_loudest_8 fa_X6_19 (hg.d (by decide)) rfl rfl ?_
    refine a_getI dX6_loudest_11 fa_X6_99 (hg.d (by decide)) rfl rfl ?_
    refine a_icmp_ge (tgt := 47) dX6_loudest_14 (by decide) (fun h14 => ?_) (fun h14 => ?_)
    · rw [if_pos h14] at hF
      obtain rfl := Option.some.inj hF
      exact K
    · rw [if_neg h14] at hF
      refine a_aload_0 dX6_loudest_17 ?_
      refine a_getR (q := 24) dX6_loudest_18 fa_X6_29 (hg.d (by decide)) rfl rfl ?_
      refine a_getR (q := 29) dX6_loudest_21 fa_X6_167 (hg.d (by decide)) rfl rfl ?_
      refine a_iload_3 dX6_loudest_24 ?_
      obtain ⟨x1, ex1, hF⟩ := bd_e hF
      refine a_iS2 dX6_loudest_25 cs_X6_151 (ct_X6_cell hg 29 l3 μ ⟨hg.d (by decide), by decide, rfl⟩ ex1.symm) (by decide) (Nat.le_of_ble_eq_true rfl) ?_
      refine a_istore_4 dX6_loudest_28 (by decide) rfl ?_
      refine a_iload_4 dX6_loudest_30 ?_
      refine a_iload_1 dX6_loudest_32 ?_
      refine a_icmp_le (tgt := 41) dX6_loudest_33 (by decide) (fun h33 => ?_) (fun h33 => ?_)
      · rw [if_pos h33] at hF
        refine a_iinc_3 (c0 := 1) dX6_loudest_41 (by decide) (by decide) rfl ?_
        refine a_goto (tgt := 6) dX6_loudest_44 (by decide) ?_
        exact a_wk2 (ih l1 l2 (l3 + 1) _ hF K) (by simp [wk])
      · rw [if_neg h33] at hF
        refine a_iload_4 dX6_loudest_36 ?_
        refine a_istore_1 dX6_loudest_38 (by decide) rfl ?_
        refine a_iload_3 dX6_loudest_39 ?_
        refine a_istore_2 dX6_loudest_40 (by decide) rfl ?_
        refine a_iinc_3 (c0 := 1) dX6_loudest_41 (by decide) (by decide) rfl ?_
        refine a_goto (tgt := 6) dX6_loudest_44 (by decide) ?_
        exact a_wk2 (ih x1 l3 (l3 + 1) _ hF K) (by simp [wk])
set_option maxHeartbeats 4000000 in
set_option maxRecDepth 100000 in
theorem ct_X6_loudest {g : GT} (hg : GC g)  (μ : MM)  {r : Int32} (hF : f_X6_loudest  μ = some r) : Ct g 1 mi_X6_loudest [.ref 0] μ (QI r μ) := by
  refine ct_of (k := 4) (by decide +kernel) rfl hg.1 rfl ?_
  show WA g 1 mi_X6_loudest 0 [some (.ref 0), none, none, none, none] [] μ (QI r μ)
  unfold f_X6_loudest at hF
  refine a_iconst (v := 0) dX6_loudest_0 (by decide) ?_
  refine a_istore_1 dX6_loudest_1 (by decide) rfl ?_
  refine a_iconst (v := (-1)) dX6_loudest_2 (by decide) ?_
  refine a_istore_2 dX6_loudest_3 (by decide) rfl ?_
  refine a_iconst (v := 0) dX6_loudest_4 (by decide) ?_
  refine a_istore_3 dX6_loudest_5 (by decide) rfl ?_
  obtain ⟨z2, ez2, hF⟩ := ob_e hF
  refine ct_X6_loudest_L6 hg μ  FU 0 (-1) 0 z2 ez2 ?_
  refine a_iload_2 dX6_loudest_47 ?_
  obtain rfl := Option.some.inj hF
  exact a_iret dX6_loudest_48 rfl ⟨rfl, rfl⟩
set_option maxHeartbeats 4000000 in
set_option maxRecDepth 100000 in
theorem ct_X6_downOf_L7 {g : GT} (hg : GC g) (l1 : Int32) (μ : MM)  {Q : Option Value → MM → Prop} : ∀ (n : Nat) (l2 : Int32) (l3 : Int32) (l4 : Int32) (z : Int32 × Int32 × Int32), f_X6_downOf_L7 l1 μ n l2 l3 l4 = some z → (WA g 2 mi_X6_downOf 54 [some (.ref 0), some (.int l1), some (.int z.1), some (.int z.2.1), some (.int z.2.2), none] [] μ Q) → WA g 2 mi_X6_downOf 7 [some (.ref 0), some (.int l1), some (.int l2), some (.int l3), some (.int l4), none] [] μ Q := by
  intro n
  induction n with
  | zero => intro l2 l3 l4 z hF; exact absurd hF (by simp [f_X6_downOf_L7])
  | succ n ih =>
    intro l2 l3 l4 z hF K
    unfold f_X6_downOf_L7 at hF
    refine a_iload_4 dX6_downOf_7 ?_
    refine a_bipush (v := 9) dX6_downOf_9 (by decide) ?_
    refine a_icmp_ge (tgt := 54) dX6_downOf_11 (by decide) (fun h11 => ?_) (fun h11 => ?_)
    · rw [if_pos h11] at hF
      obtain rfl := Option.some.inj hF
      exact K
    · rw [if_neg h11] at hF
      refine a_iload_3 dX6_downOf_14 ?_
      refine a_if_eq (tgt := 54) dX6_downOf_15 (by decide) (fun h15 => ?_) (fun h15 => ?_)
      · rw [if_pos h15] at hF
        obtain rfl := Option.some.inj hF
        exact K
      · rw [if_neg h15] at hF
        refine a_aload_0 dX6_downOf_18 ?_
        refine a_getR (q := 3) dX6_downOf_19 fa_X6_19 (hg.d (by decide)) rfl rfl ?_
        refine a_getR (q := 4) dX6_downOf_22 fa_X6_148 (hg.d (by decide)) rfl rfl ?_
        refine a_iload_3 dX6_downOf_25 ?_
        obtain ⟨x1, ex1, hF⟩ := bd_e hF
        refine a_iS2 dX6_downOf_26 cs_X6_151 (ct_X6_cell hg 4 l3 μ ⟨hg.d (by decide), by decide, rfl⟩ ex1.symm) (by decide) (Nat.le_of_ble_eq_true rfl) ?_
        refine a_istore_5 dX6_downOf_29 (by decide) rfl ?_
        refine a_iload_2 dX6_downOf_31 ?_
        refine a_iconst (v := 1) dX6_downOf_32 (by decide) ?_
        refine a_iload_5 dX6_downOf_33 ?_
        refine a_shl dX6_downOf_35 ?_
        refine a_ior dX6_downOf_36 ?_
        obtain ⟨v2, ev2, hF⟩ := bd_e hF
        refine a_nm ev2 ?_
        refine a_istore_2 dX6_downOf_37 (by decide) rfl ?_
        refine a_aload_0 dX6_downOf_38 ?_
        refine a_getR (q := 24) dX6_downOf_39 fa_X6_29 (hg.d (by decide)) rfl rfl ?_
        refine a_iload_5 dX6_downOf_42 ?_
        obtain ⟨x3, ex3, hF⟩ := bd_e hF
        refine a_iV1 dX6_downOf_44 cv_X6_278 (ct_X5_goesOnFrom hg 24 x1 μ ⟨0, by decide, rfl⟩ ex3.symm) (by decide) (hg.d (by decide)) rfl (Nat.le_of_ble_eq_true rfl) ?_
        refine a_istore_3 dX6_downOf_47 (by decide) rfl ?_
        refine a_iinc_4 (c0 := 1) dX6_downOf_48 (by decide) (by decide) rfl ?_
        refine a_goto (tgt := 7) dX6_downOf_51 (by decide) ?_
        exact a_wk2 (ih v2 x3 (l4 + 1) _ hF K) (by simp [wk])
set_option maxHeartbeats 4000000 in
set_option maxRecDepth 100000 in
theorem ct_X6_downOf {g : GT} (hg : GC g) (p1 : Int32) (μ : MM)  {r : Int32} (hF : f_X6_downOf p1 μ = some r) : Ct g 2 mi_X6_downOf [.ref 0, .int p1] μ (QI r μ) := by
  refine ct_of (k := 4) (by decide +kernel) rfl hg.1 rfl ?_
  show WA g 2 mi_X6_downOf 0 [some (.ref 0), some (.int p1), none, none, none, none] [] μ (QI r μ)
  unfold f_X6_downOf at hF
  refine a_iconst (v := 0) dX6_downOf_0 (by decide) ?_
  refine a_istore_2 dX6_downOf_1 (by decide) rfl ?_
  refine a_iload_1 dX6_downOf_2 ?_
  refine a_istore_3 dX6_downOf_3 (by decide) rfl ?_
  refine a_iconst (v := 0) dX6_downOf_4 (by decide) ?_
  refine a_istore_4 dX6_downOf_5 (by decide) rfl ?_
  obtain ⟨z4, ez4, hF⟩ := ob_e hF
  refine ct_X6_downOf_L7 hg p1 μ  FU 0 p1 0 z4 ez4 ?_
  refine a_iload_2 dX6_downOf_54 ?_
  obtain rfl := Option.some.inj hF
  exact a_iret dX6_downOf_55 rfl ⟨rfl, rfl⟩
set_option maxHeartbeats 4000000 in
set_option maxRecDepth 100000 in
theorem ct_X6_upOf_L4 {g : GT} (hg : GC g) (l1 : Int32) (μ : MM)  {Q : Option Value → MM → Prop} : ∀ (n : Nat) (l2 : Int32) (l3 : Int32) (z : Int32 × Int32), f_X6_upOf_L4 l1 μ n l2 l3 = some z → (WA g 3 mi_X6_upOf 39 [some (.ref 0), some (.int l1), some (.int z.1), some (.int z.2)] [] μ Q) → WA g 3 mi_X6_upOf 4 [some (.ref 0), some (.int l1), some (.int l2), some (.int l3)] [] μ Q := by
  intro n
  induction n with
  | zero => intro l2 l3 z hF; exact absurd hF (by simp [f_X6_upOf_L4])
  | succ n ih =>
    intro l2 l3 z hF K
    unfold f_X6_upOf_L4 at hF
    refine a_iload_3 dX6_upOf_4 ?_
    refine a_aload_0 dX6_upOf_5 ?_
    refine a_getR (q := 3) dX6_upOf_6 fa_X6_19 (hg.d (by decide)) rfl rfl ?_
    refine a_getI dX6_upOf_9 fa_X6_99 (hg.d (by decide)) rfl rfl ?_
    refine a_icmp_ge (tgt := 39) dX6_upOf_12 (by decide) (fun h12 => ?_) (fun h12 => ?_)
    · rw [if_pos h12] at hF
      obtain rfl := Option.some.inj hF
      exact K
    · rw [if_neg h12] at hF
      refine a_aload_0 dX6_upOf_15 ?_
      refine a_iload_3 dX6_upOf_16 ?_
      obtain ⟨x1, ex1, hF⟩ := ob_e hF
      refine a_iV1 dX6_upOf_17 cv_X6_217 (ct_X6_downOf hg l3 μ ex1) (by decide) (hg.d (by decide)) rfl (Nat.le_of_ble_eq_true rfl) ?_
      refine a_iload_1 dX6_upOf_20 ?_
      obtain ⟨x2, ex2, hF⟩ := bd_e hF
      refine a_iS2 dX6_upOf_21 cs_X6_200 (ct_X6_holds hg x1 l1 μ ex2.symm) (by decide) (Nat.le_of_ble_eq_true rfl) ?_
      refine a_if_eq (tgt := 33) dX6_upOf_24 (by decide) (fun h24 => ?_) (fun h24 => ?_)
      · rw [if_pos h24] at hF
        refine a_iinc_3 (c0 := 1) dX6_upOf_33 (by decide) (by decide) rfl ?_
        refine a_goto (tgt := 4) dX6_upOf_36 (by decide) ?_
        exact ih l2 (l3 + 1) _ hF K
      · rw [if_neg h24] at hF
        refine a_iload_2 dX6_upOf_27 ?_
        refine a_iconst (v := 1) dX6_upOf_28 (by decide) ?_
        refine a_iload_3 dX6_upOf_29 ?_
        refine a_shl dX6_upOf_30 ?_
        refine a_ior dX6_upOf_31 ?_
        obtain ⟨v3, ev3, hF⟩ := bd_e hF
        refine a_nm ev3 ?_
        refine a_istore_2 dX6_upOf_32 (by decide) rfl ?_
        refine a_iinc_3 (c0 := 1) dX6_upOf_33 (by decide) (by decide) rfl ?_
        refine a_goto (tgt := 4) dX6_upOf_36 (by decide) ?_
        exact ih v3 (l3 + 1) _ hF K
set_option maxHeartbeats 4000000 in
set_option maxRecDepth 100000 in
theorem ct_X6_upOf {g : GT} (hg : GC g) (p1 : Int32) (μ : MM)  {r : Int32} (hF : f_X6_upOf p1 μ = some r) : Ct g 3 mi_X6_upOf [.ref 0, .int p1] μ (QI r μ) := by
  refine ct_of (k := 2) (by decide +kernel) rfl hg.1 rfl ?_
  show WA g 3 mi_X6_upOf 0 [some (.ref 0), some (.int p1), none, none] [] μ (QI r μ)
  unfold f_X6_upOf at hF
  refine a_iconst (v := 0) dX6_upOf_0 (by decide) ?_
  refine a_istore_2 dX6_upOf_1 (by decide) rfl ?_
  refine a_iconst (v := 0) dX6_upOf_2 (by decide) ?_
  refine a_istore_3 dX6_upOf_3 (by decide) rfl ?_
  obtain ⟨z4, ez4, hF⟩ := ob_e hF
  refine ct_X6_upOf_L4 hg p1 μ  FU 0 0 z4 ez4 ?_
  refine a_iload_2 dX6_upOf_39 ?_
  obtain rfl := Option.some.inj hF
  exact a_iret dX6_upOf_40 rfl ⟨rfl, rfl⟩
set_option maxHeartbeats 4000000 in
set_option maxRecDepth 100000 in
theorem ct_X6_bottom_L6 {g : GT} (hg : GC g) (μ : MM)  {Q : Option Value → MM → Prop} : ∀ (n : Nat) (l1 : Int32) (l2 : Int32) (l3 : Int32) (z : Int32 × Int32 × Int32), f_X6_bottom_L6 μ n l1 l2 l3 = some z → (WA g 4 mi_X6_bottom 44 [some (.ref 0), some (.int z.1), some (.int z.2.1), some (.int z.2.2), none] [] μ Q) → WA g 4 mi_X6_bottom 6 [some (.ref 0), some (.int l1), some (.int l2), some (.int l3), none] [] μ Q := by
  intro n
  induction n with
  | zero => intro l1 l2 l3 z hF; exact absurd hF (by simp [f_X6_bottom_L6])
  | succ n ih =>
    intro l1 l2 l3 z hF K
    unfold f_X6_bottom_L6 at hF
    refine a_iload_3 dX6_bottom_6 ?_
    refine a_aload_0 dX6_bottom_7 ?_
    refine a_getR (q := 3) dX6_bottom_8 fa_X6_19 (hg.d (by decide)) rfl rfl ?_
    refine a_getI dX6_bottom_11 fa_X6_99 (hg.d (by decide)) rfl rfl ?_
    refine a_icmp_ge (tgt := 44) dX6_bottom_14 (by decide) (fun h14 => ?_) (fun h14 => ?_)
    · rw [if_pos h14] at hF
      obtain rfl := Option.some.inj hF
      exact K
    · rw [if_neg h14] at hF
      refine a_aload_0 dX6_bottom_17 ?_
      refine a_iload_3 dX6_bottom_18 ?_
      obtain ⟨x1, ex1, hF⟩ := ob_e hF
      refine a_iV1 dX6_bottom_19 cv_X6_220 (ct_X6_upOf hg l3 μ ex1) (by decide) (hg.d (by decide)) rfl (Nat.le_of_ble_eq_true rfl) ?_
      obtain ⟨x2, ex2, hF⟩ := bd_e hF
      refine a_iS1 dX6_bottom_22 cs_X6_233 (ct_J6_bitCount_0f7a4 hg.1 x1 μ ex2.symm) (by decide) (Nat.le_of_ble_eq_true rfl) ?_
      refine a_istore_4 dX6_bottom_25 (by decide) rfl ?_
      refine a_iload_4 dX6_bottom_27 ?_
      refine a_iload_1 dX6_bottom_29 ?_
      refine a_icmp_le (tgt := 38) dX6_bottom_30 (by decide) (fun h30 => ?_) (fun h30 => ?_)
      · rw [if_pos h30] at hF
        refine a_iinc_3 (c0 := 1) dX6_bottom_38 (by decide) (by decide) rfl ?_
        refine a_goto (tgt := 6) dX6_bottom_41 (by decide) ?_
        exact a_wk2 (ih l1 l2 (l3 + 1) _ hF K) (by simp [wk])
      · rw [if_neg h30] at hF
        refine a_iload_4 dX6_bottom_33 ?_
        refine a_istore_1 dX6_bottom_35 (by decide) rfl ?_
        refine a_iload_3 dX6_bottom_36 ?_
        refine a_istore_2 dX6_bottom_37 (by decide) rfl ?_
        refine a_iinc_3 (c0 := 1) dX6_bottom_38 (by decide) (by decide) rfl ?_
        refine a_goto (tgt := 6) dX6_bottom_41 (by decide) ?_
        exact a_wk2 (ih x2 l3 (l3 + 1) _ hF K) (by simp [wk])
set_option maxHeartbeats 4000000 in
set_option maxRecDepth 100000 in
theorem ct_X6_bottom {g : GT} (hg : GC g)  (μ : MM)  {r : Int32} (hF : f_X6_bottom  μ = some r) : Ct g 4 mi_X6_bottom [.ref 0] μ (QI r μ) := by
  refine ct_of (k := 4) (by decide +kernel) rfl hg.1 rfl ?_
  show WA g 4 mi_X6_bottom 0 [some (.ref 0), none, none, none, none] [] μ (QI r μ)
  unfold f_X6_bottom at hF
  refine a_iconst (v := (-1)) dX6_bottom_0 (by decide) ?_
  refine a_istore_1 dX6_bottom_1 (by decide) rfl ?_
  refine a_iconst (v := (-1)) dX6_bottom_2 (by decide) ?_
  refine a_istore_2 dX6_bottom_3 (by decide) rfl ?_
  refine a_iconst (v := 1) dX6_bottom_4 (by decide) ?_
  refine a_istore_3 dX6_bottom_5 (by decide) rfl ?_
  obtain ⟨z3, ez3, hF⟩ := ob_e hF
  refine ct_X6_bottom_L6 hg μ  FU (-1) (-1) 1 z3 ez3 ?_
  refine a_iload_2 dX6_bottom_44 ?_
  obtain rfl := Option.some.inj hF
  exact a_iret dX6_bottom_45 rfl ⟨rfl, rfl⟩
set_option maxHeartbeats 4000000 in
set_option maxRecDepth 100000 in
theorem ct_X6_wordAt_L9 {g : GT} (hg : GC g) (l1 : Int32) (l2 : Int32) (l3 : Int32) (μ : MM)  {Q : Option Value → MM → Prop} : ∀ (n : Nat) (l4 : Int32) (l5 : Int32) (l6 : Int32) (z : (Int32 × Int32 × Int32) ⊕ (Int32)), f_X6_wordAt_L9 l1 l2 l3 μ n l4 l5 l6 = some z → (match z with | .inl z => WA g 2 mi_X6_wordAt 78 [some (.ref 0), some (.int l1), some (.int l2), some (.int l3), some (.int z.1), some (.int z.2.1), some (.int z.2.2), none] [] μ Q | .inr r => Q (some (.int r)) μ) → WA g 2 mi_X6_wordAt 9 [some (.ref 0), some (.int l1), some (.int l2), some (.int l3), some (.int l4), some (.int l5), some (.int l6), none] [] μ Q := by
  intro n
  induction n with
  | zero => intro l4 l5 l6 z hF; exact absurd hF (by simp [f_X6_wordAt_L9])
  | succ n ih =>
    intro l4 l5 l6 z hF K
    unfold f_X6_wordAt_L9 at hF
    refine a_iload_6 dX6_wordAt_9 ?_
    refine a_bipush (v := 9) dX6_wordAt_11 (by decide) ?_
    refine a_icmp_ge (tgt := 78) dX6_wordAt_13 (by decide) (fun h13 => ?_) (fun h13 => ?_)
    · rw [if_pos h13] at hF
      obtain rfl := Option.some.inj hF
      exact K
    · rw [if_neg h13] at hF
      refine a_iload_5 dX6_wordAt_16 ?_
      refine a_if_eq (tgt := 78) dX6_wordAt_18 (by decide) (fun h18 => ?_) (fun h18 => ?_)
      · rw [if_pos h18] at hF
        obtain rfl := Option.some.inj hF
        exact K
      · rw [if_neg h18] at hF
        refine a_aload_0 dX6_wordAt_21 ?_
        refine a_getR (q := 3) dX6_wordAt_22 fa_X6_19 (hg.d (by decide)) rfl rfl ?_
        refine a_getR (q := 4) dX6_wordAt_25 fa_X6_148 (hg.d (by decide)) rfl rfl ?_
        refine a_iload_5 dX6_wordAt_28 ?_
        obtain ⟨x1, ex1, hF⟩ := bd_e hF
        refine a_iS2 dX6_wordAt_30 cs_X6_151 (ct_X6_cell hg 4 l5 μ ⟨hg.d (by decide), by decide, rfl⟩ ex1.symm) (by decide) (Nat.le_of_ble_eq_true rfl) ?_
        refine a_istore_7 dX6_wordAt_33 (by decide) rfl ?_
        refine a_aload_0 dX6_wordAt_35 ?_
        refine a_getR (q := 24) dX6_wordAt_36 fa_X6_29 (hg.d (by decide)) rfl rfl ?_
        refine a_aload_0 dX6_wordAt_39 ?_
        refine a_getR (q := 3) dX6_wordAt_40 fa_X6_19 (hg.d (by decide)) rfl rfl ?_
        refine a_iload_5 dX6_wordAt_43 ?_
        refine a_iload_4 dX6_wordAt_45 ?_
        obtain ⟨x2, ex2, hF⟩ := bd_e hF
        refine a_iV3 dX6_wordAt_47 cv_X6_281 (ct_X5_garbled hg 24 3 l5 l4 μ ⟨0, by decide, rfl⟩ (Or.inl rfl) ex2.symm) (by decide) (hg.d (by decide)) rfl (Nat.le_of_ble_eq_true rfl) ?_
        refine a_istore_4 dX6_wordAt_50 (by decide) rfl ?_
        refine a_iload_7 dX6_wordAt_52 ?_
        refine a_iload_2 dX6_wordAt_54 ?_
        refine a_icmp_ne (tgt := 61) dX6_wordAt_55 (by decide) (fun h55 => ?_) (fun h55 => ?_)
        · rw [if_neg h55] at hF
          refine a_aload_0 dX6_wordAt_61 ?_
          refine a_getR (q := 24) dX6_wordAt_62 fa_X6_29 (hg.d (by decide)) rfl rfl ?_
          refine a_iload_7 dX6_wordAt_65 ?_
          obtain ⟨x3, ex3, hF⟩ := bd_e hF
          refine a_iV1 dX6_wordAt_67 cv_X6_278 (ct_X5_goesOnFrom hg 24 x1 μ ⟨0, by decide, rfl⟩ ex3.symm) (by decide) (hg.d (by decide)) rfl (Nat.le_of_ble_eq_true rfl) ?_
          refine a_istore_5 dX6_wordAt_70 (by decide) rfl ?_
          refine a_iinc_6 (c0 := 1) dX6_wordAt_72 (by decide) (by decide) rfl ?_
          refine a_goto (tgt := 9) dX6_wordAt_75 (by decide) ?_
          exact a_wk2 (ih x2 x3 (l6 + 1) _ hF K) (by simp [wk])
        · rw [if_pos h55] at hF
          refine a_iload_4 dX6_wordAt_58 ?_
          obtain rfl := Option.some.inj hF
          exact a_iret dX6_wordAt_60 rfl K
set_option maxHeartbeats 4000000 in
set_option maxRecDepth 100000 in
theorem ct_X6_wordAt {g : GT} (hg : GC g) (p1 : Int32) (p2 : Int32) (p3 : Int32) (μ : MM)  {r : Int32} (hF : f_X6_wordAt p1 p2 p3 μ = some r) : Ct g 2 mi_X6_wordAt [.ref 0, .int p1, .int p2, .int p3] μ (QI r μ) := by
  refine ct_of (k := 4) (by decide +kernel) rfl hg.1 rfl ?_
  show WA g 2 mi_X6_wordAt 0 [some (.ref 0), some (.int p1), some (.int p2), some (.int p3), none, none, none, none] [] μ (QI r μ)
  unfold f_X6_wordAt at hF
  refine a_iload_3 dX6_wordAt_0 ?_
  refine a_istore_4 dX6_wordAt_1 (by decide) rfl ?_
  refine a_iload_1 dX6_wordAt_3 ?_
  refine a_istore_5 dX6_wordAt_4 (by decide) rfl ?_
  refine a_iconst (v := 0) dX6_wordAt_6 (by decide) ?_
  refine a_istore_6 dX6_wordAt_7 (by decide) rfl ?_
  obtain ⟨z4, ez4, hF⟩ := ob_e hF
  refine ct_X6_wordAt_L9 hg p1 p2 p3 μ  FU p3 p1 0 z4 ez4 ?_
  rcases z4 with y5 | r
  · rw [Sum.elim_inl] at hF
    dsimp only
    refine a_iconst (v := (-1)) dX6_wordAt_78 (by decide) ?_
    obtain rfl := Option.some.inj hF
    exact a_iret dX6_wordAt_79 rfl ⟨rfl, rfl⟩
  · rw [Sum.elim_inr] at hF
    dsimp only
    obtain rfl := Option.some.inj hF
    exact ⟨rfl, rfl⟩
set_option maxHeartbeats 4000000 in
set_option maxRecDepth 100000 in
theorem ct_X6_leavesAllAlone_L2 {g : GT} (hg : GC g) (l1 : Int32) (μ : MM)  {Q : Option Value → MM → Prop} : ∀ (n : Nat) (l2 : Int32) (z : (Int32) ⊕ (Int32)), f_X6_leavesAllAlone_L2 l1 μ n l2 = some z → (match z with | .inl z => WA g 3 mi_X6_leavesAllAlone 32 [some (.ref 0), some (.int l1), some (.int z)] [] μ Q | .inr r => Q (some (.int r)) μ) → WA g 3 mi_X6_leavesAllAlone 2 [some (.ref 0), some (.int l1), some (.int l2)] [] μ Q := by
  intro n
  induction n with
  | zero => intro l2 z hF; exact absurd hF (by simp [f_X6_leavesAllAlone_L2])
  | succ n ih =>
    intro l2 z hF K
    unfold f_X6_leavesAllAlone_L2 at hF
    refine a_iload_2 dX6_leavesAllAlone_2 ?_
    refine a_aload_0 dX6_leavesAllAlone_3 ?_
    refine a_getR (q := 3) dX6_leavesAllAlone_4 fa_X6_19 (hg.d (by decide)) rfl rfl ?_
    refine a_getI dX6_leavesAllAlone_7 fa_X6_105 (hg.d (by decide)) rfl rfl ?_
    refine a_icmp_ge (tgt := 32) dX6_leavesAllAlone_10 (by decide) (fun h10 => ?_) (fun h10 => ?_)
    · rw [if_pos h10] at hF
      obtain rfl := Option.some.inj hF
      exact K
    · rw [if_neg h10] at hF
      refine a_aload_0 dX6_leavesAllAlone_13 ?_
      refine a_iload_1 dX6_leavesAllAlone_14 ?_
      refine a_iconst (v := 0) dX6_leavesAllAlone_15 (by decide) ?_
      refine a_iload_2 dX6_leavesAllAlone_16 ?_
      obtain ⟨x1, ex1, hF⟩ := ob_e hF
      refine a_iV3 dX6_leavesAllAlone_17 cv_X6_223 (ct_X6_wordAt hg l1 0 l2 μ ex1) (by decide) (hg.d (by decide)) rfl (Nat.le_of_ble_eq_true rfl) ?_
      refine a_iload_2 dX6_leavesAllAlone_20 ?_
      refine a_icmp_eq (tgt := 26) dX6_leavesAllAlone_21 (by decide) (fun h21 => ?_) (fun h21 => ?_)
      · rw [if_pos h21] at hF
        refine a_iinc_2 (c0 := 1) dX6_leavesAllAlone_26 (by decide) (by decide) rfl ?_
        refine a_goto (tgt := 2) dX6_leavesAllAlone_29 (by decide) ?_
        exact ih (l2 + 1) _ hF K
      · rw [if_neg h21] at hF
        refine a_iconst (v := 0) dX6_leavesAllAlone_24 (by decide) ?_
        obtain rfl := Option.some.inj hF
        exact a_zret dX6_leavesAllAlone_25 rfl (Or.inl rfl) K
set_option maxHeartbeats 4000000 in
set_option maxRecDepth 100000 in
theorem ct_X6_leavesAllAlone {g : GT} (hg : GC g) (p1 : Int32) (μ : MM)  {r : Int32} (hF : f_X6_leavesAllAlone p1 μ = some r) : Ct g 3 mi_X6_leavesAllAlone [.ref 0, .int p1] μ (QI r μ) := by
  refine ct_of (k := 1) (by decide +kernel) rfl hg.1 rfl ?_
  show WA g 3 mi_X6_leavesAllAlone 0 [some (.ref 0), some (.int p1), none] [] μ (QI r μ)
  unfold f_X6_leavesAllAlone at hF
  refine a_iconst (v := 0) dX6_leavesAllAlone_0 (by decide) ?_
  refine a_istore_2 dX6_leavesAllAlone_1 (by decide) rfl ?_
  obtain ⟨z2, ez2, hF⟩ := ob_e hF
  refine ct_X6_leavesAllAlone_L2 hg p1 μ  FU 0 z2 ez2 ?_
  rcases z2 with y3 | r
  · rw [Sum.elim_inl] at hF
    dsimp only
    refine a_iconst (v := 1) dX6_leavesAllAlone_32 (by decide) ?_
    obtain rfl := Option.some.inj hF
    exact a_zret dX6_leavesAllAlone_33 rfl (Or.inr rfl) ⟨rfl, rfl⟩
  · rw [Sum.elim_inr] at hF
    dsimp only
    obtain rfl := Option.some.inj hF
    exact ⟨rfl, rfl⟩
set_option maxHeartbeats 4000000 in
set_option maxRecDepth 100000 in
theorem ct_X6_even_L4 {g : GT} (hg : GC g) (μ : MM)  {Q : Option Value → MM → Prop} : ∀ (n : Nat) (l1 : Int32) (l2 : Int32) (z : Int32 × Int32), f_X6_even_L4 μ n l1 l2 = some z → (WA g 4 mi_X6_even 35 [some (.ref 0), some (.int z.1), some (.int z.2)] [] μ Q) → WA g 4 mi_X6_even 4 [some (.ref 0), some (.int l1), some (.int l2)] [] μ Q := by
  intro n
  induction n with
  | zero => intro l1 l2 z hF; exact absurd hF (by simp [f_X6_even_L4])
  | succ n ih =>
    intro l1 l2 z hF K
    unfold f_X6_even_L4 at hF
    refine a_iload_2 dX6_even_4 ?_
    refine a_aload_0 dX6_even_5 ?_
    refine a_getR (q := 3) dX6_even_6 fa_X6_19 (hg.d (by decide)) rfl rfl ?_
    refine a_getI dX6_even_9 fa_X6_99 (hg.d (by decide)) rfl rfl ?_
    refine a_icmp_ge (tgt := 35) dX6_even_12 (by decide) (fun h12 => ?_) (fun h12 => ?_)
    · rw [if_pos h12] at hF
      obtain rfl := Option.some.inj hF
      exact K
    · rw [if_neg h12] at hF
      refine a_aload_0 dX6_even_15 ?_
      refine a_iload_2 dX6_even_16 ?_
      obtain ⟨x1, ex1, hF⟩ := ob_e hF
      refine a_iV1 dX6_even_17 cv_X6_288 (ct_X6_leavesAllAlone hg l2 μ ex1) (by decide) (hg.d (by decide)) rfl (Nat.le_of_ble_eq_true rfl) ?_
      refine a_if_eq (tgt := 29) dX6_even_20 (by decide) (fun h20 => ?_) (fun h20 => ?_)
      · rw [if_pos h20] at hF
        refine a_iinc_2 (c0 := 1) dX6_even_29 (by decide) (by decide) rfl ?_
        refine a_goto (tgt := 4) dX6_even_32 (by decide) ?_
        exact ih l1 (l2 + 1) _ hF K
      · rw [if_neg h20] at hF
        refine a_iload_1 dX6_even_23 ?_
        refine a_iconst (v := 1) dX6_even_24 (by decide) ?_
        refine a_iload_2 dX6_even_25 ?_
        refine a_shl dX6_even_26 ?_
        refine a_ior dX6_even_27 ?_
        obtain ⟨v2, ev2, hF⟩ := bd_e hF
        refine a_nm ev2 ?_
        refine a_istore_1 dX6_even_28 (by decide) rfl ?_
        refine a_iinc_2 (c0 := 1) dX6_even_29 (by decide) (by decide) rfl ?_
        refine a_goto (tgt := 4) dX6_even_32 (by decide) ?_
        exact ih v2 (l2 + 1) _ hF K
set_option maxHeartbeats 4000000 in
set_option maxRecDepth 100000 in
theorem ct_X6_even {g : GT} (hg : GC g)  (μ : MM)  {r : Int32} (hF : f_X6_even  μ = some r) : Ct g 4 mi_X6_even [.ref 0] μ (QI r μ) := by
  refine ct_of (k := 2) (by decide +kernel) rfl hg.1 rfl ?_
  show WA g 4 mi_X6_even 0 [some (.ref 0), none, none] [] μ (QI r μ)
  unfold f_X6_even at hF
  refine a_iconst (v := 0) dX6_even_0 (by decide) ?_
  refine a_istore_1 dX6_even_1 (by decide) rfl ?_
  refine a_iconst (v := 0) dX6_even_2 (by decide) ?_
  refine a_istore_2 dX6_even_3 (by decide) rfl ?_
  obtain ⟨z3, ez3, hF⟩ := ob_e hF
  refine ct_X6_even_L4 hg μ  FU 0 0 z3 ez3 ?_
  refine a_iload_1 dX6_even_35 ?_
  obtain rfl := Option.some.inj hF
  exact a_iret dX6_even_36 rfl ⟨rfl, rfl⟩
set_option maxHeartbeats 4000000 in
set_option maxRecDepth 100000 in
theorem ct_X6_hoursTo_L24 {g : GT} (hg : GC g) (l1 : Int32) (l2 : Int32) (l3 : Int32) (μ : MM)  {Q : Option Value → MM → Prop} : ∀ (n : Nat) (l4 : Int32) (l5 : Int32) (l6 : Int32) (z : (Int32 × Int32 × Int32) ⊕ (Int32)), f_X6_hoursTo_L24 l1 l2 l3 μ n l4 l5 l6 = some z → (match z with | .inl z => WA g 2 mi_X6_hoursTo 96 [some (.ref 0), some (.int l1), some (.int l2), some (.int l3), some (.int z.1), some (.int z.2.1), some (.int z.2.2), none] [] μ Q | .inr r => Q (some (.int r)) μ) → WA g 2 mi_X6_hoursTo 24 [some (.ref 0), some (.int l1), some (.int l2), some (.int l3), some (.int l4), some (.int l5), some (.int l6), none] [] μ Q := by
  intro n
  induction n with
  | zero => intro l4 l5 l6 z hF; exact absurd hF (by simp [f_X6_hoursTo_L24])
  | succ n ih =>
    intro l4 l5 l6 z hF K
    unfold f_X6_hoursTo_L24 at hF
    refine a_iload_6 dX6_hoursTo_24 ?_
    refine a_bipush (v := 9) dX6_hoursTo_26 (by decide) ?_
    refine a_icmp_ge (tgt := 96) dX6_hoursTo_28 (by decide) (fun h28 => ?_) (fun h28 => ?_)
    · rw [if_pos h28] at hF
      obtain rfl := Option.some.inj hF
      exact K
    · rw [if_neg h28] at hF
      refine a_iload_5 dX6_hoursTo_31 ?_
      refine a_if_eq (tgt := 96) dX6_hoursTo_33 (by decide) (fun h33 => ?_) (fun h33 => ?_)
      · rw [if_pos h33] at hF
        obtain rfl := Option.some.inj hF
        exact K
      · rw [if_neg h33] at hF
        refine a_aload_0 dX6_hoursTo_36 ?_
        refine a_getR (q := 3) dX6_hoursTo_37 fa_X6_19 (hg.d (by decide)) rfl rfl ?_
        refine a_getR (q := 4) dX6_hoursTo_40 fa_X6_148 (hg.d (by decide)) rfl rfl ?_
        refine a_iload_5 dX6_hoursTo_43 ?_
        obtain ⟨x2, ex2, hF⟩ := bd_e hF
        refine a_iS2 dX6_hoursTo_45 cs_X6_151 (ct_X6_cell hg 4 l5 μ ⟨hg.d (by decide), by decide, rfl⟩ ex2.symm) (by decide) (Nat.le_of_ble_eq_true rfl) ?_
        refine a_istore_7 dX6_hoursTo_48 (by decide) rfl ?_
        refine a_iload_4 dX6_hoursTo_50 ?_
        refine a_aload_0 dX6_hoursTo_52 ?_
        refine a_getR (q := 3) dX6_hoursTo_53 fa_X6_19 (hg.d (by decide)) rfl rfl ?_
        refine a_iload_5 dX6_hoursTo_56 ?_
        obtain ⟨x3, ex3, hF⟩ := bd_e hF
        refine a_iV1 dX6_hoursTo_58 cv_X6_285 (ct_X1_toGoFrom hg 3 l5 μ (Or.inl rfl) ex3.symm) (by decide) (hg.d (by decide)) rfl (Nat.le_of_ble_eq_true rfl) ?_
        refine a_iload_3 dX6_hoursTo_61 ?_
        refine a_iadd dX6_hoursTo_62 ?_
        refine a_iconst (v := 1) dX6_hoursTo_63 (by decide) ?_
        refine a_isub dX6_hoursTo_64 ?_
        refine a_iload_3 dX6_hoursTo_65 ?_
        obtain ⟨hz66, hF⟩ := gd_e hF
        refine a_idiv dX6_hoursTo_66 hz66 ?_
        refine a_iadd dX6_hoursTo_67 ?_
        obtain ⟨v4, ev4, hF⟩ := bd_e hF
        refine a_nm ev4 ?_
        refine a_istore_4 dX6_hoursTo_68 (by decide) rfl ?_
        refine a_iload_7 dX6_hoursTo_70 ?_
        refine a_iload_2 dX6_hoursTo_72 ?_
        refine a_icmp_ne (tgt := 79) dX6_hoursTo_73 (by decide) (fun h73 => ?_) (fun h73 => ?_)
        · rw [if_neg h73] at hF
          refine a_aload_0 dX6_hoursTo_79 ?_
          refine a_getR (q := 24) dX6_hoursTo_80 fa_X6_29 (hg.d (by decide)) rfl rfl ?_
          refine a_iload_7 dX6_hoursTo_83 ?_
          obtain ⟨x5, ex5, hF⟩ := bd_e hF
          refine a_iV1 dX6_hoursTo_85 cv_X6_278 (ct_X5_goesOnFrom hg 24 x2 μ ⟨0, by decide, rfl⟩ ex5.symm) (by decide) (hg.d (by decide)) rfl (Nat.le_of_ble_eq_true rfl) ?_
          refine a_istore_5 dX6_hoursTo_88 (by decide) rfl ?_
          refine a_iinc_6 (c0 := 1) dX6_hoursTo_90 (by decide) (by decide) rfl ?_
          refine a_goto (tgt := 24) dX6_hoursTo_93 (by decide) ?_
          exact a_wk2 (ih v4 x5 (l6 + 1) _ hF K) (by simp [wk])
        · rw [if_pos h73] at hF
          refine a_iload_4 dX6_hoursTo_76 ?_
          obtain rfl := Option.some.inj hF
          exact a_iret dX6_hoursTo_78 rfl K
set_option maxHeartbeats 4000000 in
set_option maxRecDepth 100000 in
theorem ct_X6_hoursTo {g : GT} (hg : GC g) (p1 : Int32) (p2 : Int32) (μ : MM)  {r : Int32} (hF : f_X6_hoursTo p1 p2 μ = some r) : Ct g 2 mi_X6_hoursTo [.ref 0, .int p1, .int p2] μ (QI r μ) := by
  refine ct_of (k := 5) (by decide +kernel) rfl hg.1 rfl ?_
  show WA g 2 mi_X6_hoursTo 0 [some (.ref 0), some (.int p1), some (.int p2), none, none, none, none, none] [] μ (QI r μ)
  unfold f_X6_hoursTo at hF
  refine a_aload_0 dX6_hoursTo_0 ?_
  refine a_getR (q := 24) dX6_hoursTo_1 fa_X6_29 (hg.d (by decide)) rfl rfl ?_
  refine a_getI dX6_hoursTo_4 fa_X6_111 (hg.d (by decide)) rfl rfl ?_
  obtain ⟨v1, ev1, hF⟩ := bd_e hF
  refine a_nm ev1 ?_
  refine a_istore_3 dX6_hoursTo_7 (by decide) rfl ?_
  refine a_iload_3 dX6_hoursTo_8 ?_
  refine a_iconst (v := 1) dX6_hoursTo_9 (by decide) ?_
  refine a_icmp_ge (tgt := 15) dX6_hoursTo_10 (by decide) (fun h10 => ?_) (fun h10 => ?_)
  · rw [if_pos h10] at hF
    refine a_iconst (v := 0) dX6_hoursTo_15 (by decide) ?_
    refine a_istore_4 dX6_hoursTo_16 (by decide) rfl ?_
    refine a_iload_1 dX6_hoursTo_18 ?_
    refine a_istore_5 dX6_hoursTo_19 (by decide) rfl ?_
    refine a_iconst (v := 0) dX6_hoursTo_21 (by decide) ?_
    refine a_istore_6 dX6_hoursTo_22 (by decide) rfl ?_
    obtain ⟨z6, ez6, hF⟩ := ob_e hF
    refine ct_X6_hoursTo_L24 hg p1 p2 v1 μ  FU 0 p1 0 z6 ez6 ?_
    rcases z6 with y7 | r
    · rw [Sum.elim_inl] at hF
      dsimp only
      refine a_iconst (v := (-1)) dX6_hoursTo_96 (by decide) ?_
      obtain rfl := Option.some.inj hF
      exact a_iret dX6_hoursTo_97 rfl ⟨rfl, rfl⟩
    · rw [Sum.elim_inr] at hF
      dsimp only
      obtain rfl := Option.some.inj hF
      exact ⟨rfl, rfl⟩
  · rw [if_neg h10] at hF
    refine a_iconst (v := (-1)) dX6_hoursTo_13 (by decide) ?_
    obtain rfl := Option.some.inj hF
    exact a_iret dX6_hoursTo_14 rfl ⟨rfl, rfl⟩
set_option maxHeartbeats 4000000 in
set_option maxRecDepth 100000 in
theorem ct_X6_longest_L6 {g : GT} (hg : GC g) (μ : MM)  {Q : Option Value → MM → Prop} : ∀ (n : Nat) (l1 : Int32) (l2 : Int32) (l3 : Int32) (z : Int32 × Int32 × Int32), f_X6_longest_L6 μ n l1 l2 l3 = some z → (WA g 3 mi_X6_longest 42 [some (.ref 0), some (.int z.1), some (.int z.2.1), some (.int z.2.2), none] [] μ Q) → WA g 3 mi_X6_longest 6 [some (.ref 0), some (.int l1), some (.int l2), some (.int l3), none] [] μ Q := by
  intro n
  induction n with
  | zero => intro l1 l2 l3 z hF; exact absurd hF (by simp [f_X6_longest_L6])
  | succ n ih =>
    intro l1 l2 l3 z hF K
    unfold f_X6_longest_L6 at hF
    refine a_iload_3 dX6_longest_6 ?_
    refine a_aload_0 dX6_longest_7 ?_
    refine a_getR (q := 3) dX6_longest_8 fa_X6_19 (hg.d (by decide)) rfl rfl ?_
    refine a_getI dX6_longest_11 fa_X6_99 (hg.d (by decide)) rfl rfl ?_
    refine a_icmp_ge (tgt := 42) dX6_longest_14 (by decide) (fun h14 => ?_) (fun h14 => ?_)
    · rw [if_pos h14] at hF
      obtain rfl := Option.some.inj hF
      exact K
    · rw [if_neg h14] at hF
      refine a_aload_0 dX6_longest_17 ?_
      refine a_iload_3 dX6_longest_18 ?_
      refine a_iconst (v := 0) dX6_longest_19 (by decide) ?_
      obtain ⟨x1, ex1, hF⟩ := ob_e hF
      refine a_iV2 dX6_longest_20 cv_X6_227 (ct_X6_hoursTo hg l3 0 μ ex1) (by decide) (hg.d (by decide)) rfl (Nat.le_of_ble_eq_true rfl) ?_
      refine a_istore_4 dX6_longest_23 (by decide) rfl ?_
      refine a_iload_4 dX6_longest_25 ?_
      refine a_iload_1 dX6_longest_27 ?_
      refine a_icmp_le (tgt := 36) dX6_longest_28 (by decide) (fun h28 => ?_) (fun h28 => ?_)
      · rw [if_pos h28] at hF
        refine a_iinc_3 (c0 := 1) dX6_longest_36 (by decide) (by decide) rfl ?_
        refine a_goto (tgt := 6) dX6_longest_39 (by decide) ?_
        exact a_wk2 (ih l1 l2 (l3 + 1) _ hF K) (by simp [wk])
      · rw [if_neg h28] at hF
        refine a_iload_4 dX6_longest_31 ?_
        refine a_istore_1 dX6_longest_33 (by decide) rfl ?_
        refine a_iload_3 dX6_longest_34 ?_
        refine a_istore_2 dX6_longest_35 (by decide) rfl ?_
        refine a_iinc_3 (c0 := 1) dX6_longest_36 (by decide) (by decide) rfl ?_
        refine a_goto (tgt := 6) dX6_longest_39 (by decide) ?_
        exact a_wk2 (ih x1 l3 (l3 + 1) _ hF K) (by simp [wk])
set_option maxHeartbeats 4000000 in
set_option maxRecDepth 100000 in
theorem ct_X6_longest {g : GT} (hg : GC g)  (μ : MM)  {r : Int32} (hF : f_X6_longest  μ = some r) : Ct g 3 mi_X6_longest [.ref 0] μ (QI r μ) := by
  refine ct_of (k := 4) (by decide +kernel) rfl hg.1 rfl ?_
  show WA g 3 mi_X6_longest 0 [some (.ref 0), none, none, none, none] [] μ (QI r μ)
  unfold f_X6_longest at hF
  refine a_iconst (v := (-1)) dX6_longest_0 (by decide) ?_
  refine a_istore_1 dX6_longest_1 (by decide) rfl ?_
  refine a_iconst (v := (-1)) dX6_longest_2 (by decide) ?_
  refine a_istore_2 dX6_longest_3 (by decide) rfl ?_
  refine a_iconst (v := 0) dX6_longest_4 (by decide) ?_
  refine a_istore_3 dX6_longest_5 (by decide) rfl ?_
  obtain ⟨z2, ez2, hF⟩ := ob_e hF
  refine ct_X6_longest_L6 hg μ  FU (-1) (-1) 0 z2 ez2 ?_
  refine a_iload_2 dX6_longest_42 ?_
  obtain rfl := Option.some.inj hF
  exact a_iret dX6_longest_43 rfl ⟨rfl, rfl⟩
set_option maxHeartbeats 4000000 in
set_option maxRecDepth 100000 in
theorem ct_X6_told {g : GT} (hg : GC g) (p1 : Int32) (μ : MM)  {r : Int32} (hF : f_X6_told p1 μ = some r) : Ct g 5 mi_X6_told [.ref 0, .int p1] μ (QI r μ) := by
  refine ct_of (k := 0) (by decide +kernel) rfl hg.1 rfl ?_
  show WA g 5 mi_X6_told 0 [some (.ref 0), some (.int p1)] [] μ (QI r μ)
  unfold f_X6_told at hF
  refine a_iload_1 dX6_told_0 ?_
  by_cases h1_0 : p1 = 0
  · rw [if_pos h1_0] at hF
    refine a_tsIn (tgt := 84) dX6_told_1 h1_0 (by decide) (by decide) rfl (by decide) ?_
    refine a_aload_0 dX6_told_84 ?_
    refine a_getR (q := 3) dX6_told_85 fa_X6_19 (hg.d (by decide)) rfl rfl ?_
    refine a_getI dX6_told_88 fa_X6_105 (hg.d (by decide)) rfl rfl ?_
    obtain rfl := Option.some.inj hF
    exact a_iret dX6_told_91 rfl ⟨rfl, rfl⟩
  · rw [if_neg h1_0] at hF
    by_cases h1_1 : p1 = 1
    · rw [if_pos h1_1] at hF
      refine a_tsIn (tgt := 92) dX6_told_1 h1_1 (by decide) (by decide) rfl (by decide) ?_
      refine a_aload_0 dX6_told_92 ?_
      refine a_getR (q := 3) dX6_told_93 fa_X6_19 (hg.d (by decide)) rfl rfl ?_
      refine a_getI dX6_told_96 fa_X6_99 (hg.d (by decide)) rfl rfl ?_
      obtain rfl := Option.some.inj hF
      exact a_iret dX6_told_99 rfl ⟨rfl, rfl⟩
    · rw [if_neg h1_1] at hF
      by_cases h1_2 : p1 = 2
      · rw [if_pos h1_2] at hF
        refine a_tsIn (tgt := 100) dX6_told_1 h1_2 (by decide) (by decide) rfl (by decide) ?_
        refine a_aload_0 dX6_told_100 ?_
        refine a_getR (q := 1) dX6_told_101 fa_X6_10 (hg.d (by decide)) rfl rfl ?_
        refine a_getI dX6_told_104 fa_X6_66 (hg.d (by decide)) rfl rfl ?_
        obtain rfl := Option.some.inj hF
        exact a_iret dX6_told_107 rfl ⟨rfl, rfl⟩
      · rw [if_neg h1_2] at hF
        by_cases h1_3 : p1 = 3
        · rw [if_pos h1_3] at hF
          refine a_tsIn (tgt := 108) dX6_told_1 h1_3 (by decide) (by decide) rfl (by decide) ?_
          refine a_aload_0 dX6_told_108 ?_
          refine a_getR (q := 24) dX6_told_109 fa_X6_29 (hg.d (by decide)) rfl rfl ?_
          refine a_getI dX6_told_112 fa_X6_108 (hg.d (by decide)) rfl rfl ?_
          obtain rfl := Option.some.inj hF
          exact a_iret dX6_told_115 rfl ⟨rfl, rfl⟩
        · rw [if_neg h1_3] at hF
          by_cases h1_4 : p1 = 4
          · rw [if_pos h1_4] at hF
            refine a_tsIn (tgt := 116) dX6_told_1 h1_4 (by decide) (by decide) rfl (by decide) ?_
            refine a_aload_0 dX6_told_116 ?_
            refine a_getR (q := 24) dX6_told_117 fa_X6_29 (hg.d (by decide)) rfl rfl ?_
            refine a_getI dX6_told_120 fa_X6_111 (hg.d (by decide)) rfl rfl ?_
            obtain rfl := Option.some.inj hF
            exact a_iret dX6_told_123 rfl ⟨rfl, rfl⟩
          · rw [if_neg h1_4] at hF
            by_cases h1_5 : p1 = 5
            · rw [if_pos h1_5] at hF
              refine a_tsIn (tgt := 124) dX6_told_1 h1_5 (by decide) (by decide) rfl (by decide) ?_
              refine a_aload_0 dX6_told_124 ?_
              refine a_getR (q := 24) dX6_told_125 fa_X6_29 (hg.d (by decide)) rfl rfl ?_
              refine a_getI dX6_told_128 fa_X6_114 (hg.d (by decide)) rfl rfl ?_
              refine a_if_eq (tgt := 138) dX6_told_131 (by decide) (fun h131 => ?_) (fun h131 => ?_)
              · rw [if_pos h131] at hF
                refine a_iconst (v := 0) dX6_told_138 (by decide) ?_
                obtain rfl := Option.some.inj hF
                exact a_iret dX6_told_139 rfl ⟨rfl, rfl⟩
              · rw [if_neg h131] at hF
                refine a_iconst (v := 1) dX6_told_134 (by decide) ?_
                refine a_goto (tgt := 139) dX6_told_135 (by decide) ?_
                obtain rfl := Option.some.inj hF
                exact a_iret dX6_told_139 rfl ⟨rfl, rfl⟩
            · rw [if_neg h1_5] at hF
              by_cases h1_6 : p1 = 6
              · rw [if_pos h1_6] at hF
                refine a_tsIn (tgt := 140) dX6_told_1 h1_6 (by decide) (by decide) rfl (by decide) ?_
                refine a_aload_0 dX6_told_140 ?_
                refine a_getR (q := 24) dX6_told_141 fa_X6_29 (hg.d (by decide)) rfl rfl ?_
                refine a_getI dX6_told_144 fa_X6_118 (hg.d (by decide)) rfl rfl ?_
                obtain rfl := Option.some.inj hF
                exact a_iret dX6_told_147 rfl ⟨rfl, rfl⟩
              · rw [if_neg h1_6] at hF
                by_cases h1_7 : p1 = 7
                · rw [if_pos h1_7] at hF
                  refine a_tsIn (tgt := 148) dX6_told_1 h1_7 (by decide) (by decide) rfl (by decide) ?_
                  refine a_aload_0 dX6_told_148 ?_
                  refine a_getR (q := 24) dX6_told_149 fa_X6_29 (hg.d (by decide)) rfl rfl ?_
                  refine a_getI dX6_told_152 fa_X6_121 (hg.d (by decide)) rfl rfl ?_
                  obtain rfl := Option.some.inj hF
                  exact a_iret dX6_told_155 rfl ⟨rfl, rfl⟩
                · rw [if_neg h1_7] at hF
                  by_cases h1_8 : p1 = 8
                  · rw [if_pos h1_8] at hF
                    refine a_tsIn (tgt := 156) dX6_told_1 h1_8 (by decide) (by decide) rfl (by decide) ?_
                    refine a_aload_0 dX6_told_156 ?_
                    refine a_getR (q := 24) dX6_told_157 fa_X6_29 (hg.d (by decide)) rfl rfl ?_
                    refine a_getI dX6_told_160 fa_X6_124 (hg.d (by decide)) rfl rfl ?_
                    obtain rfl := Option.some.inj hF
                    exact a_iret dX6_told_163 rfl ⟨rfl, rfl⟩
                  · rw [if_neg h1_8] at hF
                    by_cases h1_9 : p1 = 9
                    · rw [if_pos h1_9] at hF
                      refine a_tsIn (tgt := 164) dX6_told_1 h1_9 (by decide) (by decide) rfl (by decide) ?_
                      refine a_aload_0 dX6_told_164 ?_
                      obtain ⟨x1, ex1, hF⟩ := ob_e hF
                      refine a_iV0 dX6_told_165 cv_X6_127 (ct_X6_loudest hg μ ex1) (by decide) (hg.d (by decide)) rfl (Nat.le_of_ble_eq_true rfl) ?_
                      obtain rfl := Option.some.inj hF
                      exact a_iret dX6_told_168 rfl ⟨rfl, rfl⟩
                    · rw [if_neg h1_9] at hF
                      by_cases h1_10 : p1 = 10
                      · rw [if_pos h1_10] at hF
                        refine a_tsIn (tgt := 169) dX6_told_1 h1_10 (by decide) (by decide) rfl (by decide) ?_
                        refine a_aload_0 dX6_told_169 ?_
                        obtain ⟨x2, ex2, hF⟩ := ob_e hF
                        refine a_iV0 dX6_told_170 cv_X6_131 (ct_X6_bottom hg μ ex2) (by decide) (hg.d (by decide)) rfl (Nat.le_of_ble_eq_true rfl) ?_
                        obtain rfl := Option.some.inj hF
                        exact a_iret dX6_told_173 rfl ⟨rfl, rfl⟩
                      · rw [if_neg h1_10] at hF
                        by_cases h1_11 : p1 = 11
                        · rw [if_pos h1_11] at hF
                          refine a_tsIn (tgt := 174) dX6_told_1 h1_11 (by decide) (by decide) rfl (by decide) ?_
                          refine a_aload_0 dX6_told_174 ?_
                          obtain ⟨x3, ex3, hF⟩ := ob_e hF
                          refine a_iV0 dX6_told_175 cv_X6_134 (ct_X6_even hg μ ex3) (by decide) (hg.d (by decide)) rfl (Nat.le_of_ble_eq_true rfl) ?_
                          obtain rfl := Option.some.inj hF
                          exact a_iret dX6_told_178 rfl ⟨rfl, rfl⟩
                        · rw [if_neg h1_11] at hF
                          by_cases h1_12 : p1 = 12
                          · rw [if_pos h1_12] at hF
                            refine a_tsIn (tgt := 179) dX6_told_1 h1_12 (by decide) (by decide) rfl (by decide) ?_
                            refine a_aload_0 dX6_told_179 ?_
                            obtain ⟨x4, ex4, hF⟩ := ob_e hF
                            refine a_iV0 dX6_told_180 cv_X6_137 (ct_X6_longest hg μ ex4) (by decide) (hg.d (by decide)) rfl (Nat.le_of_ble_eq_true rfl) ?_
                            obtain rfl := Option.some.inj hF
                            exact a_iret dX6_told_183 rfl ⟨rfl, rfl⟩
                          · rw [if_neg h1_12] at hF
                            by_cases h1_13 : p1 = 13
                            · rw [if_pos h1_13] at hF
                              refine a_tsIn (tgt := 184) dX6_told_1 h1_13 (by decide) (by decide) rfl (by decide) ?_
                              refine a_aload_0 dX6_told_184 ?_
                              refine a_getR (q := 24) dX6_told_185 fa_X6_29 (hg.d (by decide)) rfl rfl ?_
                              refine a_getI dX6_told_188 fa_X6_140 (hg.d (by decide)) rfl rfl ?_
                              obtain rfl := Option.some.inj hF
                              exact a_iret dX6_told_191 rfl ⟨rfl, rfl⟩
                            · rw [if_neg h1_13] at hF
                              by_cases h1_14 : p1 = 14
                              · rw [if_pos h1_14] at hF
                                refine a_tsIn (tgt := 192) dX6_told_1 h1_14 (by decide) (by decide) rfl (by decide) ?_
                                refine a_aload_0 dX6_told_192 ?_
                                refine a_getR (q := 17) dX6_told_193 fa_X6_54 (hg.d (by decide)) rfl rfl ?_
                                refine a_getI dX6_told_196 fa_X6_91 (hg.d (by decide)) rfl rfl ?_
                                obtain rfl := Option.some.inj hF
                                exact a_iret dX6_told_199 rfl ⟨rfl, rfl⟩
                              · rw [if_neg h1_14] at hF
                                by_cases h1_15 : p1 = 15
                                · rw [if_pos h1_15] at hF
                                  refine a_tsIn (tgt := 200) dX6_told_1 h1_15 (by decide) (by decide) rfl (by decide) ?_
                                  refine a_aload_0 dX6_told_200 ?_
                                  refine a_getR (q := 21) dX6_told_201 fa_X6_61 (hg.d (by decide)) rfl rfl ?_
                                  refine a_getI dX6_told_204 fa_X6_94 (hg.d (by decide)) rfl rfl ?_
                                  obtain rfl := Option.some.inj hF
                                  exact a_iret dX6_told_207 rfl ⟨rfl, rfl⟩
                                · rw [if_neg h1_15] at hF
                                  by_cases h1_16 : p1 = 16
                                  · rw [if_pos h1_16] at hF
                                    refine a_tsIn (tgt := 208) dX6_told_1 h1_16 (by decide) (by decide) rfl (by decide) ?_
                                    refine a_aload_0 dX6_told_208 ?_
                                    refine a_getR (q := 13) dX6_told_209 fa_X6_39 (hg.d (by decide)) rfl rfl ?_
                                    refine a_getI dX6_told_212 fa_X6_98 (hg.d (by decide)) rfl rfl ?_
                                    obtain rfl := Option.some.inj hF
                                    exact a_iret dX6_told_215 rfl ⟨rfl, rfl⟩
                                  · rw [if_neg h1_16] at hF
                                    refine a_tsOut (tgt := 216) dX6_told_1 (by have q0 := lv_neT h1_0 (show Int32.toInt 0 = 0 by decide); have q1 := lv_neT h1_1 (show Int32.toInt 1 = 1 by decide); have q2 := lv_neT h1_2 (show Int32.toInt 2 = 2 by decide); have q3 := lv_neT h1_3 (show Int32.toInt 3 = 3 by decide); have q4 := lv_neT h1_4 (show Int32.toInt 4 = 4 by decide); have q5 := lv_neT h1_5 (show Int32.toInt 5 = 5 by decide); have q6 := lv_neT h1_6 (show Int32.toInt 6 = 6 by decide); have q7 := lv_neT h1_7 (show Int32.toInt 7 = 7 by decide); have q8 := lv_neT h1_8 (show Int32.toInt 8 = 8 by decide); have q9 := lv_neT h1_9 (show Int32.toInt 9 = 9 by decide); have q10 := lv_neT h1_10 (show Int32.toInt 10 = 10 by decide); have q11 := lv_neT h1_11 (show Int32.toInt 11 = 11 by decide); have q12 := lv_neT h1_12 (show Int32.toInt 12 = 12 by decide); have q13 := lv_neT h1_13 (show Int32.toInt 13 = 13 by decide); have q14 := lv_neT h1_14 (show Int32.toInt 14 = 14 by decide); have q15 := lv_neT h1_15 (show Int32.toInt 15 = 15 by decide); have q16 := lv_neT h1_16 (show Int32.toInt 16 = 16 by decide); omega) (by decide) ?_
                                    refine a_ldc dX6_told_216 k_X6_65 ?_
                                    obtain rfl := Option.some.inj hF
                                    exact a_iret dX6_told_218 rfl ⟨rfl, rfl⟩
set_option maxHeartbeats 4000000 in
set_option maxRecDepth 100000 in
theorem ct_X6_isFarm {g : GT} (hg : GC g) (p1 : Int32) (μ : MM)  {r : Int32} (hF : f_X6_isFarm p1 μ = r) : Ct g 0 mi_X6_isFarm [.ref 0, .int p1] μ (QI r μ) := by
  refine ct_of (k := 0) (by decide +kernel) rfl hg.1 rfl ?_
  show WA g 0 mi_X6_isFarm 0 [some (.ref 0), some (.int p1)] [] μ (QI r μ)
  unfold f_X6_isFarm at hF
  refine a_iload_1 dX6_isFarm_0 ?_
  refine a_if_lt (tgt := 19) dX6_isFarm_1 (by decide) (fun h1 => ?_) (fun h1 => ?_)
  · rw [if_pos h1] at hF
    refine a_iconst (v := 0) dX6_isFarm_19 (by decide) ?_
    subst hF
    exact a_zret dX6_isFarm_20 rfl (Or.inl rfl) ⟨rfl, rfl⟩
  · rw [if_neg h1] at hF
    refine a_iload_1 dX6_isFarm_4 ?_
    refine a_aload_0 dX6_isFarm_5 ?_
    refine a_getR (q := 3) dX6_isFarm_6 fa_X6_19 (hg.d (by decide)) rfl rfl ?_
    refine a_getI dX6_isFarm_9 fa_X6_99 (hg.d (by decide)) rfl rfl ?_
    refine a_icmp_ge (tgt := 19) dX6_isFarm_12 (by decide) (fun h12 => ?_) (fun h12 => ?_)
    · rw [if_pos h12] at hF
      refine a_iconst (v := 0) dX6_isFarm_19 (by decide) ?_
      subst hF
      exact a_zret dX6_isFarm_20 rfl (Or.inl rfl) ⟨rfl, rfl⟩
    · rw [if_neg h12] at hF
      refine a_iconst (v := 1) dX6_isFarm_15 (by decide) ?_
      refine a_goto (tgt := 20) dX6_isFarm_16 (by decide) ?_
      subst hF
      exact a_zret dX6_isFarm_20 rfl (Or.inr rfl) ⟨rfl, rfl⟩
set_option maxHeartbeats 4000000 in
set_option maxRecDepth 100000 in
theorem ct_X6_farm {g : GT} (hg : GC g) (p1 : Int32) (p2 : Int32) (μ : MM)  {r : Int32} (hF : f_X6_farm p1 p2 μ = r) : Ct g 1 mi_X6_farm [.ref 0, .int p1, .int p2] μ (QI r μ) := by
  refine ct_of (k := 0) (by decide +kernel) rfl hg.1 rfl ?_
  show WA g 1 mi_X6_farm 0 [some (.ref 0), some (.int p1), some (.int p2)] [] μ (QI r μ)
  unfold f_X6_farm at hF
  refine a_aload_0 dX6_farm_0 ?_
  refine a_iload_1 dX6_farm_1 ?_
  obtain ⟨x1, ex1, hF⟩ := bd_e hF
  refine a_iV1 dX6_farm_2 cv_X6_143 (ct_X6_isFarm hg p1 μ ex1.symm) (by decide) (hg.d (by decide)) rfl (Nat.le_of_ble_eq_true rfl) ?_
  refine a_if_ne (tgt := 11) dX6_farm_5 (by decide) (fun h5 => ?_) (fun h5 => ?_)
  · rw [if_neg h5] at hF
    refine a_iload_2 dX6_farm_11 ?_
    by_cases h12_0 : p2 = 0
    · rw [if_pos h12_0] at hF
      refine a_tsIn (tgt := 52) dX6_farm_12 h12_0 (by decide) (by decide) rfl (by decide) ?_
      refine a_iload_1 dX6_farm_52 ?_
      refine a_if_ne (tgt := 60) dX6_farm_53 (by decide) (fun h53 => ?_) (fun h53 => ?_)
      · rw [if_neg h53] at hF
        refine a_aload_0 dX6_farm_60 ?_
        refine a_getR (q := 3) dX6_farm_61 fa_X6_19 (hg.d (by decide)) rfl rfl ?_
        refine a_getR (q := 4) dX6_farm_64 fa_X6_148 (hg.d (by decide)) rfl rfl ?_
        refine a_iload_1 dX6_farm_67 ?_
        obtain ⟨x2, ex2, hF⟩ := bd_e hF
        refine a_iS2 dX6_farm_68 cs_X6_151 (ct_X6_cell hg 4 p1 μ ⟨hg.d (by decide), by decide, rfl⟩ ex2.symm) (by decide) (Nat.le_of_ble_eq_true rfl) ?_
        subst hF
        exact a_iret dX6_farm_71 rfl ⟨rfl, rfl⟩
      · rw [if_pos h53] at hF
        refine a_iconst (v := (-1)) dX6_farm_56 (by decide) ?_
        refine a_goto (tgt := 71) dX6_farm_57 (by decide) ?_
        subst hF
        exact a_iret dX6_farm_71 rfl ⟨rfl, rfl⟩
    · rw [if_neg h12_0] at hF
      by_cases h12_1 : p2 = 1
      · rw [if_pos h12_1] at hF
        refine a_tsIn (tgt := 72) dX6_farm_12 h12_1 (by decide) (by decide) rfl (by decide) ?_
        refine a_aload_0 dX6_farm_72 ?_
        refine a_getR (q := 3) dX6_farm_73 fa_X6_19 (hg.d (by decide)) rfl rfl ?_
        refine a_getR (q := 5) dX6_farm_76 fa_X6_155 (hg.d (by decide)) rfl rfl ?_
        refine a_iload_1 dX6_farm_79 ?_
        obtain ⟨x3, ex3, hF⟩ := bd_e hF
        refine a_iS2 dX6_farm_80 cs_X6_151 (ct_X6_cell hg 5 p1 μ ⟨hg.d (by decide), by decide, rfl⟩ ex3.symm) (by decide) (Nat.le_of_ble_eq_true rfl) ?_
        subst hF
        exact a_iret dX6_farm_83 rfl ⟨rfl, rfl⟩
      · rw [if_neg h12_1] at hF
        by_cases h12_2 : p2 = 2
        · rw [if_pos h12_2] at hF
          refine a_tsIn (tgt := 84) dX6_farm_12 h12_2 (by decide) (by decide) rfl (by decide) ?_
          refine a_aload_0 dX6_farm_84 ?_
          refine a_getR (q := 24) dX6_farm_85 fa_X6_29 (hg.d (by decide)) rfl rfl ?_
          refine a_getR (q := 27) dX6_farm_88 fa_X6_158 (hg.d (by decide)) rfl rfl ?_
          refine a_iload_1 dX6_farm_91 ?_
          obtain ⟨x4, ex4, hF⟩ := bd_e hF
          refine a_iS2 dX6_farm_92 cs_X6_151 (ct_X6_cell hg 27 p1 μ ⟨hg.d (by decide), by decide, rfl⟩ ex4.symm) (by decide) (Nat.le_of_ble_eq_true rfl) ?_
          subst hF
          exact a_iret dX6_farm_95 rfl ⟨rfl, rfl⟩
        · rw [if_neg h12_2] at hF
          by_cases h12_3 : p2 = 3
          · rw [if_pos h12_3] at hF
            refine a_tsIn (tgt := 96) dX6_farm_12 h12_3 (by decide) (by decide) rfl (by decide) ?_
            refine a_aload_0 dX6_farm_96 ?_
            refine a_getR (q := 3) dX6_farm_97 fa_X6_19 (hg.d (by decide)) rfl rfl ?_
            refine a_getR (q := 7) dX6_farm_100 fa_X6_161 (hg.d (by decide)) rfl rfl ?_
            refine a_iload_1 dX6_farm_103 ?_
            obtain ⟨x5, ex5, hF⟩ := bd_e hF
            refine a_iS2 dX6_farm_104 cs_X6_151 (ct_X6_cell hg 7 p1 μ ⟨hg.d (by decide), by decide, rfl⟩ ex5.symm) (by decide) (Nat.le_of_ble_eq_true rfl) ?_
            subst hF
            exact a_iret dX6_farm_107 rfl ⟨rfl, rfl⟩
          · rw [if_neg h12_3] at hF
            by_cases h12_4 : p2 = 4
            · rw [if_pos h12_4] at hF
              refine a_tsIn (tgt := 108) dX6_farm_12 h12_4 (by decide) (by decide) rfl (by decide) ?_
              refine a_aload_0 dX6_farm_108 ?_
              refine a_getR (q := 24) dX6_farm_109 fa_X6_29 (hg.d (by decide)) rfl rfl ?_
              refine a_getR (q := 28) dX6_farm_112 fa_X6_164 (hg.d (by decide)) rfl rfl ?_
              refine a_iload_1 dX6_farm_115 ?_
              obtain ⟨x6, ex6, hF⟩ := bd_e hF
              refine a_iS2 dX6_farm_116 cs_X6_151 (ct_X6_cell hg 28 p1 μ ⟨hg.d (by decide), by decide, rfl⟩ ex6.symm) (by decide) (Nat.le_of_ble_eq_true rfl) ?_
              subst hF
              exact a_iret dX6_farm_119 rfl ⟨rfl, rfl⟩
            · rw [if_neg h12_4] at hF
              by_cases h12_5 : p2 = 5
              · rw [if_pos h12_5] at hF
                refine a_tsIn (tgt := 120) dX6_farm_12 h12_5 (by decide) (by decide) rfl (by decide) ?_
                refine a_aload_0 dX6_farm_120 ?_
                refine a_getR (q := 24) dX6_farm_121 fa_X6_29 (hg.d (by decide)) rfl rfl ?_
                refine a_getR (q := 29) dX6_farm_124 fa_X6_167 (hg.d (by decide)) rfl rfl ?_
                refine a_iload_1 dX6_farm_127 ?_
                obtain ⟨x7, ex7, hF⟩ := bd_e hF
                refine a_iS2 dX6_farm_128 cs_X6_151 (ct_X6_cell hg 29 p1 μ ⟨hg.d (by decide), by decide, rfl⟩ ex7.symm) (by decide) (Nat.le_of_ble_eq_true rfl) ?_
                subst hF
                exact a_iret dX6_farm_131 rfl ⟨rfl, rfl⟩
              · rw [if_neg h12_5] at hF
                refine a_tsOut (tgt := 132) dX6_farm_12 (by have q0 := lv_neT h12_0 (show Int32.toInt 0 = 0 by decide); have q1 := lv_neT h12_1 (show Int32.toInt 1 = 1 by decide); have q2 := lv_neT h12_2 (show Int32.toInt 2 = 2 by decide); have q3 := lv_neT h12_3 (show Int32.toInt 3 = 3 by decide); have q4 := lv_neT h12_4 (show Int32.toInt 4 = 4 by decide); have q5 := lv_neT h12_5 (show Int32.toInt 5 = 5 by decide); omega) (by decide) ?_
                refine a_ldc dX6_farm_132 k_X6_65 ?_
                subst hF
                exact a_iret dX6_farm_134 rfl ⟨rfl, rfl⟩
  · rw [if_pos h5] at hF
    refine a_ldc dX6_farm_8 k_X6_147 ?_
    subst hF
    exact a_iret dX6_farm_10 rfl ⟨rfl, rfl⟩
set_option maxHeartbeats 4000000 in
set_option maxRecDepth 100000 in
theorem ct_X6_isTalk {g : GT} (hg : GC g) (p1 : Int32) (μ : MM)  {r : Int32} (hF : f_X6_isTalk p1 μ = r) : Ct g 0 mi_X6_isTalk [.ref 0, .int p1] μ (QI r μ) := by
  refine ct_of (k := 0) (by decide +kernel) rfl hg.1 rfl ?_
  show WA g 0 mi_X6_isTalk 0 [some (.ref 0), some (.int p1)] [] μ (QI r μ)
  unfold f_X6_isTalk at hF
  refine a_iload_1 dX6_isTalk_0 ?_
  refine a_if_lt (tgt := 19) dX6_isTalk_1 (by decide) (fun h1 => ?_) (fun h1 => ?_)
  · rw [if_pos h1] at hF
    refine a_iconst (v := 0) dX6_isTalk_19 (by decide) ?_
    subst hF
    exact a_zret dX6_isTalk_20 rfl (Or.inl rfl) ⟨rfl, rfl⟩
  · rw [if_neg h1] at hF
    refine a_iload_1 dX6_isTalk_4 ?_
    refine a_aload_0 dX6_isTalk_5 ?_
    refine a_getR (q := 24) dX6_isTalk_6 fa_X6_29 (hg.d (by decide)) rfl rfl ?_
    refine a_getI dX6_isTalk_9 fa_X6_121 (hg.d (by decide)) rfl rfl ?_
    refine a_icmp_ge (tgt := 19) dX6_isTalk_12 (by decide) (fun h12 => ?_) (fun h12 => ?_)
    · rw [if_pos h12] at hF
      refine a_iconst (v := 0) dX6_isTalk_19 (by decide) ?_
      subst hF
      exact a_zret dX6_isTalk_20 rfl (Or.inl rfl) ⟨rfl, rfl⟩
    · rw [if_neg h12] at hF
      refine a_iconst (v := 1) dX6_isTalk_15 (by decide) ?_
      refine a_goto (tgt := 20) dX6_isTalk_16 (by decide) ?_
      subst hF
      exact a_zret dX6_isTalk_20 rfl (Or.inr rfl) ⟨rfl, rfl⟩
set_option maxHeartbeats 4000000 in
set_option maxRecDepth 100000 in
theorem ct_X6_talk {g : GT} (hg : GC g) (p1 : Int32) (p2 : Int32) (μ : MM)  {r : Int32} (hF : f_X6_talk p1 p2 μ = r) : Ct g 2 mi_X6_talk [.ref 0, .int p1, .int p2] μ (QI r μ) := by
  refine ct_of (k := 0) (by decide +kernel) rfl hg.1 rfl ?_
  show WA g 2 mi_X6_talk 0 [some (.ref 0), some (.int p1), some (.int p2)] [] μ (QI r μ)
  unfold f_X6_talk at hF
  refine a_aload_0 dX6_talk_0 ?_
  refine a_iload_1 dX6_talk_1 ?_
  obtain ⟨x1, ex1, hF⟩ := bd_e hF
  refine a_iV1 dX6_talk_2 cv_X6_170 (ct_X6_isTalk hg p1 μ ex1.symm) (by decide) (hg.d (by decide)) rfl (Nat.le_of_ble_eq_true rfl) ?_
  refine a_if_ne (tgt := 11) dX6_talk_5 (by decide) (fun h5 => ?_) (fun h5 => ?_)
  · rw [if_neg h5] at hF
    refine a_iload_2 dX6_talk_11 ?_
    refine a_if_lt (tgt := 20) dX6_talk_12 (by decide) (fun h12 => ?_) (fun h12 => ?_)
    · rw [if_pos h12] at hF
      refine a_ldc dX6_talk_20 k_X6_65 ?_
      subst hF
      exact a_iret dX6_talk_22 rfl ⟨rfl, rfl⟩
    · rw [if_neg h12] at hF
      refine a_iload_2 dX6_talk_15 ?_
      refine a_iconst (v := 4) dX6_talk_16 (by decide) ?_
      refine a_icmp_lt (tgt := 23) dX6_talk_17 (by decide) (fun h17 => ?_) (fun h17 => ?_)
      · rw [if_pos h17] at hF
        refine a_aload_0 dX6_talk_23 ?_
        refine a_getR (q := 24) dX6_talk_24 fa_X6_29 (hg.d (by decide)) rfl rfl ?_
        refine a_iload_1 dX6_talk_27 ?_
        refine a_iload_2 dX6_talk_28 ?_
        obtain ⟨x2, ex2, hF⟩ := bd_e hF
        refine a_iV2 dX6_talk_29 cv_X6_173 (ct_X5_ofTalk hg 24 p1 p2 μ ⟨0, by decide, rfl⟩ ex2.symm) (by decide) (hg.d (by decide)) rfl (Nat.le_of_ble_eq_true rfl) ?_
        subst hF
        exact a_iret dX6_talk_32 rfl ⟨rfl, rfl⟩
      · rw [if_neg h17] at hF
        refine a_ldc dX6_talk_20 k_X6_65 ?_
        subst hF
        exact a_iret dX6_talk_22 rfl ⟨rfl, rfl⟩
  · rw [if_pos h5] at hF
    refine a_ldc dX6_talk_8 k_X6_147 ?_
    subst hF
    exact a_iret dX6_talk_10 rfl ⟨rfl, rfl⟩
set_option maxHeartbeats 4000000 in
set_option maxRecDepth 100000 in
theorem ct_X6_logged {g : GT} (hg : GC g) (p1 : Int32) (p2 : Int32) (μ : MM)  {r : Int32} (hF : f_X6_logged p1 p2 μ = r) : Ct g 2 mi_X6_logged [.ref 0, .int p1, .int p2] μ (QI r μ) := by
  refine ct_of (k := 0) (by decide +kernel) rfl hg.1 rfl ?_
  show WA g 2 mi_X6_logged 0 [some (.ref 0), some (.int p1), some (.int p2)] [] μ (QI r μ)
  unfold f_X6_logged at hF
  refine a_iload_2 dX6_logged_0 ?_
  refine a_if_lt (tgt := 9) dX6_logged_1 (by decide) (fun h1 => ?_) (fun h1 => ?_)
  · rw [if_pos h1] at hF
    refine a_ldc dX6_logged_9 k_X6_65 ?_
    subst hF
    exact a_iret dX6_logged_11 rfl ⟨rfl, rfl⟩
  · rw [if_neg h1] at hF
    refine a_iload_2 dX6_logged_4 ?_
    refine a_iconst (v := 4) dX6_logged_5 (by decide) ?_
    refine a_icmp_lt (tgt := 12) dX6_logged_6 (by decide) (fun h6 => ?_) (fun h6 => ?_)
    · rw [if_pos h6] at hF
      refine a_iload_1 dX6_logged_12 ?_
      refine a_if_lt (tgt := 27) dX6_logged_13 (by decide) (fun h13 => ?_) (fun h13 => ?_)
      · rw [if_pos h13] at hF
        refine a_iconst (v := (-1)) dX6_logged_27 (by decide) ?_
        subst hF
        exact a_iret dX6_logged_28 rfl ⟨rfl, rfl⟩
      · rw [if_neg h13] at hF
        refine a_iload_1 dX6_logged_16 ?_
        refine a_aload_0 dX6_logged_17 ?_
        refine a_getR (q := 24) dX6_logged_18 fa_X6_29 (hg.d (by decide)) rfl rfl ?_
        refine a_getI dX6_logged_21 fa_X6_140 (hg.d (by decide)) rfl rfl ?_
        refine a_icmp_lt (tgt := 29) dX6_logged_24 (by decide) (fun h24 => ?_) (fun h24 => ?_)
        · rw [if_pos h24] at hF
          refine a_aload_0 dX6_logged_29 ?_
          refine a_getR (q := 24) dX6_logged_30 fa_X6_29 (hg.d (by decide)) rfl rfl ?_
          refine a_iload_1 dX6_logged_33 ?_
          refine a_iload_2 dX6_logged_34 ?_
          obtain ⟨x1, ex1, hF⟩ := bd_e hF
          refine a_iV2 dX6_logged_35 cv_X6_177 (ct_X5_ofLog hg 24 p1 p2 μ ⟨0, by decide, rfl⟩ ex1.symm) (by decide) (hg.d (by decide)) rfl (Nat.le_of_ble_eq_true rfl) ?_
          subst hF
          exact a_iret dX6_logged_38 rfl ⟨rfl, rfl⟩
        · rw [if_neg h24] at hF
          refine a_iconst (v := (-1)) dX6_logged_27 (by decide) ?_
          subst hF
          exact a_iret dX6_logged_28 rfl ⟨rfl, rfl⟩
    · rw [if_neg h6] at hF
      refine a_ldc dX6_logged_9 k_X6_65 ?_
      subst hF
      exact a_iret dX6_logged_11 rfl ⟨rfl, rfl⟩
set_option maxHeartbeats 4000000 in
set_option maxRecDepth 100000 in
theorem ct_X6_hoursRefused {g : GT} (hg : GC g) (p1 : Int32) (μ : MM)  {r : Int32} (hF : f_X6_hoursRefused p1 μ = r) : Ct g 0 mi_X6_hoursRefused [.ref 0, .int p1] μ (QI r μ) := by
  refine ct_of (k := 0) (by decide +kernel) rfl hg.1 rfl ?_
  show WA g 0 mi_X6_hoursRefused 0 [some (.ref 0), some (.int p1)] [] μ (QI r μ)
  unfold f_X6_hoursRefused at hF
  refine a_iload_1 dX6_hoursRefused_0 ?_
  refine a_iconst (v := 1) dX6_hoursRefused_1 (by decide) ?_
  refine a_icmp_lt (tgt := 11) dX6_hoursRefused_2 (by decide) (fun h2 => ?_) (fun h2 => ?_)
  · rw [if_pos h2] at hF
    refine a_ldc dX6_hoursRefused_11 k_X6_65 ?_
    subst hF
    exact a_iret dX6_hoursRefused_13 rfl ⟨rfl, rfl⟩
  · rw [if_neg h2] at hF
    refine a_iload_1 dX6_hoursRefused_5 ?_
    refine a_bipush (v := 60) dX6_hoursRefused_6 (by decide) ?_
    refine a_icmp_le (tgt := 14) dX6_hoursRefused_8 (by decide) (fun h8 => ?_) (fun h8 => ?_)
    · rw [if_pos h8] at hF
      refine a_aload_0 dX6_hoursRefused_14 ?_
      refine a_getR (q := 3) dX6_hoursRefused_15 fa_X6_19 (hg.d (by decide)) rfl rfl ?_
      refine a_getI dX6_hoursRefused_18 fa_X6_99 (hg.d (by decide)) rfl rfl ?_
      refine a_if_ne (tgt := 27) dX6_hoursRefused_21 (by decide) (fun h21 => ?_) (fun h21 => ?_)
      · rw [if_neg h21] at hF
        refine a_aload_0 dX6_hoursRefused_27 ?_
        refine a_getR (q := 24) dX6_hoursRefused_28 fa_X6_29 (hg.d (by decide)) rfl rfl ?_
        refine a_getI dX6_hoursRefused_31 fa_X6_108 (hg.d (by decide)) rfl rfl ?_
        refine a_sipush (v := 9000) dX6_hoursRefused_34 (by decide) ?_
        refine a_icmp_le (tgt := 45) dX6_hoursRefused_37 (by decide) (fun h37 => ?_) (fun h37 => ?_)
        · rw [if_pos h37] at hF
          refine a_iconst (v := 0) dX6_hoursRefused_45 (by decide) ?_
          subst hF
          exact a_iret dX6_hoursRefused_46 rfl ⟨rfl, rfl⟩
        · rw [if_neg h37] at hF
          refine a_ldc dX6_hoursRefused_40 k_X6_70 ?_
          refine a_goto (tgt := 46) dX6_hoursRefused_42 (by decide) ?_
          subst hF
          exact a_iret dX6_hoursRefused_46 rfl ⟨rfl, rfl⟩
      · rw [if_pos h21] at hF
        refine a_ldc dX6_hoursRefused_24 k_X6_195 ?_
        subst hF
        exact a_iret dX6_hoursRefused_26 rfl ⟨rfl, rfl⟩
    · rw [if_neg h8] at hF
      refine a_ldc dX6_hoursRefused_11 k_X6_65 ?_
      subst hF
      exact a_iret dX6_hoursRefused_13 rfl ⟨rfl, rfl⟩
set_option maxHeartbeats 4000000 in
set_option maxRecDepth 100000 in
theorem ct_X6_hour {g : GT} (hg : GC g) (p1 : Int32) (μ : MM)  {r : Int32 × MM} (hF : f_X6_hour p1 μ = some r) : Ct g 5 mi_X6_hour [.ref 0, .int p1] μ (QI r.1 r.2) := by
  refine ct_of (k := 1) (by decide +kernel) rfl hg.1 rfl ?_
  show WA g 5 mi_X6_hour 0 [some (.ref 0), some (.int p1), none] [] μ (QI r.1 r.2)
  unfold f_X6_hour at hF
  refine a_aload_0 dX6_hour_0 ?_
  refine a_iload_1 dX6_hour_1 ?_
  obtain ⟨x1, ex1, hF⟩ := bd_e hF
  refine a_iV1 dX6_hour_2 cv_X6_180 (ct_X6_hoursRefused hg p1 μ ex1.symm) (by decide) (hg.d (by decide)) rfl (Nat.le_of_ble_eq_true rfl) ?_
  refine a_istore_2 dX6_hour_5 (by decide) rfl ?_
  refine a_iload_2 dX6_hour_6 ?_
  refine a_if_eq (tgt := 12) dX6_hour_7 (by decide) (fun h7 => ?_) (fun h7 => ?_)
  · rw [if_pos h7] at hF
    refine a_aload_0 dX6_hour_12 ?_
    refine a_getR (q := 13) dX6_hour_13 fa_X6_39 (hg.d (by decide)) rfl rfl ?_
    refine a_aload_0 dX6_hour_16 ?_
    refine a_getR (q := 24) dX6_hour_17 fa_X6_29 (hg.d (by decide)) rfl rfl ?_
    obtain ⟨x2, ex2, hF⟩ := ob_e hF
    refine a_vV1 dX6_hour_20 cv_X6_184 (ct_X3_remember hg 24 μ ⟨0, by decide, rfl⟩ ex2) (by decide) (hg.d (by decide)) rfl (Nat.le_of_ble_eq_true rfl) ?_
    refine a_aload_0 dX6_hour_23 ?_
    refine a_getR (q := 24) dX6_hour_24 fa_X6_29 (hg.d (by decide)) rfl rfl ?_
    refine a_aload_0 dX6_hour_27 ?_
    refine a_getR (q := 3) dX6_hour_28 fa_X6_19 (hg.d (by decide)) rfl rfl ?_
    refine a_iload_1 dX6_hour_31 ?_
    obtain ⟨x3, ex3, hF⟩ := ob_e hF
    refine a_vV2 dX6_hour_32 cv_X6_188 (ct_X5_passHours hg 24 3 p1 x2 ⟨0, by decide, rfl⟩ (Or.inl rfl) ex3) (by decide) (hg.d (by decide)) rfl (Nat.le_of_ble_eq_true rfl) ?_
    refine a_aload_0 dX6_hour_35 ?_
    refine a_getR (q := 24) dX6_hour_36 fa_X6_29 (hg.d (by decide)) rfl rfl ?_
    refine a_getI dX6_hour_39 fa_X6_121 (hg.d (by decide)) rfl rfl ?_
    obtain rfl := Option.some.inj hF
    exact a_iret dX6_hour_42 rfl ⟨rfl, rfl⟩
  · rw [if_neg h7] at hF
    refine a_iload_2 dX6_hour_10 ?_
    obtain rfl := Option.some.inj hF
    exact a_iret dX6_hour_11 rfl ⟨rfl, rfl⟩
set_option maxHeartbeats 4000000 in
set_option maxRecDepth 100000 in
theorem ct_X6_isWord {g : GT} (hg : GC g) (p1 : Int32) (μ : MM)  {r : Int32} (hF : f_X6_isWord p1 μ = r) : Ct g 0 mi_X6_isWord [.ref 0, .int p1] μ (QI r μ) := by
  refine ct_of (k := 0) (by decide +kernel) rfl hg.1 rfl ?_
  show WA g 0 mi_X6_isWord 0 [some (.ref 0), some (.int p1)] [] μ (QI r μ)
  unfold f_X6_isWord at hF
  refine a_iload_1 dX6_isWord_0 ?_
  refine a_if_lt (tgt := 19) dX6_isWord_1 (by decide) (fun h1 => ?_) (fun h1 => ?_)
  · rw [if_pos h1] at hF
    refine a_iconst (v := 0) dX6_isWord_19 (by decide) ?_
    subst hF
    exact a_zret dX6_isWord_20 rfl (Or.inl rfl) ⟨rfl, rfl⟩
  · rw [if_neg h1] at hF
    refine a_iload_1 dX6_isWord_4 ?_
    refine a_aload_0 dX6_isWord_5 ?_
    refine a_getR (q := 3) dX6_isWord_6 fa_X6_19 (hg.d (by decide)) rfl rfl ?_
    refine a_getI dX6_isWord_9 fa_X6_105 (hg.d (by decide)) rfl rfl ?_
    refine a_icmp_ge (tgt := 19) dX6_isWord_12 (by decide) (fun h12 => ?_) (fun h12 => ?_)
    · rw [if_pos h12] at hF
      refine a_iconst (v := 0) dX6_isWord_19 (by decide) ?_
      subst hF
      exact a_zret dX6_isWord_20 rfl (Or.inl rfl) ⟨rfl, rfl⟩
    · rw [if_neg h12] at hF
      refine a_iconst (v := 1) dX6_isWord_15 (by decide) ?_
      refine a_goto (tgt := 20) dX6_isWord_16 (by decide) ?_
      subst hF
      exact a_zret dX6_isWord_20 rfl (Or.inr rfl) ⟨rfl, rfl⟩
set_option maxHeartbeats 4000000 in
set_option maxRecDepth 100000 in
theorem ct_X6_say {g : GT} (hg : GC g) (p1 : Int32) (p2 : Int32) (μ : MM)  {r : Int32 × MM} (hF : f_X6_say p1 p2 μ = some r) : Ct g 3 mi_X6_say [.ref 0, .int p1, .int p2] μ (QI r.1 r.2) := by
  refine ct_of (k := 0) (by decide +kernel) rfl hg.1 rfl ?_
  show WA g 3 mi_X6_say 0 [some (.ref 0), some (.int p1), some (.int p2)] [] μ (QI r.1 r.2)
  unfold f_X6_say at hF
  refine a_aload_0 dX6_say_0 ?_
  refine a_iload_1 dX6_say_1 ?_
  obtain ⟨x1, ex1, hF⟩ := bd_e hF
  refine a_iV1 dX6_say_2 cv_X6_143 (ct_X6_isFarm hg p1 μ ex1.symm) (by decide) (hg.d (by decide)) rfl (Nat.le_of_ble_eq_true rfl) ?_
  refine a_if_eq (tgt := 16) dX6_say_5 (by decide) (fun h5 => ?_) (fun h5 => ?_)
  · rw [if_pos h5] at hF
    refine a_ldc dX6_say_16 k_X6_147 ?_
    obtain rfl := Option.some.inj hF
    exact a_iret dX6_say_18 rfl ⟨rfl, rfl⟩
  · rw [if_neg h5] at hF
    refine a_aload_0 dX6_say_8 ?_
    refine a_iload_2 dX6_say_9 ?_
    obtain ⟨x2, ex2, hF⟩ := bd_e hF
    refine a_iV1 dX6_say_10 cv_X6_192 (ct_X6_isWord hg p2 μ ex2.symm) (by decide) (hg.d (by decide)) rfl (Nat.le_of_ble_eq_true rfl) ?_
    refine a_if_ne (tgt := 19) dX6_say_13 (by decide) (fun h13 => ?_) (fun h13 => ?_)
    · rw [if_neg h13] at hF
      refine a_iload_1 dX6_say_19 ?_
      refine a_if_ne (tgt := 26) dX6_say_20 (by decide) (fun h20 => ?_) (fun h20 => ?_)
      · rw [if_neg h20] at hF
        refine a_aload_0 dX6_say_26 ?_
        refine a_getR (q := 24) dX6_say_27 fa_X6_29 (hg.d (by decide)) rfl rfl ?_
        refine a_getI dX6_say_30 fa_X6_121 (hg.d (by decide)) rfl rfl ?_
        refine a_bipush (v := 12) dX6_say_33 (by decide) ?_
        refine a_icmp_lt (tgt := 41) dX6_say_35 (by decide) (fun h35 => ?_) (fun h35 => ?_)
        · rw [if_pos h35] at hF
          refine a_aload_0 dX6_say_41 ?_
          refine a_getR (q := 13) dX6_say_42 fa_X6_39 (hg.d (by decide)) rfl rfl ?_
          refine a_aload_0 dX6_say_45 ?_
          refine a_getR (q := 24) dX6_say_46 fa_X6_29 (hg.d (by decide)) rfl rfl ?_
          obtain ⟨x3, ex3, hF⟩ := ob_e hF
          refine a_vV1 dX6_say_49 cv_X6_184 (ct_X3_remember hg 24 μ ⟨0, by decide, rfl⟩ ex3) (by decide) (hg.d (by decide)) rfl (Nat.le_of_ble_eq_true rfl) ?_
          refine a_aload_0 dX6_say_52 ?_
          refine a_getR (q := 24) dX6_say_53 fa_X6_29 (hg.d (by decide)) rfl rfl ?_
          refine a_aload_0 dX6_say_56 ?_
          refine a_getR (q := 3) dX6_say_57 fa_X6_19 (hg.d (by decide)) rfl rfl ?_
          refine a_iload_1 dX6_say_60 ?_
          refine a_iload_2 dX6_say_61 ?_
          obtain ⟨x4, ex4, hF⟩ := bd_e hF
          refine a_vV3 dX6_say_62 cv_X6_196 (ct_X5_enterTalk hg 24 3 p1 p2 x3 ⟨0, by decide, rfl⟩ (Or.inl rfl) ex4.symm) (by decide) (hg.d (by decide)) rfl (Nat.le_of_ble_eq_true rfl) ?_
          refine a_aload_0 dX6_say_65 ?_
          refine a_getR (q := 24) dX6_say_66 fa_X6_29 (hg.d (by decide)) rfl rfl ?_
          refine a_getI dX6_say_69 fa_X6_121 (hg.d (by decide)) rfl rfl ?_
          obtain rfl := Option.some.inj hF
          exact a_iret dX6_say_72 rfl ⟨rfl, rfl⟩
        · rw [if_neg h35] at hF
          refine a_ldc dX6_say_38 k_X6_70 ?_
          obtain rfl := Option.some.inj hF
          exact a_iret dX6_say_40 rfl ⟨rfl, rfl⟩
      · rw [if_pos h20] at hF
        refine a_ldc dX6_say_23 k_X6_195 ?_
        obtain rfl := Option.some.inj hF
        exact a_iret dX6_say_25 rfl ⟨rfl, rfl⟩
    · rw [if_pos h13] at hF
      refine a_ldc dX6_say_16 k_X6_147 ?_
      obtain rfl := Option.some.inj hF
      exact a_iret dX6_say_18 rfl ⟨rfl, rfl⟩
set_option maxHeartbeats 4000000 in
set_option maxRecDepth 100000 in
theorem ct_X6_rain {g : GT} (hg : GC g) (p1 : Int32) (μ : MM)  {r : Int32 × MM} (hF : f_X6_rain p1 μ = some r) : Ct g 3 mi_X6_rain [.ref 0, .int p1] μ (QI r.1 r.2) := by
  refine ct_of (k := 1) (by decide +kernel) rfl hg.1 rfl ?_
  show WA g 3 mi_X6_rain 0 [some (.ref 0), some (.int p1), none] [] μ (QI r.1 r.2)
  unfold f_X6_rain at hF
  refine a_iload_1 dX6_rain_0 ?_
  refine a_if_lt (tgt := 10) dX6_rain_1 (by decide) (fun h1 => ?_) (fun h1 => ?_)
  · rw [if_pos h1] at hF
    refine a_ldc dX6_rain_10 k_X6_65 ?_
    obtain rfl := Option.some.inj hF
    exact a_iret dX6_rain_12 rfl ⟨rfl, rfl⟩
  · rw [if_neg h1] at hF
    refine a_iload_1 dX6_rain_4 ?_
    refine a_bipush (v := 9) dX6_rain_5 (by decide) ?_
    refine a_icmp_le (tgt := 13) dX6_rain_7 (by decide) (fun h7 => ?_) (fun h7 => ?_)
    · rw [if_pos h7] at hF
      refine a_aload_0 dX6_rain_13 ?_
      refine a_getR (q := 3) dX6_rain_14 fa_X6_19 (hg.d (by decide)) rfl rfl ?_
      refine a_getI dX6_rain_17 fa_X6_99 (hg.d (by decide)) rfl rfl ?_
      refine a_if_ne (tgt := 26) dX6_rain_20 (by decide) (fun h20 => ?_) (fun h20 => ?_)
      · rw [if_neg h20] at hF
        refine a_aload_0 dX6_rain_26 ?_
        refine a_getR (q := 13) dX6_rain_27 fa_X6_39 (hg.d (by decide)) rfl rfl ?_
        refine a_aload_0 dX6_rain_30 ?_
        refine a_getR (q := 24) dX6_rain_31 fa_X6_29 (hg.d (by decide)) rfl rfl ?_
        obtain ⟨x1, ex1, hF⟩ := ob_e hF
        refine a_vV1 dX6_rain_34 cv_X6_184 (ct_X3_remember hg 24 μ ⟨0, by decide, rfl⟩ ex1) (by decide) (hg.d (by decide)) rfl (Nat.le_of_ble_eq_true rfl) ?_
        refine a_aload_0 dX6_rain_37 ?_
        refine a_getR (q := 24) dX6_rain_38 fa_X6_29 (hg.d (by decide)) rfl rfl ?_
        refine a_getI dX6_rain_41 fa_X6_111 (hg.d (by decide)) rfl rfl ?_
        obtain ⟨v2, ev2, hF⟩ := bd_e hF
        refine a_nm ev2 ?_
        refine a_istore_2 dX6_rain_44 (by decide) rfl ?_
        refine a_aload_0 dX6_rain_45 ?_
        refine a_getR (q := 24) dX6_rain_46 fa_X6_29 (hg.d (by decide)) rfl rfl ?_
        refine a_iload_1 dX6_rain_49 ?_
        obtain ⟨μ3, eμ3, hF⟩ := bd_e hF
        refine a_pI eμ3 dX6_rain_50 fp_X6_111 (hg.d (by decide)) rfl rfl ?_
        refine a_iload_2 dX6_rain_53 ?_
        obtain rfl := Option.some.inj hF
        exact a_iret dX6_rain_54 rfl ⟨rfl, rfl⟩
      · rw [if_pos h20] at hF
        refine a_ldc dX6_rain_23 k_X6_195 ?_
        obtain rfl := Option.some.inj hF
        exact a_iret dX6_rain_25 rfl ⟨rfl, rfl⟩
    · rw [if_neg h7] at hF
      refine a_ldc dX6_rain_10 k_X6_65 ?_
      obtain rfl := Option.some.inj hF
      exact a_iret dX6_rain_12 rfl ⟨rfl, rfl⟩
set_option maxHeartbeats 4000000 in
set_option maxRecDepth 100000 in
theorem ct_X6_frost {g : GT} (hg : GC g) (p1 : Int32) (μ : MM)  {r : Int32 × MM} (hF : f_X6_frost p1 μ = some r) : Ct g 3 mi_X6_frost [.ref 0, .int p1] μ (QI r.1 r.2) := by
  refine ct_of (k := 1) (by decide +kernel) rfl hg.1 rfl ?_
  show WA g 3 mi_X6_frost 0 [some (.ref 0), some (.int p1), none] [] μ (QI r.1 r.2)
  unfold f_X6_frost at hF
  refine a_aload_0 dX6_frost_0 ?_
  refine a_getR (q := 3) dX6_frost_1 fa_X6_19 (hg.d (by decide)) rfl rfl ?_
  refine a_getI dX6_frost_4 fa_X6_99 (hg.d (by decide)) rfl rfl ?_
  refine a_if_ne (tgt := 13) dX6_frost_7 (by decide) (fun h7 => ?_) (fun h7 => ?_)
  · rw [if_neg h7] at hF
    refine a_aload_0 dX6_frost_13 ?_
    refine a_getR (q := 13) dX6_frost_14 fa_X6_39 (hg.d (by decide)) rfl rfl ?_
    refine a_aload_0 dX6_frost_17 ?_
    refine a_getR (q := 24) dX6_frost_18 fa_X6_29 (hg.d (by decide)) rfl rfl ?_
    obtain ⟨x1, ex1, hF⟩ := ob_e hF
    refine a_vV1 dX6_frost_21 cv_X6_184 (ct_X3_remember hg 24 μ ⟨0, by decide, rfl⟩ ex1) (by decide) (hg.d (by decide)) rfl (Nat.le_of_ble_eq_true rfl) ?_
    refine a_aload_0 dX6_frost_24 ?_
    refine a_getR (q := 24) dX6_frost_25 fa_X6_29 (hg.d (by decide)) rfl rfl ?_
    refine a_getI dX6_frost_28 fa_X6_114 (hg.d (by decide)) rfl rfl ?_
    obtain ⟨j2, ej31, hF⟩ := bd_e hF
    replace ej31 := ej31.symm
    have KJ31 : WA g 3 mi_X6_frost 39 [some (.ref 0), some (.int p1), none] [.int j2] x1 (QI r.1 r.2) := by
      refine a_istore_2 dX6_frost_39 (by decide) rfl ?_
      refine a_aload_0 dX6_frost_40 ?_
      refine a_getR (q := 24) dX6_frost_41 fa_X6_29 (hg.d (by decide)) rfl rfl ?_
      refine a_iload_1 dX6_frost_44 ?_
      obtain ⟨hb45, hF⟩ := gd_e hF
      obtain ⟨μ3, eμ3, hF⟩ := bd_e hF
      refine a_pZ eμ3 dX6_frost_45 fp_X6_114 hb45 (hg.d (by decide)) rfl rfl ?_
      refine a_iload_2 dX6_frost_48 ?_
      obtain rfl := Option.some.inj hF
      exact a_iret dX6_frost_49 rfl ⟨rfl, rfl⟩
    refine a_if_eq (tgt := 38) dX6_frost_31 (by decide) (fun h31 => ?_) (fun h31 => ?_)
    · rw [if_pos h31] at ej31
      refine a_iconst (v := 0) dX6_frost_38 (by decide) ?_
      subst ej31
      exact KJ31
    · rw [if_neg h31] at ej31
      refine a_iconst (v := 1) dX6_frost_34 (by decide) ?_
      refine a_goto (tgt := 39) dX6_frost_35 (by decide) ?_
      subst ej31
      exact KJ31
  · rw [if_pos h7] at hF
    refine a_ldc dX6_frost_10 k_X6_195 ?_
    obtain rfl := Option.some.inj hF
    exact a_iret dX6_frost_12 rfl ⟨rfl, rfl⟩
set_option maxHeartbeats 4000000 in
set_option maxRecDepth 100000 in
theorem ct_X6_dam {g : GT} (hg : GC g) (p1 : Int32) (p2 : Int32) (μ : MM)  {r : Int32 × MM} (hF : f_X6_dam p1 p2 μ = some r) : Ct g 3 mi_X6_dam [.ref 0, .int p1, .int p2] μ (QI r.1 r.2) := by
  refine ct_of (k := 1) (by decide +kernel) rfl hg.1 rfl ?_
  show WA g 3 mi_X6_dam 0 [some (.ref 0), some (.int p1), some (.int p2), none] [] μ (QI r.1 r.2)
  unfold f_X6_dam at hF
  refine a_aload_0 dX6_dam_0 ?_
  refine a_iload_1 dX6_dam_1 ?_
  obtain ⟨x1, ex1, hF⟩ := bd_e hF
  refine a_iV1 dX6_dam_2 cv_X6_143 (ct_X6_isFarm hg p1 μ ex1.symm) (by decide) (hg.d (by decide)) rfl (Nat.le_of_ble_eq_true rfl) ?_
  refine a_if_ne (tgt := 11) dX6_dam_5 (by decide) (fun h5 => ?_) (fun h5 => ?_)
  · rw [if_neg h5] at hF
    refine a_iload_1 dX6_dam_11 ?_
    refine a_if_ne (tgt := 18) dX6_dam_12 (by decide) (fun h12 => ?_) (fun h12 => ?_)
    · rw [if_neg h12] at hF
      refine a_aload_0 dX6_dam_18 ?_
      refine a_getR (q := 13) dX6_dam_19 fa_X6_39 (hg.d (by decide)) rfl rfl ?_
      refine a_aload_0 dX6_dam_22 ?_
      refine a_getR (q := 24) dX6_dam_23 fa_X6_29 (hg.d (by decide)) rfl rfl ?_
      obtain ⟨x2, ex2, hF⟩ := ob_e hF
      refine a_vV1 dX6_dam_26 cv_X6_184 (ct_X3_remember hg 24 μ ⟨0, by decide, rfl⟩ ex2) (by decide) (hg.d (by decide)) rfl (Nat.le_of_ble_eq_true rfl) ?_
      refine a_aload_0 dX6_dam_29 ?_
      refine a_getR (q := 24) dX6_dam_30 fa_X6_29 (hg.d (by decide)) rfl rfl ?_
      refine a_getI dX6_dam_33 fa_X6_118 (hg.d (by decide)) rfl rfl ?_
      refine a_iload_1 dX6_dam_36 ?_
      obtain ⟨x3, ex3, hF⟩ := bd_e hF
      refine a_iS2 dX6_dam_37 cs_X6_200 (ct_X6_holds hg (x2 24 3) p1 x2 ex3.symm) (by decide) (Nat.le_of_ble_eq_true rfl) ?_
      obtain ⟨j4, ej40, hF⟩ := bd_e hF
      replace ej40 := ej40.symm
      have KJ40 : WA g 3 mi_X6_dam 48 [some (.ref 0), some (.int p1), some (.int p2), none] [.int j4] x2 (QI r.1 r.2) := by
        refine a_istore_3 dX6_dam_48 (by decide) rfl ?_
        refine a_aload_0 dX6_dam_49 ?_
        refine a_getR (q := 24) dX6_dam_50 fa_X6_29 (hg.d (by decide)) rfl rfl ?_
        refine a_iload_2 dX6_dam_53 ?_
        refine a_if_eq (tgt := 71) dX6_dam_54 (by decide) (fun h54 => ?_) (fun h54 => ?_)
        · rw [if_pos h54] at hF
          refine a_aload_0 dX6_dam_71 ?_
          refine a_getR (q := 24) dX6_dam_72 fa_X6_29 (hg.d (by decide)) rfl rfl ?_
          refine a_getI dX6_dam_75 fa_X6_118 (hg.d (by decide)) rfl rfl ?_
          refine a_iconst (v := 1) dX6_dam_78 (by decide) ?_
          refine a_iload_1 dX6_dam_79 ?_
          refine a_shl dX6_dam_80 ?_
          refine a_iconst (v := (-1)) dX6_dam_81 (by decide) ?_
          refine a_ixor dX6_dam_82 ?_
          refine a_iand dX6_dam_83 ?_
          obtain ⟨μ5, eμ5, hF⟩ := bd_e hF
          refine a_pI eμ5 dX6_dam_84 fp_X6_118 (hg.d (by decide)) rfl rfl ?_
          refine a_iload_3 dX6_dam_87 ?_
          obtain rfl := Option.some.inj hF
          exact a_iret dX6_dam_88 rfl ⟨rfl, rfl⟩
        · rw [if_neg h54] at hF
          refine a_aload_0 dX6_dam_57 ?_
          refine a_getR (q := 24) dX6_dam_58 fa_X6_29 (hg.d (by decide)) rfl rfl ?_
          refine a_getI dX6_dam_61 fa_X6_118 (hg.d (by decide)) rfl rfl ?_
          refine a_iconst (v := 1) dX6_dam_64 (by decide) ?_
          refine a_iload_1 dX6_dam_65 ?_
          refine a_shl dX6_dam_66 ?_
          refine a_ior dX6_dam_67 ?_
          refine a_goto (tgt := 84) dX6_dam_68 (by decide) ?_
          obtain ⟨μ6, eμ6, hF⟩ := bd_e hF
          refine a_pI eμ6 dX6_dam_84 fp_X6_118 (hg.d (by decide)) rfl rfl ?_
          refine a_iload_3 dX6_dam_87 ?_
          obtain rfl := Option.some.inj hF
          exact a_iret dX6_dam_88 rfl ⟨rfl, rfl⟩
      refine a_if_eq (tgt := 47) dX6_dam_40 (by decide) (fun h40 => ?_) (fun h40 => ?_)
      · rw [if_pos h40] at ej40
        refine a_iconst (v := 0) dX6_dam_47 (by decide) ?_
        subst ej40
        exact KJ40
      · rw [if_neg h40] at ej40
        refine a_iconst (v := 1) dX6_dam_43 (by decide) ?_
        refine a_goto (tgt := 48) dX6_dam_44 (by decide) ?_
        subst ej40
        exact KJ40
    · rw [if_pos h12] at hF
      refine a_ldc dX6_dam_15 k_X6_195 ?_
      obtain rfl := Option.some.inj hF
      exact a_iret dX6_dam_17 rfl ⟨rfl, rfl⟩
  · rw [if_pos h5] at hF
    refine a_ldc dX6_dam_8 k_X6_147 ?_
    obtain rfl := Option.some.inj hF
    exact a_iret dX6_dam_10 rfl ⟨rfl, rfl⟩
set_option maxHeartbeats 4000000 in
set_option maxRecDepth 100000 in
theorem ct_X6_smooth {g : GT} (hg : GC g) (p1 : Int32) (μ : MM)  {r : Int32 × MM} (hF : f_X6_smooth p1 μ = some r) : Ct g 3 mi_X6_smooth [.ref 0, .int p1] μ (QI r.1 r.2) := by
  refine ct_of (k := 1) (by decide +kernel) rfl hg.1 rfl ?_
  show WA g 3 mi_X6_smooth 0 [some (.ref 0), some (.int p1), none] [] μ (QI r.1 r.2)
  unfold f_X6_smooth at hF
  refine a_aload_0 dX6_smooth_0 ?_
  refine a_iload_1 dX6_smooth_1 ?_
  obtain ⟨x1, ex1, hF⟩ := bd_e hF
  refine a_iV1 dX6_smooth_2 cv_X6_143 (ct_X6_isFarm hg p1 μ ex1.symm) (by decide) (hg.d (by decide)) rfl (Nat.le_of_ble_eq_true rfl) ?_
  refine a_if_ne (tgt := 11) dX6_smooth_5 (by decide) (fun h5 => ?_) (fun h5 => ?_)
  · rw [if_neg h5] at hF
    refine a_iload_1 dX6_smooth_11 ?_
    refine a_if_ne (tgt := 18) dX6_smooth_12 (by decide) (fun h12 => ?_) (fun h12 => ?_)
    · rw [if_neg h12] at hF
      refine a_aload_0 dX6_smooth_18 ?_
      refine a_getR (q := 13) dX6_smooth_19 fa_X6_39 (hg.d (by decide)) rfl rfl ?_
      refine a_aload_0 dX6_smooth_22 ?_
      refine a_getR (q := 24) dX6_smooth_23 fa_X6_29 (hg.d (by decide)) rfl rfl ?_
      obtain ⟨x2, ex2, hF⟩ := ob_e hF
      refine a_vV1 dX6_smooth_26 cv_X6_184 (ct_X3_remember hg 24 μ ⟨0, by decide, rfl⟩ ex2) (by decide) (hg.d (by decide)) rfl (Nat.le_of_ble_eq_true rfl) ?_
      refine a_aload_0 dX6_smooth_29 ?_
      refine a_getR (q := 24) dX6_smooth_30 fa_X6_29 (hg.d (by decide)) rfl rfl ?_
      refine a_getR (q := 27) dX6_smooth_33 fa_X6_158 (hg.d (by decide)) rfl rfl ?_
      refine a_iload_1 dX6_smooth_36 ?_
      obtain ⟨x3, ex3, hF⟩ := bd_e hF
      refine a_iS2 dX6_smooth_37 cs_X6_151 (ct_X6_cell hg 27 p1 x2 ⟨hg.d (by decide), by decide, rfl⟩ ex3.symm) (by decide) (Nat.le_of_ble_eq_true rfl) ?_
      refine a_istore_2 dX6_smooth_40 (by decide) rfl ?_
      refine a_aload_0 dX6_smooth_41 ?_
      refine a_getR (q := 24) dX6_smooth_42 fa_X6_29 (hg.d (by decide)) rfl rfl ?_
      refine a_getR (q := 27) dX6_smooth_45 fa_X6_158 (hg.d (by decide)) rfl rfl ?_
      refine a_iload_1 dX6_smooth_48 ?_
      refine a_iconst (v := 0) dX6_smooth_49 (by decide) ?_
      obtain ⟨x4, ex4, hF⟩ := bd_e hF
      refine a_vS3 dX6_smooth_50 cs_X6_74 (ct_X6_put hg 27 p1 0 x2 ⟨hg.d (by decide), by decide, rfl⟩ ex4.symm) (by decide) (Nat.le_of_ble_eq_true rfl) ?_
      refine a_iload_2 dX6_smooth_53 ?_
      obtain rfl := Option.some.inj hF
      exact a_iret dX6_smooth_54 rfl ⟨rfl, rfl⟩
    · rw [if_pos h12] at hF
      refine a_ldc dX6_smooth_15 k_X6_195 ?_
      obtain rfl := Option.some.inj hF
      exact a_iret dX6_smooth_17 rfl ⟨rfl, rfl⟩
  · rw [if_pos h5] at hF
    refine a_ldc dX6_smooth_8 k_X6_147 ?_
    obtain rfl := Option.some.inj hF
    exact a_iret dX6_smooth_10 rfl ⟨rfl, rfl⟩
set_option maxHeartbeats 4000000 in
set_option maxRecDepth 100000 in
theorem ct_X6_hush {g : GT} (hg : GC g) (p1 : Int32) (μ : MM)  {r : Int32 × MM} (hF : f_X6_hush p1 μ = some r) : Ct g 4 mi_X6_hush [.ref 0, .int p1] μ (QI r.1 r.2) := by
  refine ct_of (k := 0) (by decide +kernel) rfl hg.1 rfl ?_
  show WA g 4 mi_X6_hush 0 [some (.ref 0), some (.int p1)] [] μ (QI r.1 r.2)
  unfold f_X6_hush at hF
  refine a_aload_0 dX6_hush_0 ?_
  refine a_iload_1 dX6_hush_1 ?_
  obtain ⟨x1, ex1, hF⟩ := bd_e hF
  refine a_iV1 dX6_hush_2 cv_X6_170 (ct_X6_isTalk hg p1 μ ex1.symm) (by decide) (hg.d (by decide)) rfl (Nat.le_of_ble_eq_true rfl) ?_
  refine a_if_ne (tgt := 11) dX6_hush_5 (by decide) (fun h5 => ?_) (fun h5 => ?_)
  · rw [if_neg h5] at hF
    refine a_aload_0 dX6_hush_11 ?_
    refine a_getR (q := 13) dX6_hush_12 fa_X6_39 (hg.d (by decide)) rfl rfl ?_
    refine a_aload_0 dX6_hush_15 ?_
    refine a_getR (q := 24) dX6_hush_16 fa_X6_29 (hg.d (by decide)) rfl rfl ?_
    obtain ⟨x2, ex2, hF⟩ := ob_e hF
    refine a_vV1 dX6_hush_19 cv_X6_184 (ct_X3_remember hg 24 μ ⟨0, by decide, rfl⟩ ex2) (by decide) (hg.d (by decide)) rfl (Nat.le_of_ble_eq_true rfl) ?_
    refine a_aload_0 dX6_hush_22 ?_
    refine a_getR (q := 24) dX6_hush_23 fa_X6_29 (hg.d (by decide)) rfl rfl ?_
    refine a_iload_1 dX6_hush_26 ?_
    obtain ⟨x3, ex3, hF⟩ := ob_e hF
    refine a_vV1 dX6_hush_27 cv_X6_204 (ct_X5_endTalk hg 24 p1 x2 ⟨0, by decide, rfl⟩ ex3) (by decide) (hg.d (by decide)) rfl (Nat.le_of_ble_eq_true rfl) ?_
    refine a_aload_0 dX6_hush_30 ?_
    refine a_getR (q := 24) dX6_hush_31 fa_X6_29 (hg.d (by decide)) rfl rfl ?_
    refine a_getI dX6_hush_34 fa_X6_121 (hg.d (by decide)) rfl rfl ?_
    obtain rfl := Option.some.inj hF
    exact a_iret dX6_hush_37 rfl ⟨rfl, rfl⟩
  · rw [if_pos h5] at hF
    refine a_ldc dX6_hush_8 k_X6_147 ?_
    obtain rfl := Option.some.inj hF
    exact a_iret dX6_hush_10 rfl ⟨rfl, rfl⟩
set_option maxHeartbeats 4000000 in
set_option maxRecDepth 100000 in
theorem ct_X6_draw {g : GT} (hg : GC g) (p1 : Int32) (μ : MM)  {r : Int32 × MM} (hF : f_X6_draw p1 μ = some r) : Ct g 0 mi_X6_draw [.ref 0, .int p1] μ (QI r.1 r.2) := by
  refine ct_of (k := 0) (by decide +kernel) rfl hg.1 rfl ?_
  show WA g 0 mi_X6_draw 0 [some (.ref 0), some (.int p1)] [] μ (QI r.1 r.2)
  unfold f_X6_draw at hF
  refine a_aload_0 dX6_draw_0 ?_
  refine a_aload_0 dX6_draw_1 ?_
  refine a_getI dX6_draw_2 fa_X6_271 (hg.d (by decide)) rfl rfl ?_
  refine a_i2l dX6_draw_5 ?_
  refine a_ldc2 dX6_draw_6 k_X6_291 ?_
  refine a_lmul dX6_draw_9 ?_
  refine a_ldc2 dX6_draw_10 k_X6_293 ?_
  refine a_ladd dX6_draw_13 ?_
  refine a_ldc2 dX6_draw_14 k_X6_295 ?_
  refine a_land dX6_draw_17 ?_
  refine a_l2i dX6_draw_18 ?_
  obtain ⟨μ1, eμ1, hF⟩ := bd_e hF
  refine a_pI eμ1 dX6_draw_19 fp_X6_271 (hg.d (by decide)) rfl rfl ?_
  refine a_iload_1 dX6_draw_22 ?_
  refine a_if_le (tgt := 39) dX6_draw_23 (by decide) (fun h23 => ?_) (fun h23 => ?_)
  · rw [if_pos h23] at hF
    refine a_iconst (v := 0) dX6_draw_39 (by decide) ?_
    obtain rfl := Option.some.inj hF
    exact a_iret dX6_draw_40 rfl ⟨rfl, rfl⟩
  · rw [if_neg h23] at hF
    refine a_aload_0 dX6_draw_26 ?_
    refine a_getI dX6_draw_27 fa_X6_271 (hg.d (by decide)) rfl rfl ?_
    refine a_ldcw dX6_draw_30 k_X6_297 ?_
    refine a_idiv dX6_draw_33 (by decide) ?_
    refine a_iload_1 dX6_draw_34 ?_
    obtain ⟨hz35, hF⟩ := gd_e hF
    refine a_rem dX6_draw_35 hz35 ?_
    refine a_goto (tgt := 40) dX6_draw_36 (by decide) ?_
    obtain rfl := Option.some.inj hF
    exact a_iret dX6_draw_40 rfl ⟨rfl, rfl⟩
set_option maxHeartbeats 4000000 in
set_option maxRecDepth 100000 in
theorem ct_X6_befallTalk {g : GT} (hg : GC g)  (μ : MM)  {r : MM} (hF : f_X6_befallTalk  μ = some r) : Ct g 3 mi_X6_befallTalk [.ref 0] μ (QV r) := by
  refine ct_of (k := 2) (by decide +kernel) rfl hg.1 rfl ?_
  show WA g 3 mi_X6_befallTalk 0 [some (.ref 0), none, none] [] μ (QV r)
  unfold f_X6_befallTalk at hF
  refine a_aload_0 dX6_befallTalk_0 ?_
  refine a_getR (q := 3) dX6_befallTalk_1 fa_X6_19 (hg.d (by decide)) rfl rfl ?_
  refine a_getI dX6_befallTalk_4 fa_X6_99 (hg.d (by decide)) rfl rfl ?_
  refine a_iconst (v := 2) dX6_befallTalk_7 (by decide) ?_
  refine a_icmp_ge (tgt := 12) dX6_befallTalk_8 (by decide) (fun h8 => ?_) (fun h8 => ?_)
  · rw [if_pos h8] at hF
    refine a_aload_0 dX6_befallTalk_12 ?_
    refine a_aload_0 dX6_befallTalk_13 ?_
    refine a_getR (q := 3) dX6_befallTalk_14 fa_X6_19 (hg.d (by decide)) rfl rfl ?_
    refine a_getI dX6_befallTalk_17 fa_X6_99 (hg.d (by decide)) rfl rfl ?_
    refine a_iconst (v := 1) dX6_befallTalk_20 (by decide) ?_
    refine a_isub dX6_befallTalk_21 ?_
    obtain ⟨x1, ex1, hF⟩ := ob_e hF
    refine a_iV1 dX6_befallTalk_22 cv_X6_298 (ct_X6_draw hg ((μ 3 2) - 1) μ ex1) (by decide) (hg.d (by decide)) rfl (Nat.le_of_ble_eq_true rfl) ?_
    refine a_iconst (v := 1) dX6_befallTalk_25 (by decide) ?_
    refine a_iadd dX6_befallTalk_26 ?_
    obtain ⟨v2, ev2, hF⟩ := bd_e hF
    refine a_nm ev2 ?_
    refine a_istore_1 dX6_befallTalk_27 (by decide) rfl ?_
    refine a_aload_0 dX6_befallTalk_28 ?_
    refine a_aload_0 dX6_befallTalk_29 ?_
    refine a_getR (q := 3) dX6_befallTalk_30 fa_X6_19 (hg.d (by decide)) rfl rfl ?_
    refine a_getI dX6_befallTalk_33 fa_X6_105 (hg.d (by decide)) rfl rfl ?_
    obtain ⟨x3, ex3, hF⟩ := ob_e hF
    refine a_iV1 dX6_befallTalk_36 cv_X6_298 (ct_X6_draw hg (x1.2 3 0) x1.2 ex3) (by decide) (hg.d (by decide)) rfl (Nat.le_of_ble_eq_true rfl) ?_
    refine a_istore_2 dX6_befallTalk_39 (by decide) rfl ?_
    refine a_aload_0 dX6_befallTalk_40 ?_
    refine a_getR (q := 24) dX6_befallTalk_41 fa_X6_29 (hg.d (by decide)) rfl rfl ?_
    refine a_getI dX6_befallTalk_44 fa_X6_121 (hg.d (by decide)) rfl rfl ?_
    refine a_bipush (v := 12) dX6_befallTalk_47 (by decide) ?_
    refine a_icmp_ge (tgt := 65) dX6_befallTalk_49 (by decide) (fun h49 => ?_) (fun h49 => ?_)
    · rw [if_pos h49] at hF
      obtain rfl := Option.some.inj hF
      exact a_vret dX6_befallTalk_65 rfl ⟨rfl, rfl⟩
    · rw [if_neg h49] at hF
      refine a_aload_0 dX6_befallTalk_52 ?_
      refine a_getR (q := 24) dX6_befallTalk_53 fa_X6_29 (hg.d (by decide)) rfl rfl ?_
      refine a_aload_0 dX6_befallTalk_56 ?_
      refine a_getR (q := 3) dX6_befallTalk_57 fa_X6_19 (hg.d (by decide)) rfl rfl ?_
      refine a_iload_1 dX6_befallTalk_60 ?_
      refine a_iload_2 dX6_befallTalk_61 ?_
      obtain ⟨x4, ex4, hF⟩ := bd_e hF
      refine a_vV3 dX6_befallTalk_62 cv_X6_196 (ct_X5_enterTalk hg 24 3 v2 x3.1 x3.2 ⟨0, by decide, rfl⟩ (Or.inl rfl) ex4.symm) (by decide) (hg.d (by decide)) rfl (Nat.le_of_ble_eq_true rfl) ?_
      obtain rfl := Option.some.inj hF
      exact a_vret dX6_befallTalk_65 rfl ⟨rfl, rfl⟩
  · rw [if_neg h8] at hF
    obtain rfl := Option.some.inj hF
    exact a_vret dX6_befallTalk_11 rfl ⟨rfl, rfl⟩
set_option maxHeartbeats 4000000 in
set_option maxRecDepth 100000 in
theorem ct_X6_befall {g : GT} (hg : GC g)  (μ : MM)  {r : MM} (hF : f_X6_befall  μ = some r) : Ct g 4 mi_X6_befall [.ref 0] μ (QV r) := by
  refine ct_of (k := 0) (by decide +kernel) rfl hg.1 rfl ?_
  show WA g 4 mi_X6_befall 0 [some (.ref 0)] [] μ (QV r)
  unfold f_X6_befall at hF
  refine a_aload_0 dX6_befall_0 ?_
  refine a_iconst (v := 5) dX6_befall_1 (by decide) ?_
  obtain ⟨x1, ex1, hF⟩ := ob_e hF
  refine a_iV1 dX6_befall_2 cv_X6_298 (ct_X6_draw hg 5 μ ex1) (by decide) (hg.d (by decide)) rfl (Nat.le_of_ble_eq_true rfl) ?_
  by_cases h5_0 : x1.1 = 0
  · rw [if_pos h5_0] at hF
    refine a_tsIn (tgt := 32) dX6_befall_5 h5_0 (by decide) (by decide) rfl (by decide) ?_
    refine a_aload_0 dX6_befall_32 ?_
    refine a_getR (q := 24) dX6_befall_33 fa_X6_29 (hg.d (by decide)) rfl rfl ?_
    refine a_aload_0 dX6_befall_36 ?_
    refine a_bipush (v := 10) dX6_befall_37 (by decide) ?_
    obtain ⟨x2, ex2, hF⟩ := ob_e hF
    refine a_iV1 dX6_befall_39 cv_X6_298 (ct_X6_draw hg 10 x1.2 ex2) (by decide) (hg.d (by decide)) rfl (Nat.le_of_ble_eq_true rfl) ?_
    obtain ⟨μ3, eμ3, hF⟩ := bd_e hF
    refine a_pI eμ3 dX6_befall_42 fp_X6_111 (hg.d (by decide)) rfl rfl ?_
    refine a_goto (tgt := 80) dX6_befall_45 (by decide) ?_
    obtain rfl := Option.some.inj hF
    exact a_vret dX6_befall_80 rfl ⟨rfl, rfl⟩
  · rw [if_neg h5_0] at hF
    by_cases h5_1 : x1.1 = 1
    · rw [if_pos h5_1] at hF
      refine a_tsIn (tgt := 48) dX6_befall_5 h5_1 (by decide) (by decide) rfl (by decide) ?_
      refine a_aload_0 dX6_befall_48 ?_
      obtain ⟨x4, ex4, hF⟩ := ob_e hF
      refine a_vV0 dX6_befall_49 cv_X6_301 (ct_X6_befallTalk hg x1.2 ex4) (by decide) (hg.d (by decide)) rfl (Nat.le_of_ble_eq_true rfl) ?_
      refine a_goto (tgt := 80) dX6_befall_52 (by decide) ?_
      obtain rfl := Option.some.inj hF
      exact a_vret dX6_befall_80 rfl ⟨rfl, rfl⟩
    · rw [if_neg h5_1] at hF
      by_cases h5_2 : x1.1 = 2
      · rw [if_pos h5_2] at hF
        refine a_tsIn (tgt := 55) dX6_befall_5 h5_2 (by decide) (by decide) rfl (by decide) ?_
        refine a_aload_0 dX6_befall_55 ?_
        refine a_getR (q := 24) dX6_befall_56 fa_X6_29 (hg.d (by decide)) rfl rfl ?_
        refine a_aload_0 dX6_befall_59 ?_
        refine a_getR (q := 24) dX6_befall_60 fa_X6_29 (hg.d (by decide)) rfl rfl ?_
        refine a_getI dX6_befall_63 fa_X6_114 (hg.d (by decide)) rfl rfl ?_
        refine a_if_ne (tgt := 73) dX6_befall_66 (by decide) (fun h66 => ?_) (fun h66 => ?_)
        · rw [if_neg h66] at hF
          refine a_iconst (v := 0) dX6_befall_73 (by decide) ?_
          obtain ⟨μ5, eμ5, hF⟩ := bd_e hF
          refine a_pZ eμ5 dX6_befall_74 fp_X6_114 (Or.inl rfl) (hg.d (by decide)) rfl rfl ?_
          refine a_goto (tgt := 80) dX6_befall_77 (by decide) ?_
          obtain rfl := Option.some.inj hF
          exact a_vret dX6_befall_80 rfl ⟨rfl, rfl⟩
        · rw [if_pos h66] at hF
          refine a_iconst (v := 1) dX6_befall_69 (by decide) ?_
          refine a_goto (tgt := 74) dX6_befall_70 (by decide) ?_
          obtain ⟨μ6, eμ6, hF⟩ := bd_e hF
          refine a_pZ eμ6 dX6_befall_74 fp_X6_114 (Or.inr rfl) (hg.d (by decide)) rfl rfl ?_
          refine a_goto (tgt := 80) dX6_befall_77 (by decide) ?_
          obtain rfl := Option.some.inj hF
          exact a_vret dX6_befall_80 rfl ⟨rfl, rfl⟩
      · rw [if_neg h5_2] at hF
        refine a_tsOut (tgt := 80) dX6_befall_5 (by have q0 := lv_neT h5_0 (show Int32.toInt 0 = 0 by decide); have q1 := lv_neT h5_1 (show Int32.toInt 1 = 1 by decide); have q2 := lv_neT h5_2 (show Int32.toInt 2 = 2 by decide); omega) (by decide) ?_
        obtain rfl := Option.some.inj hF
        exact a_vret dX6_befall_80 rfl ⟨rfl, rfl⟩
set_option maxHeartbeats 4000000 in
set_option maxRecDepth 100000 in
theorem ct_X6_drift_L25 {g : GT} (hg : GC g) (l1 : Int32) (l2 : Int32)  {Q : Option Value → MM → Prop} : ∀ (n : Nat) (l3 : Int32) (μ : MM) (z : Int32 × MM), f_X6_drift_L25 l1 l2 n l3 μ = some z → (WA g 5 mi_X6_drift 51 [some (.ref 0), some (.int l1), some (.int l2), some (.int z.1)] [] z.2 Q) → WA g 5 mi_X6_drift 25 [some (.ref 0), some (.int l1), some (.int l2), some (.int l3)] [] μ Q := by
  intro n
  induction n with
  | zero => intro l3 μ z hF; exact absurd hF (by simp [f_X6_drift_L25])
  | succ n ih =>
    intro l3 μ z hF K
    unfold f_X6_drift_L25 at hF
    refine a_iload_3 dX6_drift_25 ?_
    refine a_iload_1 dX6_drift_26 ?_
    refine a_icmp_ge (tgt := 51) dX6_drift_27 (by decide) (fun h27 => ?_) (fun h27 => ?_)
    · rw [if_pos h27] at hF
      obtain rfl := Option.some.inj hF
      exact K
    · rw [if_neg h27] at hF
      refine a_aload_0 dX6_drift_30 ?_
      obtain ⟨x3, ex3, hF⟩ := ob_e hF
      refine a_vV0 dX6_drift_31 cv_X6_208 (ct_X6_befall hg μ ex3) (by decide) (hg.d (by decide)) rfl (Nat.le_of_ble_eq_true rfl) ?_
      refine a_aload_0 dX6_drift_34 ?_
      refine a_getR (q := 24) dX6_drift_35 fa_X6_29 (hg.d (by decide)) rfl rfl ?_
      refine a_aload_0 dX6_drift_38 ?_
      refine a_getR (q := 3) dX6_drift_39 fa_X6_19 (hg.d (by decide)) rfl rfl ?_
      obtain ⟨x4, ex4, hF⟩ := ob_e hF
      refine a_vV1 dX6_drift_42 cv_X6_211 (ct_X5_pass hg 24 3 x3 ⟨0, by decide, rfl⟩ (Or.inl rfl) ex4) (by decide) (hg.d (by decide)) rfl (Nat.le_of_ble_eq_true rfl) ?_
      refine a_iinc_3 (c0 := 1) dX6_drift_45 (by decide) (by decide) rfl ?_
      refine a_goto (tgt := 25) dX6_drift_48 (by decide) ?_
      exact ih (l3 + 1) x4 _ hF K
set_option maxHeartbeats 4000000 in
set_option maxRecDepth 100000 in
theorem ct_X6_drift {g : GT} (hg : GC g) (p1 : Int32) (μ : MM)  {r : Int32 × MM} (hF : f_X6_drift p1 μ = some r) : Ct g 5 mi_X6_drift [.ref 0, .int p1] μ (QI r.1 r.2) := by
  refine ct_of (k := 2) (by decide +kernel) rfl hg.1 rfl ?_
  show WA g 5 mi_X6_drift 0 [some (.ref 0), some (.int p1), none, none] [] μ (QI r.1 r.2)
  unfold f_X6_drift at hF
  refine a_aload_0 dX6_drift_0 ?_
  refine a_iload_1 dX6_drift_1 ?_
  obtain ⟨x1, ex1, hF⟩ := bd_e hF
  refine a_iV1 dX6_drift_2 cv_X6_180 (ct_X6_hoursRefused hg p1 μ ex1.symm) (by decide) (hg.d (by decide)) rfl (Nat.le_of_ble_eq_true rfl) ?_
  refine a_istore_2 dX6_drift_5 (by decide) rfl ?_
  refine a_iload_2 dX6_drift_6 ?_
  refine a_if_eq (tgt := 12) dX6_drift_7 (by decide) (fun h7 => ?_) (fun h7 => ?_)
  · rw [if_pos h7] at hF
    refine a_aload_0 dX6_drift_12 ?_
    refine a_getR (q := 13) dX6_drift_13 fa_X6_39 (hg.d (by decide)) rfl rfl ?_
    refine a_aload_0 dX6_drift_16 ?_
    refine a_getR (q := 24) dX6_drift_17 fa_X6_29 (hg.d (by decide)) rfl rfl ?_
    obtain ⟨x2, ex2, hF⟩ := ob_e hF
    refine a_vV1 dX6_drift_20 cv_X6_184 (ct_X3_remember hg 24 μ ⟨0, by decide, rfl⟩ ex2) (by decide) (hg.d (by decide)) rfl (Nat.le_of_ble_eq_true rfl) ?_
    refine a_iconst (v := 0) dX6_drift_23 (by decide) ?_
    refine a_istore_3 dX6_drift_24 (by decide) rfl ?_
    obtain ⟨z5, ez5, hF⟩ := ob_e hF
    refine ct_X6_drift_L25 hg p1 x1  FU 0 x2 z5 ez5 ?_
    refine a_aload_0 dX6_drift_51 ?_
    refine a_getR (q := 24) dX6_drift_52 fa_X6_29 (hg.d (by decide)) rfl rfl ?_
    refine a_getI dX6_drift_55 fa_X6_121 (hg.d (by decide)) rfl rfl ?_
    obtain rfl := Option.some.inj hF
    exact a_iret dX6_drift_58 rfl ⟨rfl, rfl⟩
  · rw [if_neg h7] at hF
    refine a_iload_2 dX6_drift_10 ?_
    obtain rfl := Option.some.inj hF
    exact a_iret dX6_drift_11 rfl ⟨rfl, rfl⟩
set_option maxHeartbeats 4000000 in
set_option maxRecDepth 100000 in
theorem ct_X6_undo {g : GT} (hg : GC g)  (μ : MM)  {r : Int32 × MM} (hF : f_X6_undo  μ = some r) : Ct g 3 mi_X6_undo [.ref 0] μ (QI r.1 r.2) := by
  refine ct_of (k := 0) (by decide +kernel) rfl hg.1 rfl ?_
  show WA g 3 mi_X6_undo 0 [some (.ref 0)] [] μ (QI r.1 r.2)
  unfold f_X6_undo at hF
  refine a_aload_0 dX6_undo_0 ?_
  refine a_getR (q := 13) dX6_undo_1 fa_X6_39 (hg.d (by decide)) rfl rfl ?_
  refine a_getI dX6_undo_4 fa_X6_98 (hg.d (by decide)) rfl rfl ?_
  refine a_if_ne (tgt := 13) dX6_undo_7 (by decide) (fun h7 => ?_) (fun h7 => ?_)
  · rw [if_neg h7] at hF
    refine a_aload_0 dX6_undo_13 ?_
    refine a_getR (q := 13) dX6_undo_14 fa_X6_39 (hg.d (by decide)) rfl rfl ?_
    refine a_aload_0 dX6_undo_17 ?_
    refine a_getR (q := 24) dX6_undo_18 fa_X6_29 (hg.d (by decide)) rfl rfl ?_
    obtain ⟨x1, ex1, hF⟩ := ob_e hF
    refine a_vV1 dX6_undo_21 cv_X6_214 (ct_X3_bringBack hg 24 μ ⟨0, by decide, rfl⟩ ex1) (by decide) (hg.d (by decide)) rfl (Nat.le_of_ble_eq_true rfl) ?_
    refine a_aload_0 dX6_undo_24 ?_
    refine a_getR (q := 13) dX6_undo_25 fa_X6_39 (hg.d (by decide)) rfl rfl ?_
    refine a_getI dX6_undo_28 fa_X6_98 (hg.d (by decide)) rfl rfl ?_
    obtain rfl := Option.some.inj hF
    exact a_iret dX6_undo_31 rfl ⟨rfl, rfl⟩
  · rw [if_pos h7] at hF
    refine a_ldc dX6_undo_10 k_X6_195 ?_
    obtain rfl := Option.some.inj hF
    exact a_iret dX6_undo_12 rfl ⟨rfl, rfl⟩
set_option maxHeartbeats 4000000 in
set_option maxRecDepth 100000 in
theorem ct_X6_down {g : GT} (hg : GC g) (p1 : Int32) (μ : MM)  {r : Int32} (hF : f_X6_down p1 μ = some r) : Ct g 3 mi_X6_down [.ref 0, .int p1] μ (QI r μ) := by
  refine ct_of (k := 0) (by decide +kernel) rfl hg.1 rfl ?_
  show WA g 3 mi_X6_down 0 [some (.ref 0), some (.int p1)] [] μ (QI r μ)
  unfold f_X6_down at hF
  refine a_aload_0 dX6_down_0 ?_
  refine a_iload_1 dX6_down_1 ?_
  obtain ⟨x1, ex1, hF⟩ := bd_e hF
  refine a_iV1 dX6_down_2 cv_X6_143 (ct_X6_isFarm hg p1 μ ex1.symm) (by decide) (hg.d (by decide)) rfl (Nat.le_of_ble_eq_true rfl) ?_
  refine a_if_eq (tgt := 16) dX6_down_5 (by decide) (fun h5 => ?_) (fun h5 => ?_)
  · rw [if_pos h5] at hF
    refine a_ldc dX6_down_16 k_X6_147 ?_
    obtain rfl := Option.some.inj hF
    exact a_iret dX6_down_18 rfl ⟨rfl, rfl⟩
  · rw [if_neg h5] at hF
    refine a_aload_0 dX6_down_8 ?_
    refine a_iload_1 dX6_down_9 ?_
    obtain ⟨x2, ex2, hF⟩ := ob_e hF
    refine a_iV1 dX6_down_10 cv_X6_217 (ct_X6_downOf hg p1 μ ex2) (by decide) (hg.d (by decide)) rfl (Nat.le_of_ble_eq_true rfl) ?_
    refine a_goto (tgt := 18) dX6_down_13 (by decide) ?_
    obtain rfl := Option.some.inj hF
    exact a_iret dX6_down_18 rfl ⟨rfl, rfl⟩
set_option maxHeartbeats 4000000 in
set_option maxRecDepth 100000 in
theorem ct_X6_up {g : GT} (hg : GC g) (p1 : Int32) (μ : MM)  {r : Int32} (hF : f_X6_up p1 μ = some r) : Ct g 4 mi_X6_up [.ref 0, .int p1] μ (QI r μ) := by
  refine ct_of (k := 0) (by decide +kernel) rfl hg.1 rfl ?_
  show WA g 4 mi_X6_up 0 [some (.ref 0), some (.int p1)] [] μ (QI r μ)
  unfold f_X6_up at hF
  refine a_aload_0 dX6_up_0 ?_
  refine a_iload_1 dX6_up_1 ?_
  obtain ⟨x1, ex1, hF⟩ := bd_e hF
  refine a_iV1 dX6_up_2 cv_X6_143 (ct_X6_isFarm hg p1 μ ex1.symm) (by decide) (hg.d (by decide)) rfl (Nat.le_of_ble_eq_true rfl) ?_
  refine a_if_eq (tgt := 16) dX6_up_5 (by decide) (fun h5 => ?_) (fun h5 => ?_)
  · rw [if_pos h5] at hF
    refine a_ldc dX6_up_16 k_X6_147 ?_
    obtain rfl := Option.some.inj hF
    exact a_iret dX6_up_18 rfl ⟨rfl, rfl⟩
  · rw [if_neg h5] at hF
    refine a_aload_0 dX6_up_8 ?_
    refine a_iload_1 dX6_up_9 ?_
    obtain ⟨x2, ex2, hF⟩ := ob_e hF
    refine a_iV1 dX6_up_10 cv_X6_220 (ct_X6_upOf hg p1 μ ex2) (by decide) (hg.d (by decide)) rfl (Nat.le_of_ble_eq_true rfl) ?_
    refine a_goto (tgt := 18) dX6_up_13 (by decide) ?_
    obtain rfl := Option.some.inj hF
    exact a_iret dX6_up_18 rfl ⟨rfl, rfl⟩
set_option maxHeartbeats 4000000 in
set_option maxRecDepth 100000 in
theorem ct_X6_becomes {g : GT} (hg : GC g) (p1 : Int32) (p2 : Int32) (p3 : Int32) (μ : MM)  {r : Int32} (hF : f_X6_becomes p1 p2 p3 μ = some r) : Ct g 3 mi_X6_becomes [.ref 0, .int p1, .int p2, .int p3] μ (QI r μ) := by
  refine ct_of (k := 0) (by decide +kernel) rfl hg.1 rfl ?_
  show WA g 3 mi_X6_becomes 0 [some (.ref 0), some (.int p1), some (.int p2), some (.int p3)] [] μ (QI r μ)
  unfold f_X6_becomes at hF
  refine a_aload_0 dX6_becomes_0 ?_
  refine a_iload_1 dX6_becomes_1 ?_
  obtain ⟨x1, ex1, hF⟩ := bd_e hF
  refine a_iV1 dX6_becomes_2 cv_X6_143 (ct_X6_isFarm hg p1 μ ex1.symm) (by decide) (hg.d (by decide)) rfl (Nat.le_of_ble_eq_true rfl) ?_
  refine a_if_eq (tgt := 24) dX6_becomes_5 (by decide) (fun h5 => ?_) (fun h5 => ?_)
  · rw [if_pos h5] at hF
    refine a_ldc dX6_becomes_24 k_X6_147 ?_
    obtain rfl := Option.some.inj hF
    exact a_iret dX6_becomes_26 rfl ⟨rfl, rfl⟩
  · rw [if_neg h5] at hF
    refine a_aload_0 dX6_becomes_8 ?_
    refine a_iload_2 dX6_becomes_9 ?_
    obtain ⟨x2, ex2, hF⟩ := bd_e hF
    refine a_iV1 dX6_becomes_10 cv_X6_143 (ct_X6_isFarm hg p2 μ ex2.symm) (by decide) (hg.d (by decide)) rfl (Nat.le_of_ble_eq_true rfl) ?_
    refine a_if_eq (tgt := 24) dX6_becomes_13 (by decide) (fun h13 => ?_) (fun h13 => ?_)
    · rw [if_pos h13] at hF
      refine a_ldc dX6_becomes_24 k_X6_147 ?_
      obtain rfl := Option.some.inj hF
      exact a_iret dX6_becomes_26 rfl ⟨rfl, rfl⟩
    · rw [if_neg h13] at hF
      refine a_aload_0 dX6_becomes_16 ?_
      refine a_iload_3 dX6_becomes_17 ?_
      obtain ⟨x3, ex3, hF⟩ := bd_e hF
      refine a_iV1 dX6_becomes_18 cv_X6_192 (ct_X6_isWord hg p3 μ ex3.symm) (by decide) (hg.d (by decide)) rfl (Nat.le_of_ble_eq_true rfl) ?_
      refine a_if_ne (tgt := 27) dX6_becomes_21 (by decide) (fun h21 => ?_) (fun h21 => ?_)
      · rw [if_neg h21] at hF
        refine a_aload_0 dX6_becomes_27 ?_
        refine a_iload_1 dX6_becomes_28 ?_
        refine a_iload_2 dX6_becomes_29 ?_
        refine a_iload_3 dX6_becomes_30 ?_
        obtain ⟨x4, ex4, hF⟩ := ob_e hF
        refine a_iV3 dX6_becomes_31 cv_X6_223 (ct_X6_wordAt hg p1 p2 p3 μ ex4) (by decide) (hg.d (by decide)) rfl (Nat.le_of_ble_eq_true rfl) ?_
        obtain rfl := Option.some.inj hF
        exact a_iret dX6_becomes_34 rfl ⟨rfl, rfl⟩
      · rw [if_pos h21] at hF
        refine a_ldc dX6_becomes_24 k_X6_147 ?_
        obtain rfl := Option.some.inj hF
        exact a_iret dX6_becomes_26 rfl ⟨rfl, rfl⟩
set_option maxHeartbeats 4000000 in
set_option maxRecDepth 100000 in
theorem ct_X6_takes {g : GT} (hg : GC g) (p1 : Int32) (p2 : Int32) (μ : MM)  {r : Int32} (hF : f_X6_takes p1 p2 μ = some r) : Ct g 3 mi_X6_takes [.ref 0, .int p1, .int p2] μ (QI r μ) := by
  refine ct_of (k := 0) (by decide +kernel) rfl hg.1 rfl ?_
  show WA g 3 mi_X6_takes 0 [some (.ref 0), some (.int p1), some (.int p2)] [] μ (QI r μ)
  unfold f_X6_takes at hF
  refine a_aload_0 dX6_takes_0 ?_
  refine a_iload_1 dX6_takes_1 ?_
  obtain ⟨x1, ex1, hF⟩ := bd_e hF
  refine a_iV1 dX6_takes_2 cv_X6_143 (ct_X6_isFarm hg p1 μ ex1.symm) (by decide) (hg.d (by decide)) rfl (Nat.le_of_ble_eq_true rfl) ?_
  refine a_if_eq (tgt := 16) dX6_takes_5 (by decide) (fun h5 => ?_) (fun h5 => ?_)
  · rw [if_pos h5] at hF
    refine a_ldc dX6_takes_16 k_X6_147 ?_
    obtain rfl := Option.some.inj hF
    exact a_iret dX6_takes_18 rfl ⟨rfl, rfl⟩
  · rw [if_neg h5] at hF
    refine a_aload_0 dX6_takes_8 ?_
    refine a_iload_2 dX6_takes_9 ?_
    obtain ⟨x2, ex2, hF⟩ := bd_e hF
    refine a_iV1 dX6_takes_10 cv_X6_143 (ct_X6_isFarm hg p2 μ ex2.symm) (by decide) (hg.d (by decide)) rfl (Nat.le_of_ble_eq_true rfl) ?_
    refine a_if_ne (tgt := 19) dX6_takes_13 (by decide) (fun h13 => ?_) (fun h13 => ?_)
    · rw [if_neg h13] at hF
      refine a_aload_0 dX6_takes_19 ?_
      refine a_iload_1 dX6_takes_20 ?_
      refine a_iload_2 dX6_takes_21 ?_
      obtain ⟨x3, ex3, hF⟩ := ob_e hF
      refine a_iV2 dX6_takes_22 cv_X6_227 (ct_X6_hoursTo hg p1 p2 μ ex3) (by decide) (hg.d (by decide)) rfl (Nat.le_of_ble_eq_true rfl) ?_
      obtain rfl := Option.some.inj hF
      exact a_iret dX6_takes_25 rfl ⟨rfl, rfl⟩
    · rw [if_pos h13] at hF
      refine a_ldc dX6_takes_16 k_X6_147 ?_
      obtain rfl := Option.some.inj hF
      exact a_iret dX6_takes_18 rfl ⟨rfl, rfl⟩
set_option maxHeartbeats 4000000 in
set_option maxRecDepth 100000 in
theorem ct_X6_wordsFor_L6 {g : GT} (hg : GC g) (l1 : Int32) (l2 : Int32) (l3 : Int32) (μ : MM)  {Q : Option Value → MM → Prop} : ∀ (n : Nat) (l4 : Int32) (l5 : Int32) (z : Int32 × Int32), f_X6_wordsFor_L6 l1 l2 l3 μ n l4 l5 = some z → (WA g 3 mi_X6_wordsFor 45 [some (.ref 0), some (.int l1), some (.int l2), some (.int l3), some (.int z.1), some (.int z.2)] [] μ Q) → WA g 3 mi_X6_wordsFor 6 [some (.ref 0), some (.int l1), some (.int l2), some (.int l3), some (.int l4), some (.int l5)] [] μ Q := by
  intro n
  induction n with
  | zero => intro l4 l5 z hF; exact absurd hF (by simp [f_X6_wordsFor_L6])
  | succ n ih =>
    intro l4 l5 z hF K
    unfold f_X6_wordsFor_L6 at hF
    refine a_iload_5 dX6_wordsFor_6 ?_
    refine a_aload_0 dX6_wordsFor_8 ?_
    refine a_getR (q := 3) dX6_wordsFor_9 fa_X6_19 (hg.d (by decide)) rfl rfl ?_
    refine a_getI dX6_wordsFor_12 fa_X6_105 (hg.d (by decide)) rfl rfl ?_
    refine a_icmp_ge (tgt := 45) dX6_wordsFor_15 (by decide) (fun h15 => ?_) (fun h15 => ?_)
    · rw [if_pos h15] at hF
      obtain rfl := Option.some.inj hF
      exact K
    · rw [if_neg h15] at hF
      refine a_aload_0 dX6_wordsFor_18 ?_
      refine a_iload_1 dX6_wordsFor_19 ?_
      refine a_iload_2 dX6_wordsFor_20 ?_
      refine a_iload_5 dX6_wordsFor_21 ?_
      obtain ⟨x1, ex1, hF⟩ := ob_e hF
      refine a_iV3 dX6_wordsFor_23 cv_X6_223 (ct_X6_wordAt hg l1 l2 l5 μ ex1) (by decide) (hg.d (by decide)) rfl (Nat.le_of_ble_eq_true rfl) ?_
      refine a_iload_3 dX6_wordsFor_26 ?_
      refine a_icmp_ne (tgt := 39) dX6_wordsFor_27 (by decide) (fun h27 => ?_) (fun h27 => ?_)
      · rw [if_neg h27] at hF
        refine a_iinc_5 (c0 := 1) dX6_wordsFor_39 (by decide) (by decide) rfl ?_
        refine a_goto (tgt := 6) dX6_wordsFor_42 (by decide) ?_
        exact ih l4 (l5 + 1) _ hF K
      · rw [if_pos h27] at hF
        refine a_iload_4 dX6_wordsFor_30 ?_
        refine a_iconst (v := 1) dX6_wordsFor_32 (by decide) ?_
        refine a_iload_5 dX6_wordsFor_33 ?_
        refine a_shl dX6_wordsFor_35 ?_
        refine a_ior dX6_wordsFor_36 ?_
        obtain ⟨v2, ev2, hF⟩ := bd_e hF
        refine a_nm ev2 ?_
        refine a_istore_4 dX6_wordsFor_37 (by decide) rfl ?_
        refine a_iinc_5 (c0 := 1) dX6_wordsFor_39 (by decide) (by decide) rfl ?_
        refine a_goto (tgt := 6) dX6_wordsFor_42 (by decide) ?_
        exact ih v2 (l5 + 1) _ hF K
set_option maxHeartbeats 4000000 in
set_option maxRecDepth 100000 in
theorem ct_X6_wordsFor {g : GT} (hg : GC g) (p1 : Int32) (p2 : Int32) (p3 : Int32) (μ : MM)  {r : Int32} (hF : f_X6_wordsFor p1 p2 p3 μ = some r) : Ct g 3 mi_X6_wordsFor [.ref 0, .int p1, .int p2, .int p3] μ (QI r μ) := by
  refine ct_of (k := 2) (by decide +kernel) rfl hg.1 rfl ?_
  show WA g 3 mi_X6_wordsFor 0 [some (.ref 0), some (.int p1), some (.int p2), some (.int p3), none, none] [] μ (QI r μ)
  unfold f_X6_wordsFor at hF
  refine a_iconst (v := 0) dX6_wordsFor_0 (by decide) ?_
  refine a_istore_4 dX6_wordsFor_1 (by decide) rfl ?_
  refine a_iconst (v := 0) dX6_wordsFor_3 (by decide) ?_
  refine a_istore_5 dX6_wordsFor_4 (by decide) rfl ?_
  obtain ⟨z3, ez3, hF⟩ := ob_e hF
  refine ct_X6_wordsFor_L6 hg p1 p2 p3 μ  FU 0 0 z3 ez3 ?_
  refine a_iload_4 dX6_wordsFor_45 ?_
  obtain rfl := Option.some.inj hF
  exact a_iret dX6_wordsFor_47 rfl ⟨rfl, rfl⟩
set_option maxHeartbeats 4000000 in
set_option maxRecDepth 100000 in
theorem ct_X6_toSay {g : GT} (hg : GC g) (p1 : Int32) (p2 : Int32) (p3 : Int32) (μ : MM)  {r : Int32} (hF : f_X6_toSay p1 p2 p3 μ = some r) : Ct g 4 mi_X6_toSay [.ref 0, .int p1, .int p2, .int p3] μ (QI r μ) := by
  refine ct_of (k := 0) (by decide +kernel) rfl hg.1 rfl ?_
  show WA g 4 mi_X6_toSay 0 [some (.ref 0), some (.int p1), some (.int p2), some (.int p3)] [] μ (QI r μ)
  unfold f_X6_toSay at hF
  refine a_aload_0 dX6_toSay_0 ?_
  refine a_iload_1 dX6_toSay_1 ?_
  obtain ⟨x1, ex1, hF⟩ := bd_e hF
  refine a_iV1 dX6_toSay_2 cv_X6_143 (ct_X6_isFarm hg p1 μ ex1.symm) (by decide) (hg.d (by decide)) rfl (Nat.le_of_ble_eq_true rfl) ?_
  refine a_if_eq (tgt := 24) dX6_toSay_5 (by decide) (fun h5 => ?_) (fun h5 => ?_)
  · rw [if_pos h5] at hF
    refine a_ldc dX6_toSay_24 k_X6_147 ?_
    obtain rfl := Option.some.inj hF
    exact a_iret dX6_toSay_26 rfl ⟨rfl, rfl⟩
  · rw [if_neg h5] at hF
    refine a_aload_0 dX6_toSay_8 ?_
    refine a_iload_2 dX6_toSay_9 ?_
    obtain ⟨x2, ex2, hF⟩ := bd_e hF
    refine a_iV1 dX6_toSay_10 cv_X6_143 (ct_X6_isFarm hg p2 μ ex2.symm) (by decide) (hg.d (by decide)) rfl (Nat.le_of_ble_eq_true rfl) ?_
    refine a_if_eq (tgt := 24) dX6_toSay_13 (by decide) (fun h13 => ?_) (fun h13 => ?_)
    · rw [if_pos h13] at hF
      refine a_ldc dX6_toSay_24 k_X6_147 ?_
      obtain rfl := Option.some.inj hF
      exact a_iret dX6_toSay_26 rfl ⟨rfl, rfl⟩
    · rw [if_neg h13] at hF
      refine a_aload_0 dX6_toSay_16 ?_
      refine a_iload_3 dX6_toSay_17 ?_
      obtain ⟨x3, ex3, hF⟩ := bd_e hF
      refine a_iV1 dX6_toSay_18 cv_X6_192 (ct_X6_isWord hg p3 μ ex3.symm) (by decide) (hg.d (by decide)) rfl (Nat.le_of_ble_eq_true rfl) ?_
      refine a_if_ne (tgt := 27) dX6_toSay_21 (by decide) (fun h21 => ?_) (fun h21 => ?_)
      · rw [if_neg h21] at hF
        refine a_aload_0 dX6_toSay_27 ?_
        refine a_iload_1 dX6_toSay_28 ?_
        refine a_iload_2 dX6_toSay_29 ?_
        refine a_iload_3 dX6_toSay_30 ?_
        obtain ⟨x4, ex4, hF⟩ := ob_e hF
        refine a_iV3 dX6_toSay_31 cv_X6_230 (ct_X6_wordsFor hg p1 p2 p3 μ ex4) (by decide) (hg.d (by decide)) rfl (Nat.le_of_ble_eq_true rfl) ?_
        obtain rfl := Option.some.inj hF
        exact a_iret dX6_toSay_34 rfl ⟨rfl, rfl⟩
      · rw [if_pos h21] at hF
        refine a_ldc dX6_toSay_24 k_X6_147 ?_
        obtain rfl := Option.some.inj hF
        exact a_iret dX6_toSay_26 rfl ⟨rfl, rfl⟩
set_option maxHeartbeats 4000000 in
set_option maxRecDepth 100000 in
theorem ct_X6_origin_L51 {g : GT} (hg : GC g) (l1 : Int32) (l2 : Int32) (l3 : Int32) (μ : MM)  {Q : Option Value → MM → Prop} : ∀ (n : Nat) (l4 : Int32) (l5 : Int32) (z : Int32 × Int32), f_X6_origin_L51 l1 l2 l3 μ n l4 l5 = some z → (WA g 4 mi_X6_origin 85 [some (.ref 0), some (.int l1), some (.int l2), some (.int l3), some (.int z.1), some (.int z.2)] [] μ Q) → WA g 4 mi_X6_origin 51 [some (.ref 0), some (.int l1), some (.int l2), some (.int l3), some (.int l4), some (.int l5)] [] μ Q := by
  intro n
  induction n with
  | zero => intro l4 l5 z hF; exact absurd hF (by simp [f_X6_origin_L51])
  | succ n ih =>
    intro l4 l5 z hF K
    unfold f_X6_origin_L51 at hF
    refine a_iload_5 dX6_origin_51 ?_
    refine a_aload_0 dX6_origin_53 ?_
    refine a_getR (q := 3) dX6_origin_54 fa_X6_19 (hg.d (by decide)) rfl rfl ?_
    refine a_getI dX6_origin_57 fa_X6_99 (hg.d (by decide)) rfl rfl ?_
    refine a_icmp_ge (tgt := 85) dX6_origin_60 (by decide) (fun h60 => ?_) (fun h60 => ?_)
    · rw [if_pos h60] at hF
      obtain rfl := Option.some.inj hF
      exact K
    · rw [if_neg h60] at hF
      refine a_iload_4 dX6_origin_63 ?_
      refine a_aload_0 dX6_origin_65 ?_
      refine a_iload_5 dX6_origin_66 ?_
      refine a_iload_1 dX6_origin_68 ?_
      refine a_iload_2 dX6_origin_69 ?_
      obtain ⟨x3, ex3, hF⟩ := ob_e hF
      refine a_iV3 dX6_origin_70 cv_X6_230 (ct_X6_wordsFor hg l5 l1 l2 μ ex3) (by decide) (hg.d (by decide)) rfl (Nat.le_of_ble_eq_true rfl) ?_
      obtain ⟨x4, ex4, hF⟩ := bd_e hF
      refine a_iS1 dX6_origin_73 cs_X6_233 (ct_J6_bitCount_0f7a4 hg.1 x3 μ ex4.symm) (by decide) (Nat.le_of_ble_eq_true rfl) ?_
      refine a_iadd dX6_origin_76 ?_
      obtain ⟨v5, ev5, hF⟩ := bd_e hF
      refine a_nm ev5 ?_
      refine a_istore_4 dX6_origin_77 (by decide) rfl ?_
      refine a_iinc_5 (c0 := 1) dX6_origin_79 (by decide) (by decide) rfl ?_
      refine a_goto (tgt := 51) dX6_origin_82 (by decide) ?_
      exact ih v5 (l5 + 1) _ hF K
set_option maxHeartbeats 4000000 in
set_option maxRecDepth 100000 in
theorem ct_X6_origin {g : GT} (hg : GC g) (p1 : Int32) (p2 : Int32) (p3 : Int32) (μ : MM)  {r : Int32} (hF : f_X6_origin p1 p2 p3 μ = some r) : Ct g 4 mi_X6_origin [.ref 0, .int p1, .int p2, .int p3] μ (QI r μ) := by
  refine ct_of (k := 2) (by decide +kernel) rfl hg.1 rfl ?_
  show WA g 4 mi_X6_origin 0 [some (.ref 0), some (.int p1), some (.int p2), some (.int p3), none, none] [] μ (QI r μ)
  unfold f_X6_origin at hF
  refine a_aload_0 dX6_origin_0 ?_
  refine a_iload_1 dX6_origin_1 ?_
  obtain ⟨x1, ex1, hF⟩ := bd_e hF
  refine a_iV1 dX6_origin_2 cv_X6_143 (ct_X6_isFarm hg p1 μ ex1.symm) (by decide) (hg.d (by decide)) rfl (Nat.le_of_ble_eq_true rfl) ?_
  refine a_if_eq (tgt := 29) dX6_origin_5 (by decide) (fun h5 => ?_) (fun h5 => ?_)
  · rw [if_pos h5] at hF
    refine a_ldc dX6_origin_29 k_X6_147 ?_
    obtain rfl := Option.some.inj hF
    exact a_iret dX6_origin_31 rfl ⟨rfl, rfl⟩
  · rw [if_neg h5] at hF
    refine a_aload_0 dX6_origin_8 ?_
    refine a_iload_2 dX6_origin_9 ?_
    obtain ⟨x2, ex2, hF⟩ := bd_e hF
    refine a_iV1 dX6_origin_10 cv_X6_192 (ct_X6_isWord hg p2 μ ex2.symm) (by decide) (hg.d (by decide)) rfl (Nat.le_of_ble_eq_true rfl) ?_
    refine a_if_eq (tgt := 29) dX6_origin_13 (by decide) (fun h13 => ?_) (fun h13 => ?_)
    · rw [if_pos h13] at hF
      refine a_ldc dX6_origin_29 k_X6_147 ?_
      obtain rfl := Option.some.inj hF
      exact a_iret dX6_origin_31 rfl ⟨rfl, rfl⟩
    · rw [if_neg h13] at hF
      refine a_iload_3 dX6_origin_16 ?_
      refine a_iconst (v := (-1)) dX6_origin_17 (by decide) ?_
      refine a_icmp_eq (tgt := 32) dX6_origin_18 (by decide) (fun h18 => ?_) (fun h18 => ?_)
      · rw [if_pos h18] at hF
        refine a_iload_3 dX6_origin_32 ?_
        refine a_iconst (v := (-1)) dX6_origin_33 (by decide) ?_
        refine a_icmp_eq (tgt := 45) dX6_origin_34 (by decide) (fun h34 => ?_) (fun h34 => ?_)
        · rw [if_pos h34] at hF
          refine a_iconst (v := 0) dX6_origin_45 (by decide) ?_
          refine a_istore_4 dX6_origin_46 (by decide) rfl ?_
          refine a_iconst (v := 0) dX6_origin_48 (by decide) ?_
          refine a_istore_5 dX6_origin_49 (by decide) rfl ?_
          obtain ⟨z6, ez6, hF⟩ := ob_e hF
          refine ct_X6_origin_L51 hg p1 p2 p3 μ  FU 0 0 z6 ez6 ?_
          refine a_iload_4 dX6_origin_85 ?_
          obtain rfl := Option.some.inj hF
          exact a_iret dX6_origin_87 rfl ⟨rfl, rfl⟩
        · rw [if_neg h34] at hF
          refine a_aload_0 dX6_origin_37 ?_
          refine a_iload_3 dX6_origin_38 ?_
          refine a_iload_1 dX6_origin_39 ?_
          refine a_iload_2 dX6_origin_40 ?_
          obtain ⟨x7, ex7, hF⟩ := ob_e hF
          refine a_iV3 dX6_origin_41 cv_X6_230 (ct_X6_wordsFor hg p3 p1 p2 μ ex7) (by decide) (hg.d (by decide)) rfl (Nat.le_of_ble_eq_true rfl) ?_
          obtain rfl := Option.some.inj hF
          exact a_iret dX6_origin_44 rfl ⟨rfl, rfl⟩
      · rw [if_neg h18] at hF
        refine a_aload_0 dX6_origin_21 ?_
        refine a_iload_3 dX6_origin_22 ?_
        obtain ⟨x8, ex8, hF⟩ := bd_e hF
        refine a_iV1 dX6_origin_23 cv_X6_143 (ct_X6_isFarm hg p3 μ ex8.symm) (by decide) (hg.d (by decide)) rfl (Nat.le_of_ble_eq_true rfl) ?_
        refine a_if_ne (tgt := 32) dX6_origin_26 (by decide) (fun h26 => ?_) (fun h26 => ?_)
        · rw [if_neg h26] at hF
          refine a_iload_3 dX6_origin_32 ?_
          refine a_iconst (v := (-1)) dX6_origin_33 (by decide) ?_
          refine a_icmp_eq (tgt := 45) dX6_origin_34 (by decide) (fun h34 => ?_) (fun h34 => ?_)
          · rw [if_pos h34] at hF
            refine a_iconst (v := 0) dX6_origin_45 (by decide) ?_
            refine a_istore_4 dX6_origin_46 (by decide) rfl ?_
            refine a_iconst (v := 0) dX6_origin_48 (by decide) ?_
            refine a_istore_5 dX6_origin_49 (by decide) rfl ?_
            obtain ⟨z9, ez9, hF⟩ := ob_e hF
            refine ct_X6_origin_L51 hg p1 p2 p3 μ  FU 0 0 z9 ez9 ?_
            refine a_iload_4 dX6_origin_85 ?_
            obtain rfl := Option.some.inj hF
            exact a_iret dX6_origin_87 rfl ⟨rfl, rfl⟩
          · rw [if_neg h34] at hF
            refine a_aload_0 dX6_origin_37 ?_
            refine a_iload_3 dX6_origin_38 ?_
            refine a_iload_1 dX6_origin_39 ?_
            refine a_iload_2 dX6_origin_40 ?_
            obtain ⟨x10, ex10, hF⟩ := ob_e hF
            refine a_iV3 dX6_origin_41 cv_X6_230 (ct_X6_wordsFor hg p3 p1 p2 μ ex10) (by decide) (hg.d (by decide)) rfl (Nat.le_of_ble_eq_true rfl) ?_
            obtain rfl := Option.some.inj hF
            exact a_iret dX6_origin_44 rfl ⟨rfl, rfl⟩
        · rw [if_pos h26] at hF
          refine a_ldc dX6_origin_29 k_X6_147 ?_
          obtain rfl := Option.some.inj hF
          exact a_iret dX6_origin_31 rfl ⟨rfl, rfl⟩
set_option maxHeartbeats 4000000 in
set_option maxRecDepth 100000 in
theorem ct_X6_areFarms {g : GT} (hg : GC g) (p1 : Int32) (μ : MM)  {r : Int32} (hF : f_X6_areFarms p1 μ = r) : Ct g 0 mi_X6_areFarms [.ref 0, .int p1] μ (QI r μ) := by
  refine ct_of (k := 0) (by decide +kernel) rfl hg.1 rfl ?_
  show WA g 0 mi_X6_areFarms 0 [some (.ref 0), some (.int p1)] [] μ (QI r μ)
  unfold f_X6_areFarms at hF
  refine a_iload_1 dX6_areFarms_0 ?_
  refine a_iconst (v := 1) dX6_areFarms_1 (by decide) ?_
  refine a_aload_0 dX6_areFarms_2 ?_
  refine a_getR (q := 3) dX6_areFarms_3 fa_X6_19 (hg.d (by decide)) rfl rfl ?_
  refine a_getI dX6_areFarms_6 fa_X6_99 (hg.d (by decide)) rfl rfl ?_
  refine a_shl dX6_areFarms_9 ?_
  refine a_ineg dX6_areFarms_10 ?_
  refine a_iand dX6_areFarms_11 ?_
  refine a_if_ne (tgt := 19) dX6_areFarms_12 (by decide) (fun h12 => ?_) (fun h12 => ?_)
  · rw [if_neg h12] at hF
    refine a_iconst (v := 0) dX6_areFarms_19 (by decide) ?_
    subst hF
    exact a_zret dX6_areFarms_20 rfl (Or.inl rfl) ⟨rfl, rfl⟩
  · rw [if_pos h12] at hF
    refine a_iconst (v := 1) dX6_areFarms_15 (by decide) ?_
    refine a_goto (tgt := 20) dX6_areFarms_16 (by decide) ?_
    subst hF
    exact a_zret dX6_areFarms_20 rfl (Or.inr rfl) ⟨rfl, rfl⟩
set_option maxHeartbeats 4000000 in
set_option maxRecDepth 100000 in
theorem ct_X6_privately_L15 {g : GT} (hg : GC g) (l1 : Int32) (μ : MM)  {Q : Option Value → MM → Prop} : ∀ (n : Nat) (l2 : Int32) (l3 : Int32) (z : Int32 × Int32), f_X6_privately_L15 l1 μ n l2 l3 = some z → (WA g 3 mi_X6_privately 48 [some (.ref 0), some (.int l1), some (.int z.1), some (.int z.2)] [] μ Q) → WA g 3 mi_X6_privately 15 [some (.ref 0), some (.int l1), some (.int l2), some (.int l3)] [] μ Q := by
  intro n
  induction n with
  | zero => intro l2 l3 z hF; exact absurd hF (by simp [f_X6_privately_L15])
  | succ n ih =>
    intro l2 l3 z hF K
    unfold f_X6_privately_L15 at hF
    refine a_iload_3 dX6_privately_15 ?_
    refine a_aload_0 dX6_privately_16 ?_
    refine a_getR (q := 3) dX6_privately_17 fa_X6_19 (hg.d (by decide)) rfl rfl ?_
    refine a_getI dX6_privately_20 fa_X6_99 (hg.d (by decide)) rfl rfl ?_
    refine a_icmp_ge (tgt := 48) dX6_privately_23 (by decide) (fun h23 => ?_) (fun h23 => ?_)
    · rw [if_pos h23] at hF
      obtain rfl := Option.some.inj hF
      exact K
    · rw [if_neg h23] at hF
      refine a_aload_0 dX6_privately_26 ?_
      refine a_iload_3 dX6_privately_27 ?_
      obtain ⟨x2, ex2, hF⟩ := ob_e hF
      refine a_iV1 dX6_privately_28 cv_X6_217 (ct_X6_downOf hg l3 μ ex2) (by decide) (hg.d (by decide)) rfl (Nat.le_of_ble_eq_true rfl) ?_
      refine a_iload_1 dX6_privately_31 ?_
      refine a_iand dX6_privately_32 ?_
      refine a_if_ne (tgt := 42) dX6_privately_33 (by decide) (fun h33 => ?_) (fun h33 => ?_)
      · rw [if_neg h33] at hF
        refine a_iinc_3 (c0 := 1) dX6_privately_42 (by decide) (by decide) rfl ?_
        refine a_goto (tgt := 15) dX6_privately_45 (by decide) ?_
        exact ih l2 (l3 + 1) _ hF K
      · rw [if_pos h33] at hF
        refine a_iload_2 dX6_privately_36 ?_
        refine a_iconst (v := 1) dX6_privately_37 (by decide) ?_
        refine a_iload_3 dX6_privately_38 ?_
        refine a_shl dX6_privately_39 ?_
        refine a_ior dX6_privately_40 ?_
        obtain ⟨v3, ev3, hF⟩ := bd_e hF
        refine a_nm ev3 ?_
        refine a_istore_2 dX6_privately_41 (by decide) rfl ?_
        refine a_iinc_3 (c0 := 1) dX6_privately_42 (by decide) (by decide) rfl ?_
        refine a_goto (tgt := 15) dX6_privately_45 (by decide) ?_
        exact ih v3 (l3 + 1) _ hF K
set_option maxHeartbeats 4000000 in
set_option maxRecDepth 100000 in
theorem ct_X6_privately {g : GT} (hg : GC g) (p1 : Int32) (μ : MM)  {r : Int32} (hF : f_X6_privately p1 μ = some r) : Ct g 3 mi_X6_privately [.ref 0, .int p1] μ (QI r μ) := by
  refine ct_of (k := 2) (by decide +kernel) rfl hg.1 rfl ?_
  show WA g 3 mi_X6_privately 0 [some (.ref 0), some (.int p1), none, none] [] μ (QI r μ)
  unfold f_X6_privately at hF
  refine a_aload_0 dX6_privately_0 ?_
  refine a_iload_1 dX6_privately_1 ?_
  obtain ⟨x1, ex1, hF⟩ := bd_e hF
  refine a_iV1 dX6_privately_2 cv_X6_238 (ct_X6_areFarms hg p1 μ ex1.symm) (by decide) (hg.d (by decide)) rfl (Nat.le_of_ble_eq_true rfl) ?_
  refine a_if_ne (tgt := 11) dX6_privately_5 (by decide) (fun h5 => ?_) (fun h5 => ?_)
  · rw [if_neg h5] at hF
    refine a_iconst (v := 0) dX6_privately_11 (by decide) ?_
    refine a_istore_2 dX6_privately_12 (by decide) rfl ?_
    refine a_iconst (v := 1) dX6_privately_13 (by decide) ?_
    refine a_istore_3 dX6_privately_14 (by decide) rfl ?_
    obtain ⟨z4, ez4, hF⟩ := ob_e hF
    refine ct_X6_privately_L15 hg p1 μ  FU 0 1 z4 ez4 ?_
    refine a_iload_2 dX6_privately_48 ?_
    obtain rfl := Option.some.inj hF
    exact a_iret dX6_privately_49 rfl ⟨rfl, rfl⟩
  · rw [if_pos h5] at hF
    refine a_ldc dX6_privately_8 k_X6_147 ?_
    obtain rfl := Option.some.inj hF
    exact a_iret dX6_privately_10 rfl ⟨rfl, rfl⟩
set_option maxHeartbeats 4000000 in
set_option maxRecDepth 100000 in
theorem ct_X6_fewestDams_L8 {g : GT} (hg : GC g) (l1 : Int32) (l2 : Int32) (μ : MM)  {Q : Option Value → MM → Prop} : ∀ (n : Nat) (l3 : Int32) (l4 : Int32) (l5 : Int32) (z : (Int32 × Int32 × Int32) ⊕ (Int32)), f_X6_fewestDams_L8 l1 l2 μ n l3 l4 l5 = some z → (match z with | .inl z => WA g 2 mi_X6_fewestDams 67 [some (.ref 0), some (.int l1), some (.int l2), some (.int z.1), some (.int z.2.1), some (.int z.2.2), none] [] μ Q | .inr r => Q (some (.int r)) μ) → WA g 2 mi_X6_fewestDams 8 [some (.ref 0), some (.int l1), some (.int l2), some (.int l3), some (.int l4), some (.int l5), none] [] μ Q := by
  intro n
  induction n with
  | zero => intro l3 l4 l5 z hF; exact absurd hF (by simp [f_X6_fewestDams_L8])
  | succ n ih =>
    intro l3 l4 l5 z hF K
    unfold f_X6_fewestDams_L8 at hF
    refine a_iload_5 dX6_fewestDams_8 ?_
    refine a_bipush (v := 9) dX6_fewestDams_10 (by decide) ?_
    refine a_icmp_ge (tgt := 67) dX6_fewestDams_12 (by decide) (fun h12 => ?_) (fun h12 => ?_)
    · rw [if_pos h12] at hF
      obtain rfl := Option.some.inj hF
      exact K
    · rw [if_neg h12] at hF
      refine a_iload_4 dX6_fewestDams_15 ?_
      refine a_if_eq (tgt := 67) dX6_fewestDams_17 (by decide) (fun h17 => ?_) (fun h17 => ?_)
      · rw [if_pos h17] at hF
        obtain rfl := Option.some.inj hF
        exact K
      · rw [if_neg h17] at hF
        refine a_aload_0 dX6_fewestDams_20 ?_
        refine a_getR (q := 3) dX6_fewestDams_21 fa_X6_19 (hg.d (by decide)) rfl rfl ?_
        refine a_getR (q := 4) dX6_fewestDams_24 fa_X6_148 (hg.d (by decide)) rfl rfl ?_
        refine a_iload_4 dX6_fewestDams_27 ?_
        obtain ⟨x1, ex1, hF⟩ := bd_e hF
        refine a_iS2 dX6_fewestDams_29 cs_X6_151 (ct_X6_cell hg 4 l4 μ ⟨hg.d (by decide), by decide, rfl⟩ ex1.symm) (by decide) (Nat.le_of_ble_eq_true rfl) ?_
        refine a_istore_6 dX6_fewestDams_32 (by decide) rfl ?_
        refine a_iload_2 dX6_fewestDams_34 ?_
        refine a_iload_6 dX6_fewestDams_35 ?_
        obtain ⟨x2, ex2, hF⟩ := bd_e hF
        refine a_iS2 dX6_fewestDams_37 cs_X6_200 (ct_X6_holds hg l2 x1 μ ex2.symm) (by decide) (Nat.le_of_ble_eq_true rfl) ?_
        refine a_if_eq (tgt := 45) dX6_fewestDams_40 (by decide) (fun h40 => ?_) (fun h40 => ?_)
        · rw [if_pos h40] at hF
          refine a_iconst (v := 1) dX6_fewestDams_45 (by decide) ?_
          refine a_iload_6 dX6_fewestDams_46 ?_
          refine a_shl dX6_fewestDams_48 ?_
          obtain ⟨v3, ev3, hF⟩ := bd_e hF
          refine a_nm ev3 ?_
          refine a_istore_3 dX6_fewestDams_49 (by decide) rfl ?_
          refine a_aload_0 dX6_fewestDams_50 ?_
          refine a_getR (q := 24) dX6_fewestDams_51 fa_X6_29 (hg.d (by decide)) rfl rfl ?_
          refine a_iload_6 dX6_fewestDams_54 ?_
          obtain ⟨x4, ex4, hF⟩ := bd_e hF
          refine a_iV1 dX6_fewestDams_56 cv_X6_278 (ct_X5_goesOnFrom hg 24 x1 μ ⟨0, by decide, rfl⟩ ex4.symm) (by decide) (hg.d (by decide)) rfl (Nat.le_of_ble_eq_true rfl) ?_
          refine a_istore_4 dX6_fewestDams_59 (by decide) rfl ?_
          refine a_iinc_5 (c0 := 1) dX6_fewestDams_61 (by decide) (by decide) rfl ?_
          refine a_goto (tgt := 8) dX6_fewestDams_64 (by decide) ?_
          exact a_wk2 (ih v3 x4 (l5 + 1) _ hF K) (by simp [wk])
        · rw [if_neg h40] at hF
          refine a_iload_3 dX6_fewestDams_43 ?_
          obtain rfl := Option.some.inj hF
          exact a_iret dX6_fewestDams_44 rfl K
set_option maxHeartbeats 4000000 in
set_option maxRecDepth 100000 in
theorem ct_X6_fewestDams {g : GT} (hg : GC g) (p1 : Int32) (p2 : Int32) (μ : MM)  {r : Int32} (hF : f_X6_fewestDams p1 p2 μ = some r) : Ct g 2 mi_X6_fewestDams [.ref 0, .int p1, .int p2] μ (QI r μ) := by
  refine ct_of (k := 4) (by decide +kernel) rfl hg.1 rfl ?_
  show WA g 2 mi_X6_fewestDams 0 [some (.ref 0), some (.int p1), some (.int p2), none, none, none, none] [] μ (QI r μ)
  unfold f_X6_fewestDams at hF
  refine a_iconst (v := (-1)) dX6_fewestDams_0 (by decide) ?_
  refine a_istore_3 dX6_fewestDams_1 (by decide) rfl ?_
  refine a_iload_1 dX6_fewestDams_2 ?_
  refine a_istore_4 dX6_fewestDams_3 (by decide) rfl ?_
  refine a_iconst (v := 0) dX6_fewestDams_5 (by decide) ?_
  refine a_istore_5 dX6_fewestDams_6 (by decide) rfl ?_
  obtain ⟨z5, ez5, hF⟩ := ob_e hF
  refine ct_X6_fewestDams_L8 hg p1 p2 μ  FU (-1) p1 0 z5 ez5 ?_
  rcases z5 with y6 | r
  · rw [Sum.elim_inl] at hF
    dsimp only
    refine a_iconst (v := 0) dX6_fewestDams_67 (by decide) ?_
    obtain rfl := Option.some.inj hF
    exact a_iret dX6_fewestDams_68 rfl ⟨rfl, rfl⟩
  · rw [Sum.elim_inr] at hF
    dsimp only
    obtain rfl := Option.some.inj hF
    exact ⟨rfl, rfl⟩
set_option maxHeartbeats 4000000 in
set_option maxRecDepth 100000 in
theorem ct_X6_dams {g : GT} (hg : GC g) (p1 : Int32) (p2 : Int32) (μ : MM)  {r : Int32} (hF : f_X6_dams p1 p2 μ = some r) : Ct g 3 mi_X6_dams [.ref 0, .int p1, .int p2] μ (QI r μ) := by
  refine ct_of (k := 0) (by decide +kernel) rfl hg.1 rfl ?_
  show WA g 3 mi_X6_dams 0 [some (.ref 0), some (.int p1), some (.int p2)] [] μ (QI r μ)
  unfold f_X6_dams at hF
  refine a_aload_0 dX6_dams_0 ?_
  refine a_iload_1 dX6_dams_1 ?_
  obtain ⟨x1, ex1, hF⟩ := bd_e hF
  refine a_iV1 dX6_dams_2 cv_X6_143 (ct_X6_isFarm hg p1 μ ex1.symm) (by decide) (hg.d (by decide)) rfl (Nat.le_of_ble_eq_true rfl) ?_
  refine a_if_eq (tgt := 16) dX6_dams_5 (by decide) (fun h5 => ?_) (fun h5 => ?_)
  · rw [if_pos h5] at hF
    refine a_ldc dX6_dams_16 k_X6_147 ?_
    obtain rfl := Option.some.inj hF
    exact a_iret dX6_dams_18 rfl ⟨rfl, rfl⟩
  · rw [if_neg h5] at hF
    refine a_aload_0 dX6_dams_8 ?_
    refine a_iload_2 dX6_dams_9 ?_
    obtain ⟨x2, ex2, hF⟩ := bd_e hF
    refine a_iV1 dX6_dams_10 cv_X6_238 (ct_X6_areFarms hg p2 μ ex2.symm) (by decide) (hg.d (by decide)) rfl (Nat.le_of_ble_eq_true rfl) ?_
    refine a_if_ne (tgt := 19) dX6_dams_13 (by decide) (fun h13 => ?_) (fun h13 => ?_)
    · rw [if_neg h13] at hF
      refine a_aload_0 dX6_dams_19 ?_
      refine a_iload_1 dX6_dams_20 ?_
      refine a_iload_2 dX6_dams_21 ?_
      obtain ⟨x3, ex3, hF⟩ := ob_e hF
      refine a_iV2 dX6_dams_22 cv_X6_241 (ct_X6_fewestDams hg p1 p2 μ ex3) (by decide) (hg.d (by decide)) rfl (Nat.le_of_ble_eq_true rfl) ?_
      obtain rfl := Option.some.inj hF
      exact a_iret dX6_dams_25 rfl ⟨rfl, rfl⟩
    · rw [if_pos h13] at hF
      refine a_ldc dX6_dams_16 k_X6_147 ?_
      obtain rfl := Option.some.inj hF
      exact a_iret dX6_dams_18 rfl ⟨rfl, rfl⟩
set_option maxHeartbeats 4000000 in
set_option maxRecDepth 100000 in
theorem ct_X6_willHear {g : GT} (hg : GC g) (p1 : Int32) (p2 : Int32) (p3 : Int32) (μ : MM)  {r : Int32 × MM} (hF : f_X6_willHear p1 p2 p3 μ = some r) : Ct g 5 mi_X6_willHear [.ref 0, .int p1, .int p2, .int p3] μ (QI r.1 r.2) := by
  refine ct_of (k := 0) (by decide +kernel) rfl hg.1 rfl ?_
  show WA g 5 mi_X6_willHear 0 [some (.ref 0), some (.int p1), some (.int p2), some (.int p3)] [] μ (QI r.1 r.2)
  unfold f_X6_willHear at hF
  refine a_aload_0 dX6_willHear_0 ?_
  refine a_iload_1 dX6_willHear_1 ?_
  obtain ⟨x1, ex1, hF⟩ := bd_e hF
  refine a_iV1 dX6_willHear_2 cv_X6_143 (ct_X6_isFarm hg p1 μ ex1.symm) (by decide) (hg.d (by decide)) rfl (Nat.le_of_ble_eq_true rfl) ?_
  refine a_if_ne (tgt := 11) dX6_willHear_5 (by decide) (fun h5 => ?_) (fun h5 => ?_)
  · rw [if_neg h5] at hF
    refine a_iload_2 dX6_willHear_11 ?_
    refine a_if_lt (tgt := 30) dX6_willHear_12 (by decide) (fun h12 => ?_) (fun h12 => ?_)
    · rw [if_pos h12] at hF
      refine a_ldc dX6_willHear_30 k_X6_65 ?_
      obtain rfl := Option.some.inj hF
      exact a_iret dX6_willHear_32 rfl ⟨rfl, rfl⟩
    · rw [if_neg h12] at hF
      refine a_iload_2 dX6_willHear_15 ?_
      refine a_bipush (v := 100) dX6_willHear_16 (by decide) ?_
      refine a_icmp_gt (tgt := 30) dX6_willHear_18 (by decide) (fun h18 => ?_) (fun h18 => ?_)
      · rw [if_pos h18] at hF
        refine a_ldc dX6_willHear_30 k_X6_65 ?_
        obtain rfl := Option.some.inj hF
        exact a_iret dX6_willHear_32 rfl ⟨rfl, rfl⟩
      · rw [if_neg h18] at hF
        refine a_iload_3 dX6_willHear_21 ?_
        refine a_if_lt (tgt := 30) dX6_willHear_22 (by decide) (fun h22 => ?_) (fun h22 => ?_)
        · rw [if_pos h22] at hF
          refine a_ldc dX6_willHear_30 k_X6_65 ?_
          obtain rfl := Option.some.inj hF
          exact a_iret dX6_willHear_32 rfl ⟨rfl, rfl⟩
        · rw [if_neg h22] at hF
          refine a_iload_3 dX6_willHear_25 ?_
          refine a_iconst (v := 1) dX6_willHear_26 (by decide) ?_
          refine a_icmp_le (tgt := 33) dX6_willHear_27 (by decide) (fun h27 => ?_) (fun h27 => ?_)
          · rw [if_pos h27] at hF
            refine a_aload_0 dX6_willHear_33 ?_
            refine a_getR (q := 30) dX6_willHear_34 fa_X6_33 (hg.d (by decide)) rfl rfl ?_
            refine a_aload_0 dX6_willHear_37 ?_
            refine a_getR (q := 24) dX6_willHear_38 fa_X6_29 (hg.d (by decide)) rfl rfl ?_
            obtain ⟨x2, ex2, hF⟩ := ob_e hF
            refine a_vV1 dX6_willHear_41 cv_X6_244 (ct_X5_copyFrom hg 30 24 μ ⟨1, by decide, rfl⟩ ⟨0, by decide, rfl⟩ ex2) (by decide) (hg.d (by decide)) rfl (Nat.le_of_ble_eq_true rfl) ?_
            refine a_aload_0 dX6_willHear_44 ?_
            refine a_getR (q := 30) dX6_willHear_45 fa_X6_33 (hg.d (by decide)) rfl rfl ?_
            refine a_getR (q := 35) dX6_willHear_48 fa_X6_167 (hg.d (by decide)) rfl rfl ?_
            refine a_iload_1 dX6_willHear_51 ?_
            refine a_iconst (v := 0) dX6_willHear_52 (by decide) ?_
            obtain ⟨x3, ex3, hF⟩ := bd_e hF
            refine a_vS3 dX6_willHear_53 cs_X6_74 (ct_X6_put hg 35 p1 0 x2 ⟨hg.d (by decide), by decide, rfl⟩ ex3.symm) (by decide) (Nat.le_of_ble_eq_true rfl) ?_
            refine a_aload_0 dX6_willHear_56 ?_
            refine a_getR (q := 30) dX6_willHear_57 fa_X6_33 (hg.d (by decide)) rfl rfl ?_
            refine a_aload_0 dX6_willHear_60 ?_
            refine a_getR (q := 3) dX6_willHear_61 fa_X6_19 (hg.d (by decide)) rfl rfl ?_
            refine a_iload_2 dX6_willHear_64 ?_
            obtain ⟨x4, ex4, hF⟩ := ob_e hF
            refine a_vV2 dX6_willHear_65 cv_X6_188 (ct_X5_passHours hg 30 3 p2 x3 ⟨1, by decide, rfl⟩ (Or.inl rfl) ex4) (by decide) (hg.d (by decide)) rfl (Nat.le_of_ble_eq_true rfl) ?_
            refine a_iload_3 dX6_willHear_68 ?_
            refine a_if_ne (tgt := 82) dX6_willHear_69 (by decide) (fun h69 => ?_) (fun h69 => ?_)
            · rw [if_neg h69] at hF
              refine a_aload_0 dX6_willHear_82 ?_
              refine a_getR (q := 30) dX6_willHear_83 fa_X6_33 (hg.d (by decide)) rfl rfl ?_
              refine a_getR (q := 34) dX6_willHear_86 fa_X6_164 (hg.d (by decide)) rfl rfl ?_
              refine a_iload_1 dX6_willHear_89 ?_
              obtain ⟨x5, ex5, hF⟩ := bd_e hF
              refine a_iS2 dX6_willHear_90 cs_X6_151 (ct_X6_cell hg 34 p1 x4 ⟨hg.d (by decide), by decide, rfl⟩ ex5.symm) (by decide) (Nat.le_of_ble_eq_true rfl) ?_
              obtain rfl := Option.some.inj hF
              exact a_iret dX6_willHear_93 rfl ⟨rfl, rfl⟩
            · rw [if_pos h69] at hF
              refine a_aload_0 dX6_willHear_72 ?_
              refine a_getR (q := 30) dX6_willHear_73 fa_X6_33 (hg.d (by decide)) rfl rfl ?_
              refine a_getR (q := 35) dX6_willHear_76 fa_X6_167 (hg.d (by decide)) rfl rfl ?_
              refine a_goto (tgt := 89) dX6_willHear_79 (by decide) ?_
              refine a_iload_1 dX6_willHear_89 ?_
              obtain ⟨x6, ex6, hF⟩ := bd_e hF
              refine a_iS2 dX6_willHear_90 cs_X6_151 (ct_X6_cell hg 35 p1 x4 ⟨hg.d (by decide), by decide, rfl⟩ ex6.symm) (by decide) (Nat.le_of_ble_eq_true rfl) ?_
              obtain rfl := Option.some.inj hF
              exact a_iret dX6_willHear_93 rfl ⟨rfl, rfl⟩
          · rw [if_neg h27] at hF
            refine a_ldc dX6_willHear_30 k_X6_65 ?_
            obtain rfl := Option.some.inj hF
            exact a_iret dX6_willHear_32 rfl ⟨rfl, rfl⟩
  · rw [if_pos h5] at hF
    refine a_ldc dX6_willHear_8 k_X6_147 ?_
    obtain rfl := Option.some.inj hF
    exact a_iret dX6_willHear_10 rfl ⟨rfl, rfl⟩
