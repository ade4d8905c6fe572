set_option maxHeartbeats 4000000 in
set_option maxRecDepth 100000 in
theorem ct_X6_put {g : GT} (hg : GC g) (p0 : Nat) (p1 : Int32) (p2 : Int32) (μ : MM) (hp0 : isI g p0) {r : MM} (hF : f_X6_put p0 p1 p2 μ = r) : Ct g 0 mi_X6_put [.ref p0, .int p1, .int p2] μ (QV r) := by
  refine ct_of (k := 0) (by decide +kernel) rfl hg.1 rfl ?_
  show WA g 0 mi_X6_put 0 [some (.ref p0), some (.int p1), some (.int p2)] [] μ (QV r)
  unfold f_X6_put at hF
  refine a_iload_1 dX6_put_0 ?_
  refine a_if_lt (tgt := 14) dX6_put_1 (by decide) (fun h1 => ?_) (fun h1 => ?_)
  · rw [if_pos h1] at hF
    subst hF
    exact a_vret dX6_put_14 rfl ⟨rfl, rfl⟩
  · rw [if_neg h1] at hF
    refine a_iload_1 dX6_put_4 ?_
    refine a_aload_0 dX6_put_5 ?_
    refine a_alen dX6_put_6 hp0.1 hp0.2.2 ?_
    refine a_icmp_ge (tgt := 14) dX6_put_7 (by decide) (fun h7 => ?_) (fun h7 => ?_)
    · rw [if_pos h7] at hF
      subst hF
      exact a_vret dX6_put_14 rfl ⟨rfl, rfl⟩
    · rw [if_neg h7] at hF
      refine a_aload_0 dX6_put_10 ?_
      refine a_iload_1 dX6_put_11 ?_
      refine a_iload_2 dX6_put_12 ?_
      obtain ⟨μ1, eμ1, hF⟩ := bd_e hF
      refine a_sI eμ1 dX6_put_13 hp0.1 hp0.2.2 (vin_of (aln_lt hp0) h1 h7) rfl ?_
      subst hF
      exact a_vret dX6_put_14 rfl ⟨rfl, rfl⟩
set_option maxHeartbeats 4000000 in
set_option maxRecDepth 100000 in
theorem ct_X0_add {g : GT} (hg : GC g) (p1 : Int32) (p2 : Int32) (μ : MM)  {r : MM} (hF : f_X0_add p1 p2 μ = r) : Ct g 1 mi_X0_add [.ref 21, .int p1, .int p2] μ (QV r) := by
  refine ct_of (k := 0) (by decide +kernel) rfl hg.1 rfl ?_
  show WA g 1 mi_X0_add 0 [some (.ref 21), some (.int p1), some (.int p2)] [] μ (QV r)
  unfold f_X0_add at hF
  refine a_aload_0 dX0_add_0 ?_
  refine a_getR (q := 22) dX0_add_1 fa_X0_9 (hg.d (by decide)) rfl rfl ?_
  refine a_aload_0 dX0_add_4 ?_
  refine a_getI dX0_add_5 fa_X0_18 (hg.d (by decide)) rfl rfl ?_
  refine a_iload_1 dX0_add_8 ?_
  obtain ⟨x1, ex1, hF⟩ := bd_e hF
  refine a_vN3 dX0_add_9 cn_X0_22 (ct_X6_put hg 22 (μ 21 2) p1 μ ⟨hg.d (by decide), by decide, rfl⟩ ex1.symm) (by decide) (Nat.le_of_ble_eq_true rfl) ?_
  refine a_aload_0 dX0_add_12 ?_
  refine a_getR (q := 23) dX0_add_13 fa_X0_15 (hg.d (by decide)) rfl rfl ?_
  refine a_aload_0 dX0_add_16 ?_
  refine a_getI dX0_add_17 fa_X0_18 (hg.d (by decide)) rfl rfl ?_
  refine a_iload_2 dX0_add_20 ?_
  obtain ⟨x2, ex2, hF⟩ := bd_e hF
  refine a_vN3 dX0_add_21 cn_X0_22 (ct_X6_put hg 23 (x1 21 2) p2 x1 ⟨hg.d (by decide), by decide, rfl⟩ ex2.symm) (by decide) (Nat.le_of_ble_eq_true rfl) ?_
  refine a_aload_0 dX0_add_24 ?_
  refine a_dup dX0_add_25 rfl ?_
  refine a_getI dX0_add_26 fa_X0_18 (hg.d (by decide)) rfl rfl ?_
  refine a_iconst (v := 1) dX0_add_29 (by decide) ?_
  refine a_iadd dX0_add_30 ?_
  obtain ⟨μ3, eμ3, hF⟩ := bd_e hF
  refine a_pI eμ3 dX0_add_31 fp_X0_18 (hg.d (by decide)) rfl rfl ?_
  subst hF
  exact a_vret dX0_add_34 rfl ⟨rfl, rfl⟩
set_option maxHeartbeats 4000000 in
set_option maxRecDepth 100000 in
theorem ct_X6_cell {g : GT} (hg : GC g) (p0 : Nat) (p1 : Int32) (μ : MM) (hp0 : isI g p0) {r : Int32} (hF : f_X6_cell p0 p1 μ = r) : Ct g 0 mi_X6_cell [.ref p0, .int p1] μ (QI r μ) := by
  refine ct_of (k := 0) (by decide +kernel) rfl hg.1 rfl ?_
  show WA g 0 mi_X6_cell 0 [some (.ref p0), some (.int p1)] [] μ (QI r μ)
  unfold f_X6_cell at hF
  refine a_iload_1 dX6_cell_0 ?_
  refine a_if_lt (tgt := 16) dX6_cell_1 (by decide) (fun h1 => ?_) (fun h1 => ?_)
  · rw [if_pos h1] at hF
    refine a_iconst (v := 0) dX6_cell_16 (by decide) ?_
    subst hF
    exact a_iret dX6_cell_17 rfl ⟨rfl, rfl⟩
  · rw [if_neg h1] at hF
    refine a_iload_1 dX6_cell_4 ?_
    refine a_aload_0 dX6_cell_5 ?_
    refine a_alen dX6_cell_6 hp0.1 hp0.2.2 ?_
    refine a_icmp_ge (tgt := 16) dX6_cell_7 (by decide) (fun h7 => ?_) (fun h7 => ?_)
    · rw [if_pos h7] at hF
      refine a_iconst (v := 0) dX6_cell_16 (by decide) ?_
      subst hF
      exact a_iret dX6_cell_17 rfl ⟨rfl, rfl⟩
    · rw [if_neg h7] at hF
      refine a_aload_0 dX6_cell_10 ?_
      refine a_iload_1 dX6_cell_11 ?_
      refine a_ldC dX6_cell_12 hp0.1 hp0.2.2 (vin_of (aln_lt hp0) h1 h7) rfl ?_
      refine a_goto (tgt := 17) dX6_cell_13 (by decide) ?_
      subst hF
      exact a_iret dX6_cell_17 rfl ⟨rfl, rfl⟩
set_option maxHeartbeats 4000000 in
set_option maxRecDepth 100000 in
theorem ct_X0_firstWrong_L2 {g : GT} (hg : GC g) (p1 : Nat) (μ : MM) (hp1 : isI g p1) {Q : Option Value → MM → Prop} : ∀ (n : Nat) (l2 : Int32) (z : (Int32) ⊕ (Int32)), f_X0_firstWrong_L2 p1 μ n l2 = some z → (match z with | .inl z => WA g 1 mi_X0_firstWrong 41 [some (.ref 21), some (.ref p1), some (.int z)] [] μ Q | .inr r => Q (some (.int r)) μ) → WA g 1 mi_X0_firstWrong 2 [some (.ref 21), some (.ref p1), some (.int l2)] [] μ Q := by
  intro n
  induction n with
  | zero => intro l2 z hF; exact absurd hF (by simp [f_X0_firstWrong_L2])
  | succ n ih =>
    intro l2 z hF K
    unfold f_X0_firstWrong_L2 at hF
    refine a_iload_2 dX0_firstWrong_2 ?_
    refine a_aload_0 dX0_firstWrong_3 ?_
    refine a_getI dX0_firstWrong_4 fa_X0_18 (hg.d (by decide)) rfl rfl ?_
    refine a_icmp_ge (tgt := 41) dX0_firstWrong_7 (by decide) (fun h7 => ?_) (fun h7 => ?_)
    · rw [if_pos h7] at hF
      obtain rfl := Option.some.inj hF
      exact K
    · rw [if_neg h7] at hF
      refine a_aload_1 dX0_firstWrong_10 ?_
      refine a_aload_0 dX0_firstWrong_11 ?_
      refine a_getR (q := 22) dX0_firstWrong_12 fa_X0_9 (hg.d (by decide)) rfl rfl ?_
      refine a_iload_2 dX0_firstWrong_15 ?_
      obtain ⟨x1, ex1, hF⟩ := bd_e hF
      refine a_iN2 dX0_firstWrong_16 cn_X0_26 (ct_X6_cell hg 22 l2 μ ⟨hg.d (by decide), by decide, rfl⟩ ex1.symm) (by decide) (Nat.le_of_ble_eq_true rfl) ?_
      obtain ⟨x2, ex2, hF⟩ := bd_e hF
      refine a_iN2 dX0_firstWrong_19 cn_X0_26 (ct_X6_cell hg p1 x1 μ hp1 ex2.symm) (by decide) (Nat.le_of_ble_eq_true rfl) ?_
      refine a_aload_0 dX0_firstWrong_22 ?_
      refine a_getR (q := 23) dX0_firstWrong_23 fa_X0_15 (hg.d (by decide)) rfl rfl ?_
      refine a_iload_2 dX0_firstWrong_26 ?_
      obtain ⟨x3, ex3, hF⟩ := bd_e hF
      refine a_iN2 dX0_firstWrong_27 cn_X0_26 (ct_X6_cell hg 23 l2 μ ⟨hg.d (by decide), by decide, rfl⟩ ex3.symm) (by decide) (Nat.le_of_ble_eq_true rfl) ?_
      refine a_icmp_eq (tgt := 35) dX0_firstWrong_30 (by decide) (fun h30 => ?_) (fun h30 => ?_)
      · rw [if_pos h30] at hF
        refine a_iinc_2 (c0 := 1) dX0_firstWrong_35 (by decide) (by decide) rfl ?_
        refine a_goto (tgt := 2) dX0_firstWrong_38 (by decide) ?_
        exact ih (l2 + 1) _ hF K
      · rw [if_neg h30] at hF
        refine a_iload_2 dX0_firstWrong_33 ?_
        obtain rfl := Option.some.inj hF
        exact a_iret dX0_firstWrong_34 rfl K
set_option maxHeartbeats 4000000 in
set_option maxRecDepth 100000 in
theorem ct_X0_firstWrong {g : GT} (hg : GC g) (p1 : Nat) (μ : MM) (hp1 : isI g p1) {r : Int32} (hF : f_X0_firstWrong p1 μ = some r) : Ct g 1 mi_X0_firstWrong [.ref 21, .ref p1] μ (QI r μ) := by
  refine ct_of (k := 1) (by decide +kernel) rfl hg.1 rfl ?_
  show WA g 1 mi_X0_firstWrong 0 [some (.ref 21), some (.ref p1), none] [] μ (QI r μ)
  unfold f_X0_firstWrong at hF
  refine a_iconst (v := 0) dX0_firstWrong_0 (by decide) ?_
  refine a_istore_2 dX0_firstWrong_1 (by decide) rfl ?_
  obtain ⟨z4, ez4, hF⟩ := ob_e hF
  refine ct_X0_firstWrong_L2 hg p1 μ hp1 FU 0 z4 ez4 ?_
  rcases z4 with y5 | r
  · rw [Sum.elim_inl] at hF
    dsimp only
    refine a_iconst (v := (-1)) dX0_firstWrong_41 (by decide) ?_
    obtain rfl := Option.some.inj hF
    exact a_iret dX0_firstWrong_42 rfl ⟨rfl, rfl⟩
  · rw [Sum.elim_inr] at hF
    dsimp only
    obtain rfl := Option.some.inj hF
    exact ⟨rfl, rfl⟩
set_option maxHeartbeats 4000000 in
set_option maxRecDepth 100000 in
theorem ct_X1_clear {g : GT} (hg : GC g) (dl : Nat) (μ : MM) (hdl : isD dl) {r : MM} (hF : f_X1_clear dl μ = r) : Ct g 0 mi_X1_clear [.ref dl] μ (QV r) := by
  refine ct_of (k := 0) (by decide +kernel) rfl hg.1 rfl ?_
  show WA g 0 mi_X1_clear 0 [some (.ref dl)] [] μ (QV r)
  unfold f_X1_clear at hF
  refine a_aload_0 dX1_clear_0 ?_
  refine a_iconst (v := 0) dX1_clear_1 (by decide) ?_
  obtain ⟨μ1, eμ1, hF⟩ := bd_e hF
  refine a_pI eμ1 dX1_clear_2 fp_X1_24 (isD_lt hg hdl) (isD_sh hdl) rfl ?_
  refine a_aload_0 dX1_clear_5 ?_
  refine a_iconst (v := 0) dX1_clear_6 (by decide) ?_
  obtain ⟨μ2, eμ2, hF⟩ := bd_e hF
  refine a_pI eμ2 dX1_clear_7 fp_X1_28 (isD_lt hg hdl) (isD_sh hdl) rfl ?_
  refine a_aload_0 dX1_clear_10 ?_
  refine a_iconst (v := 0) dX1_clear_11 (by decide) ?_
  obtain ⟨μ3, eμ3, hF⟩ := bd_e hF
  refine a_pI eμ3 dX1_clear_12 fp_X1_31 (isD_lt hg hdl) (isD_sh hdl) rfl ?_
  subst hF
  exact a_vret dX1_clear_15 rfl ⟨rfl, rfl⟩
set_option maxHeartbeats 4000000 in
set_option maxRecDepth 100000 in
theorem ct_X1_copyFrom {g : GT} (hg : GC g) (dl : Nat) (p1 : Nat) (μ : MM) (hdl : isD dl) (hp1 : isD p1) {r : MM} (hF : f_X1_copyFrom dl p1 μ = r) : Ct g 1 mi_X1_copyFrom [.ref dl, .ref p1] μ (QV r) := by
  refine ct_of (k := 0) (by decide +kernel) rfl hg.1 rfl ?_
  show WA g 1 mi_X1_copyFrom 0 [some (.ref dl), some (.ref p1)] [] μ (QV r)
  unfold f_X1_copyFrom at hF
  refine a_aload_0 dX1_copyFrom_0 ?_
  refine a_aload_1 dX1_copyFrom_1 ?_
  refine a_getI dX1_copyFrom_2 fa_X1_24 (isD_lt hg hp1) (isD_sh hp1) rfl ?_
  obtain ⟨μ1, eμ1, hF⟩ := bd_e hF
  refine a_pI eμ1 dX1_copyFrom_5 fp_X1_24 (isD_lt hg hdl) (isD_sh hdl) rfl ?_
  refine a_aload_0 dX1_copyFrom_8 ?_
  refine a_aload_1 dX1_copyFrom_9 ?_
  refine a_getI dX1_copyFrom_10 fa_X1_28 (isD_lt hg hp1) (isD_sh hp1) rfl ?_
  obtain ⟨μ2, eμ2, hF⟩ := bd_e hF
  refine a_pI eμ2 dX1_copyFrom_13 fp_X1_28 (isD_lt hg hdl) (isD_sh hdl) rfl ?_
  refine a_aload_0 dX1_copyFrom_16 ?_
  refine a_aload_1 dX1_copyFrom_17 ?_
  refine a_getI dX1_copyFrom_18 fa_X1_31 (isD_lt hg hp1) (isD_sh hp1) rfl ?_
  obtain ⟨μ3, eμ3, hF⟩ := bd_e hF
  refine a_pI eμ3 dX1_copyFrom_21 fp_X1_31 (isD_lt hg hdl) (isD_sh hdl) rfl ?_
  refine a_aload_1 dX1_copyFrom_24 ?_
  refine a_getR (q := (p1 + 1)) dX1_copyFrom_25 fa_X1_9 (isD_lt hg hp1) (isD_sh hp1) rfl ?_
  refine a_iconst (v := 0) dX1_copyFrom_28 (by decide) ?_
  refine a_aload_0 dX1_copyFrom_29 ?_
  refine a_getR (q := (dl + 1)) dX1_copyFrom_30 fa_X1_9 (isD_lt hg hdl) (isD_sh hdl) rfl ?_
  refine a_iconst (v := 0) dX1_copyFrom_33 (by decide) ?_
  refine a_bipush (v := 9) dX1_copyFrom_34 (by decide) ?_
  obtain ⟨μ4, eμ4, hF⟩ := bd_e hF
  refine a_cp eμ4 dX1_copyFrom_36 ac_X1_34 (isD_lt1 hg hp1) (isD_sh1 hp1) (isD_lt1 hg hdl) (isD_sh1 hdl) rfl rfl (by decide) (by decide) (by decide) (by decide) rfl (by decide) ?_
  refine a_aload_1 dX1_copyFrom_39 ?_
  refine a_getR (q := (p1 + 2)) dX1_copyFrom_40 fa_X1_15 (isD_lt hg hp1) (isD_sh hp1) rfl ?_
  refine a_iconst (v := 0) dX1_copyFrom_43 (by decide) ?_
  refine a_aload_0 dX1_copyFrom_44 ?_
  refine a_getR (q := (dl + 2)) dX1_copyFrom_45 fa_X1_15 (isD_lt hg hdl) (isD_sh hdl) rfl ?_
  refine a_iconst (v := 0) dX1_copyFrom_48 (by decide) ?_
  refine a_bipush (v := 9) dX1_copyFrom_49 (by decide) ?_
  obtain ⟨μ5, eμ5, hF⟩ := bd_e hF
  refine a_cp eμ5 dX1_copyFrom_51 ac_X1_34 (isD_lt2 hg hp1) (isD_sh2 hp1) (isD_lt2 hg hdl) (isD_sh2 hdl) rfl rfl (by decide) (by decide) (by decide) (by decide) rfl (by decide) ?_
  refine a_aload_1 dX1_copyFrom_54 ?_
  refine a_getR (q := (p1 + 3)) dX1_copyFrom_55 fa_X1_18 (isD_lt hg hp1) (isD_sh hp1) rfl ?_
  refine a_iconst (v := 0) dX1_copyFrom_58 (by decide) ?_
  refine a_aload_0 dX1_copyFrom_59 ?_
  refine a_getR (q := (dl + 3)) dX1_copyFrom_60 fa_X1_18 (isD_lt hg hdl) (isD_sh hdl) rfl ?_
  refine a_iconst (v := 0) dX1_copyFrom_63 (by decide) ?_
  refine a_bipush (v := 9) dX1_copyFrom_64 (by decide) ?_
  obtain ⟨μ6, eμ6, hF⟩ := bd_e hF
  refine a_cp eμ6 dX1_copyFrom_66 ac_X1_34 (isD_lt3 hg hp1) (isD_sh3 hp1) (isD_lt3 hg hdl) (isD_sh3 hdl) rfl rfl (by decide) (by decide) (by decide) (by decide) rfl (by decide) ?_
  refine a_aload_1 dX1_copyFrom_69 ?_
  refine a_getR (q := (p1 + 4)) dX1_copyFrom_70 fa_X1_21 (isD_lt hg hp1) (isD_sh hp1) rfl ?_
  refine a_iconst (v := 0) dX1_copyFrom_73 (by decide) ?_
  refine a_aload_0 dX1_copyFrom_74 ?_
  refine a_getR (q := (dl + 4)) dX1_copyFrom_75 fa_X1_21 (isD_lt hg hdl) (isD_sh hdl) rfl ?_
  refine a_iconst (v := 0) dX1_copyFrom_78 (by decide) ?_
  refine a_bipush (v := 9) dX1_copyFrom_79 (by decide) ?_
  obtain ⟨μ7, eμ7, hF⟩ := bd_e hF
  refine a_cp eμ7 dX1_copyFrom_81 ac_X1_34 (isD_lt4 hg hp1) (isD_sh4 hp1) (isD_lt4 hg hdl) (isD_sh4 hdl) rfl rfl (by decide) (by decide) (by decide) (by decide) rfl (by decide) ?_
  subst hF
  exact a_vret dX1_copyFrom_84 rfl ⟨rfl, rfl⟩
set_option maxHeartbeats 4000000 in
set_option maxRecDepth 100000 in
theorem ct_X1_addFarm {g : GT} (hg : GC g) (dl : Nat) (p1 : Int32) (p2 : Int32) (p3 : Int32) (p4 : Int32) (μ : MM) (hdl : isD dl) {r : MM} (hF : f_X1_addFarm dl p1 p2 p3 p4 μ = r) : Ct g 1 mi_X1_addFarm [.ref dl, .int p1, .int p2, .int p3, .int p4] μ (QV r) := by
  refine ct_of (k := 0) (by decide +kernel) rfl hg.1 rfl ?_
  show WA g 1 mi_X1_addFarm 0 [some (.ref dl), some (.int p1), some (.int p2), some (.int p3), some (.int p4)] [] μ (QV r)
  unfold f_X1_addFarm at hF
  refine a_aload_0 dX1_addFarm_0 ?_
  refine a_getR (q := (dl + 1)) dX1_addFarm_1 fa_X1_9 (isD_lt hg hdl) (isD_sh hdl) rfl ?_
  refine a_aload_0 dX1_addFarm_4 ?_
  refine a_getI dX1_addFarm_5 fa_X1_31 (isD_lt hg hdl) (isD_sh hdl) rfl ?_
  refine a_iload_1 dX1_addFarm_8 ?_
  obtain ⟨x1, ex1, hF⟩ := bd_e hF
  refine a_vN3 dX1_addFarm_9 cn_X1_40 (ct_X6_put hg (dl + 1) (μ dl 2) p1 μ (isD_i1 hg hdl) ex1.symm) (by decide) (Nat.le_of_ble_eq_true rfl) ?_
  refine a_aload_0 dX1_addFarm_12 ?_
  refine a_getR (q := (dl + 2)) dX1_addFarm_13 fa_X1_15 (isD_lt hg hdl) (isD_sh hdl) rfl ?_
  refine a_aload_0 dX1_addFarm_16 ?_
  refine a_getI dX1_addFarm_17 fa_X1_31 (isD_lt hg hdl) (isD_sh hdl) rfl ?_
  refine a_iload_2 dX1_addFarm_20 ?_
  obtain ⟨x2, ex2, hF⟩ := bd_e hF
  refine a_vN3 dX1_addFarm_21 cn_X1_40 (ct_X6_put hg (dl + 2) (x1 dl 2) p2 x1 (isD_i2 hg hdl) ex2.symm) (by decide) (Nat.le_of_ble_eq_true rfl) ?_
  refine a_aload_0 dX1_addFarm_24 ?_
  refine a_getR (q := (dl + 3)) dX1_addFarm_25 fa_X1_18 (isD_lt hg hdl) (isD_sh hdl) rfl ?_
  refine a_aload_0 dX1_addFarm_28 ?_
  refine a_getI dX1_addFarm_29 fa_X1_31 (isD_lt hg hdl) (isD_sh hdl) rfl ?_
  refine a_iload_3 dX1_addFarm_32 ?_
  obtain ⟨x3, ex3, hF⟩ := bd_e hF
  refine a_vN3 dX1_addFarm_33 cn_X1_40 (ct_X6_put hg (dl + 3) (x2 dl 2) p3 x2 (isD_i3 hg hdl) ex3.symm) (by decide) (Nat.le_of_ble_eq_true rfl) ?_
  refine a_aload_0 dX1_addFarm_36 ?_
  refine a_getR (q := (dl + 4)) dX1_addFarm_37 fa_X1_21 (isD_lt hg hdl) (isD_sh hdl) rfl ?_
  refine a_aload_0 dX1_addFarm_40 ?_
  refine a_getI dX1_addFarm_41 fa_X1_31 (isD_lt hg hdl) (isD_sh hdl) rfl ?_
  refine a_iload_4 dX1_addFarm_44 ?_
  obtain ⟨x4, ex4, hF⟩ := bd_e hF
  refine a_vN3 dX1_addFarm_46 cn_X1_40 (ct_X6_put hg (dl + 4) (x3 dl 2) p4 x3 (isD_i4 hg hdl) ex4.symm) (by decide) (Nat.le_of_ble_eq_true rfl) ?_
  refine a_aload_0 dX1_addFarm_49 ?_
  refine a_dup dX1_addFarm_50 rfl ?_
  refine a_getI dX1_addFarm_51 fa_X1_31 (isD_lt hg hdl) (isD_sh hdl) rfl ?_
  refine a_iconst (v := 1) dX1_addFarm_54 (by decide) ?_
  refine a_iadd dX1_addFarm_55 ?_
  obtain ⟨μ5, eμ5, hF⟩ := bd_e hF
  refine a_pI eμ5 dX1_addFarm_56 fp_X1_31 (isD_lt hg hdl) (isD_sh hdl) rfl ?_
  subst hF
  exact a_vret dX1_addFarm_59 rfl ⟨rfl, rfl⟩
set_option maxHeartbeats 4000000 in
set_option maxRecDepth 100000 in
theorem ct_X1_toGoFrom {g : GT} (hg : GC g) (dl : Nat) (p1 : Int32) (μ : MM) (hdl : isD dl) {r : Int32} (hF : f_X1_toGoFrom dl p1 μ = r) : Ct g 1 mi_X1_toGoFrom [.ref dl, .int p1] μ (QI r μ) := by
  refine ct_of (k := 0) (by decide +kernel) rfl hg.1 rfl ?_
  show WA g 1 mi_X1_toGoFrom 0 [some (.ref dl), some (.int p1)] [] μ (QI r μ)
  unfold f_X1_toGoFrom at hF
  refine a_iconst (v := 4) dX1_toGoFrom_0 (by decide) ?_
  refine a_aload_0 dX1_toGoFrom_1 ?_
  refine a_getR (q := (dl + 2)) dX1_toGoFrom_2 fa_X1_15 (isD_lt hg hdl) (isD_sh hdl) rfl ?_
  refine a_iload_1 dX1_toGoFrom_5 ?_
  obtain ⟨x1, ex1, hF⟩ := bd_e hF
  refine a_iN2 dX1_toGoFrom_6 cn_X1_44 (ct_X6_cell hg (dl + 2) p1 μ (isD_i2 hg hdl) ex1.symm) (by decide) (Nat.le_of_ble_eq_true rfl) ?_
  refine a_imul dX1_toGoFrom_9 ?_
  subst hF
  exact a_iret dX1_toGoFrom_10 rfl ⟨rfl, rfl⟩
set_option maxHeartbeats 4000000 in
set_option maxRecDepth 100000 in
theorem ct_X2_add {g : GT} (hg : GC g) (p1 : Int32) (p2 : Int32) (μ : MM)  {r : MM} (hF : f_X2_add p1 p2 μ = r) : Ct g 1 mi_X2_add [.ref 17, .int p1, .int p2] μ (QV r) := by
  refine ct_of (k := 0) (by decide +kernel) rfl hg.1 rfl ?_
  show WA g 1 mi_X2_add 0 [some (.ref 17), some (.int p1), some (.int p2)] [] μ (QV r)
  unfold f_X2_add at hF
  refine a_aload_0 dX2_add_0 ?_
  refine a_getR (q := 18) dX2_add_1 fa_X2_9 (hg.d (by decide)) rfl rfl ?_
  refine a_aload_0 dX2_add_4 ?_
  refine a_getI dX2_add_5 fa_X2_21 (hg.d (by decide)) rfl rfl ?_
  refine a_iload_1 dX2_add_8 ?_
  obtain ⟨x1, ex1, hF⟩ := bd_e hF
  refine a_vN3 dX2_add_9 cn_X2_25 (ct_X6_put hg 18 (μ 17 3) p1 μ ⟨hg.d (by decide), by decide, rfl⟩ ex1.symm) (by decide) (Nat.le_of_ble_eq_true rfl) ?_
  refine a_aload_0 dX2_add_12 ?_
  refine a_getR (q := 19) dX2_add_13 fa_X2_15 (hg.d (by decide)) rfl rfl ?_
  refine a_aload_0 dX2_add_16 ?_
  refine a_getI dX2_add_17 fa_X2_21 (hg.d (by decide)) rfl rfl ?_
  refine a_iload_2 dX2_add_20 ?_
  obtain ⟨x2, ex2, hF⟩ := bd_e hF
  refine a_vN3 dX2_add_21 cn_X2_25 (ct_X6_put hg 19 (x1 17 3) p2 x1 ⟨hg.d (by decide), by decide, rfl⟩ ex2.symm) (by decide) (Nat.le_of_ble_eq_true rfl) ?_
  refine a_aload_0 dX2_add_24 ?_
  refine a_dup dX2_add_25 rfl ?_
  refine a_getI dX2_add_26 fa_X2_21 (hg.d (by decide)) rfl rfl ?_
  refine a_iconst (v := 1) dX2_add_29 (by decide) ?_
  refine a_iadd dX2_add_30 ?_
  obtain ⟨μ3, eμ3, hF⟩ := bd_e hF
  refine a_pI eμ3 dX2_add_31 fp_X2_21 (hg.d (by decide)) rfl rfl ?_
  subst hF
  exact a_vret dX2_add_34 rfl ⟨rfl, rfl⟩
set_option maxHeartbeats 4000000 in
set_option maxRecDepth 100000 in
theorem ct_X2_isListed {g : GT} (hg : GC g) (p0 : Int32) (p1 : Int32) (p2 : Int32) (μ : MM)  {r : Int32} (hF : f_X2_isListed p0 p1 p2 μ = r) : Ct g 0 mi_X2_isListed [.int p0, .int p1, .int p2] μ (QI r μ) := by
  refine ct_of (k := 0) (by decide +kernel) rfl hg.1 rfl ?_
  show WA g 0 mi_X2_isListed 0 [some (.int p0), some (.int p1), some (.int p2)] [] μ (QI r μ)
  unfold f_X2_isListed at hF
  refine a_iload_0 dX2_isListed_0 ?_
  by_cases h1_0 : p0 = 1
  · rw [if_pos h1_0] at hF
    refine a_tsIn (tgt := 32) dX2_isListed_1 h1_0 (by decide) (by decide) rfl (by decide) ?_
    refine a_iload_1 dX2_isListed_32 ?_
    refine a_iconst (v := 1) dX2_isListed_33 (by decide) ?_
    refine a_icmp_lt (tgt := 46) dX2_isListed_34 (by decide) (fun h34 => ?_) (fun h34 => ?_)
    · rw [if_pos h34] at hF
      refine a_iconst (v := 0) dX2_isListed_46 (by decide) ?_
      subst hF
      exact a_zret dX2_isListed_47 rfl (Or.inl rfl) ⟨rfl, rfl⟩
    · rw [if_neg h34] at hF
      refine a_iload_1 dX2_isListed_37 ?_
      refine a_iload_2 dX2_isListed_38 ?_
      refine a_icmp_ge (tgt := 46) dX2_isListed_39 (by decide) (fun h39 => ?_) (fun h39 => ?_)
      · rw [if_pos h39] at hF
        refine a_iconst (v := 0) dX2_isListed_46 (by decide) ?_
        subst hF
        exact a_zret dX2_isListed_47 rfl (Or.inl rfl) ⟨rfl, rfl⟩
      · rw [if_neg h39] at hF
        refine a_iconst (v := 1) dX2_isListed_42 (by decide) ?_
        refine a_goto (tgt := 47) dX2_isListed_43 (by decide) ?_
        subst hF
        exact a_zret dX2_isListed_47 rfl (Or.inr rfl) ⟨rfl, rfl⟩
  · rw [if_neg h1_0] at hF
    by_cases h1_1 : p0 = 2
    · rw [if_pos h1_1] at hF
      refine a_tsIn (tgt := 48) dX2_isListed_1 h1_1 (by decide) (by decide) rfl (by decide) ?_
      refine a_iload_1 dX2_isListed_48 ?_
      refine a_iload_2 dX2_isListed_49 ?_
      refine a_iconst (v := 1) dX2_isListed_50 (by decide) ?_
      refine a_isub dX2_isListed_51 ?_
      refine a_icmp_ge (tgt := 59) dX2_isListed_52 (by decide) (fun h52 => ?_) (fun h52 => ?_)
      · rw [if_pos h52] at hF
        refine a_iconst (v := 0) dX2_isListed_59 (by decide) ?_
        subst hF
        exact a_zret dX2_isListed_60 rfl (Or.inl rfl) ⟨rfl, rfl⟩
      · rw [if_neg h52] at hF
        refine a_iconst (v := 1) dX2_isListed_55 (by decide) ?_
        refine a_goto (tgt := 60) dX2_isListed_56 (by decide) ?_
        subst hF
        exact a_zret dX2_isListed_60 rfl (Or.inr rfl) ⟨rfl, rfl⟩
    · rw [if_neg h1_1] at hF
      by_cases h1_2 : p0 = 3
      · rw [if_pos h1_2] at hF
        refine a_tsIn (tgt := 61) dX2_isListed_1 h1_2 (by decide) (by decide) rfl (by decide) ?_
        refine a_iload_1 dX2_isListed_61 ?_
        refine a_if_ne (tgt := 73) dX2_isListed_62 (by decide) (fun h62 => ?_) (fun h62 => ?_)
        · rw [if_neg h62] at hF
          refine a_iconst (v := 0) dX2_isListed_73 (by decide) ?_
          subst hF
          exact a_zret dX2_isListed_74 rfl (Or.inl rfl) ⟨rfl, rfl⟩
        · rw [if_pos h62] at hF
          refine a_iload_2 dX2_isListed_65 ?_
          refine a_if_le (tgt := 73) dX2_isListed_66 (by decide) (fun h66 => ?_) (fun h66 => ?_)
          · rw [if_pos h66] at hF
            refine a_iconst (v := 0) dX2_isListed_73 (by decide) ?_
            subst hF
            exact a_zret dX2_isListed_74 rfl (Or.inl rfl) ⟨rfl, rfl⟩
          · rw [if_neg h66] at hF
            refine a_iconst (v := 1) dX2_isListed_69 (by decide) ?_
            refine a_goto (tgt := 74) dX2_isListed_70 (by decide) ?_
            subst hF
            exact a_zret dX2_isListed_74 rfl (Or.inr rfl) ⟨rfl, rfl⟩
      · rw [if_neg h1_2] at hF
        by_cases h1_3 : p0 = 4
        · rw [if_pos h1_3] at hF
          refine a_tsIn (tgt := 32) dX2_isListed_1 h1_3 (by decide) (by decide) rfl (by decide) ?_
          refine a_iload_1 dX2_isListed_32 ?_
          refine a_iconst (v := 1) dX2_isListed_33 (by decide) ?_
          refine a_icmp_lt (tgt := 46) dX2_isListed_34 (by decide) (fun h34 => ?_) (fun h34 => ?_)
          · rw [if_pos h34] at hF
            refine a_iconst (v := 0) dX2_isListed_46 (by decide) ?_
            subst hF
            exact a_zret dX2_isListed_47 rfl (Or.inl rfl) ⟨rfl, rfl⟩
          · rw [if_neg h34] at hF
            refine a_iload_1 dX2_isListed_37 ?_
            refine a_iload_2 dX2_isListed_38 ?_
            refine a_icmp_ge (tgt := 46) dX2_isListed_39 (by decide) (fun h39 => ?_) (fun h39 => ?_)
            · rw [if_pos h39] at hF
              refine a_iconst (v := 0) dX2_isListed_46 (by decide) ?_
              subst hF
              exact a_zret dX2_isListed_47 rfl (Or.inl rfl) ⟨rfl, rfl⟩
            · rw [if_neg h39] at hF
              refine a_iconst (v := 1) dX2_isListed_42 (by decide) ?_
              refine a_goto (tgt := 47) dX2_isListed_43 (by decide) ?_
              subst hF
              exact a_zret dX2_isListed_47 rfl (Or.inr rfl) ⟨rfl, rfl⟩
        · rw [if_neg h1_3] at hF
          refine a_tsOut (tgt := 61) dX2_isListed_1 (by have q0 := lv_neT h1_0 (show Int32.toInt 1 = 1 by decide); have q1 := lv_neT h1_1 (show Int32.toInt 2 = 2 by decide); have q2 := lv_neT h1_2 (show Int32.toInt 3 = 3 by decide); have q3 := lv_neT h1_3 (show Int32.toInt 4 = 4 by decide); omega) (by decide) ?_
          refine a_iload_1 dX2_isListed_61 ?_
          refine a_if_ne (tgt := 73) dX2_isListed_62 (by decide) (fun h62 => ?_) (fun h62 => ?_)
          · rw [if_neg h62] at hF
            refine a_iconst (v := 0) dX2_isListed_73 (by decide) ?_
            subst hF
            exact a_zret dX2_isListed_74 rfl (Or.inl rfl) ⟨rfl, rfl⟩
          · rw [if_pos h62] at hF
            refine a_iload_2 dX2_isListed_65 ?_
            refine a_if_le (tgt := 73) dX2_isListed_66 (by decide) (fun h66 => ?_) (fun h66 => ?_)
            · rw [if_pos h66] at hF
              refine a_iconst (v := 0) dX2_isListed_73 (by decide) ?_
              subst hF
              exact a_zret dX2_isListed_74 rfl (Or.inl rfl) ⟨rfl, rfl⟩
            · rw [if_neg h66] at hF
              refine a_iconst (v := 1) dX2_isListed_69 (by decide) ?_
              refine a_goto (tgt := 74) dX2_isListed_70 (by decide) ?_
              subst hF
              exact a_zret dX2_isListed_74 rfl (Or.inr rfl) ⟨rfl, rfl⟩
set_option maxHeartbeats 4000000 in
set_option maxRecDepth 100000 in
theorem ct_X6_garbledOnce {g : GT} (hg : GC g) (p0 : Int32) (p1 : Int32) (p2 : Int32) (p3 : Int32) (μ : MM)  {r : Int32} (hF : f_X6_garbledOnce p0 p1 p2 p3 μ = r) : Ct g 0 mi_X6_garbledOnce [.int p0, .int p1, .int p2, .int p3] μ (QI r μ) := by
  refine ct_of (k := 0) (by decide +kernel) rfl hg.1 rfl ?_
  show WA g 0 mi_X6_garbledOnce 0 [some (.int p0), some (.int p1), some (.int p2), some (.int p3)] [] μ (QI r μ)
  unfold f_X6_garbledOnce at hF
  refine a_iload_0 dX6_garbledOnce_0 ?_
  by_cases h1_0 : p0 = 1
  · rw [if_pos h1_0] at hF
    refine a_tsIn (tgt := 32) dX6_garbledOnce_1 h1_0 (by decide) (by decide) rfl (by decide) ?_
    refine a_iload_2 dX6_garbledOnce_32 ?_
    refine a_if_le (tgt := 44) dX6_garbledOnce_33 (by decide) (fun h33 => ?_) (fun h33 => ?_)
    · rw [if_pos h33] at hF
      refine a_iload_3 dX6_garbledOnce_44 ?_
      subst hF
      exact a_iret dX6_garbledOnce_45 rfl ⟨rfl, rfl⟩
    · rw [if_neg h33] at hF
      refine a_iload_3 dX6_garbledOnce_36 ?_
      refine a_iload_1 dX6_garbledOnce_37 ?_
      refine a_iadd dX6_garbledOnce_38 ?_
      refine a_iload_2 dX6_garbledOnce_39 ?_
      refine a_rem dX6_garbledOnce_40 (fun h => h33 (by rw [h]; decide)) ?_
      refine a_goto (tgt := 45) dX6_garbledOnce_41 (by decide) ?_
      subst hF
      exact a_iret dX6_garbledOnce_45 rfl ⟨rfl, rfl⟩
  · rw [if_neg h1_0] at hF
    by_cases h1_1 : p0 = 2
    · rw [if_pos h1_1] at hF
      refine a_tsIn (tgt := 46) dX6_garbledOnce_1 h1_1 (by decide) (by decide) rfl (by decide) ?_
      refine a_iload_3 dX6_garbledOnce_46 ?_
      refine a_iload_1 dX6_garbledOnce_47 ?_
      refine a_icmp_le (tgt := 55) dX6_garbledOnce_48 (by decide) (fun h48 => ?_) (fun h48 => ?_)
      · rw [if_pos h48] at hF
        refine a_iload_3 dX6_garbledOnce_55 ?_
        subst hF
        exact a_iret dX6_garbledOnce_56 rfl ⟨rfl, rfl⟩
      · rw [if_neg h48] at hF
        refine a_iload_1 dX6_garbledOnce_51 ?_
        refine a_goto (tgt := 56) dX6_garbledOnce_52 (by decide) ?_
        subst hF
        exact a_iret dX6_garbledOnce_56 rfl ⟨rfl, rfl⟩
    · rw [if_neg h1_1] at hF
      by_cases h1_2 : p0 = 3
      · rw [if_pos h1_2] at hF
        refine a_tsIn (tgt := 57) dX6_garbledOnce_1 h1_2 (by decide) (by decide) rfl (by decide) ?_
        refine a_iload_2 dX6_garbledOnce_57 ?_
        refine a_iconst (v := 1) dX6_garbledOnce_58 (by decide) ?_
        refine a_isub dX6_garbledOnce_59 ?_
        refine a_iload_3 dX6_garbledOnce_60 ?_
        refine a_isub dX6_garbledOnce_61 ?_
        subst hF
        exact a_iret dX6_garbledOnce_62 rfl ⟨rfl, rfl⟩
      · rw [if_neg h1_2] at hF
        by_cases h1_3 : p0 = 4
        · rw [if_pos h1_3] at hF
          refine a_tsIn (tgt := 63) dX6_garbledOnce_1 h1_3 (by decide) (by decide) rfl (by decide) ?_
          refine a_iload_3 dX6_garbledOnce_63 ?_
          refine a_iload_1 dX6_garbledOnce_64 ?_
          refine a_icmp_ge (tgt := 72) dX6_garbledOnce_65 (by decide) (fun h65 => ?_) (fun h65 => ?_)
          · rw [if_pos h65] at hF
            refine a_iload_3 dX6_garbledOnce_72 ?_
            subst hF
            exact a_iret dX6_garbledOnce_73 rfl ⟨rfl, rfl⟩
          · rw [if_neg h65] at hF
            refine a_iload_1 dX6_garbledOnce_68 ?_
            refine a_goto (tgt := 73) dX6_garbledOnce_69 (by decide) ?_
            subst hF
            exact a_iret dX6_garbledOnce_73 rfl ⟨rfl, rfl⟩
        · rw [if_neg h1_3] at hF
          refine a_tsOut (tgt := 74) dX6_garbledOnce_1 (by have q0 := lv_neT h1_0 (show Int32.toInt 1 = 1 by decide); have q1 := lv_neT h1_1 (show Int32.toInt 2 = 2 by decide); have q2 := lv_neT h1_2 (show Int32.toInt 3 = 3 by decide); have q3 := lv_neT h1_3 (show Int32.toInt 4 = 4 by decide); omega) (by decide) ?_
          refine a_iload_3 dX6_garbledOnce_74 ?_
          subst hF
          exact a_iret dX6_garbledOnce_75 rfl ⟨rfl, rfl⟩
set_option maxHeartbeats 4000000 in
set_option maxRecDepth 100000 in
theorem ct_X2_fits_L26 {g : GT} (hg : GC g) (l1 : Int32) (l2 : Int32) (l3 : Int32) (l4 : Int32) (μ : MM)  {Q : Option Value → MM → Prop} : ∀ (n : Nat) (l5 : Int32) (z : (Int32) ⊕ (Int32)), f_X2_fits_L26 l1 l2 l3 l4 μ n l5 = some z → (match z with | .inl z => WA g 1 mi_X2_fits 71 [some (.ref 17), some (.int l1), some (.int l2), some (.int l3), some (.int l4), some (.int z)] [] μ Q | .inr r => Q (some (.int r)) μ) → WA g 1 mi_X2_fits 26 [some (.ref 17), some (.int l1), some (.int l2), some (.int l3), some (.int l4), some (.int l5)] [] μ Q := by
  intro n
  induction n with
  | zero => intro l5 z hF; exact absurd hF (by simp [f_X2_fits_L26])
  | succ n ih =>
    intro l5 z hF K
    unfold f_X2_fits_L26 at hF
    refine a_iload_5 dX2_fits_26 ?_
    refine a_aload_0 dX2_fits_28 ?_
    refine a_getI dX2_fits_29 fa_X2_21 (hg.d (by decide)) rfl rfl ?_
    refine a_icmp_ge (tgt := 71) dX2_fits_32 (by decide) (fun h32 => ?_) (fun h32 => ?_)
    · rw [if_pos h32] at hF
      obtain rfl := Option.some.inj hF
      exact K
    · rw [if_neg h32] at hF
      refine a_iload_3 dX2_fits_35 ?_
      refine a_iload_4 dX2_fits_36 ?_
      refine a_iload_2 dX2_fits_38 ?_
      refine a_aload_0 dX2_fits_39 ?_
      refine a_getR (q := 18) dX2_fits_40 fa_X2_9 (hg.d (by decide)) rfl rfl ?_
      refine a_iload_5 dX2_fits_43 ?_
      obtain ⟨x4, ex4, hF⟩ := bd_e hF
      refine a_iN2 dX2_fits_45 cn_X2_51 (ct_X6_cell hg 18 l5 μ ⟨hg.d (by decide), by decide, rfl⟩ ex4.symm) (by decide) (Nat.le_of_ble_eq_true rfl) ?_
      obtain ⟨x5, ex5, hF⟩ := bd_e hF
      refine a_iN4 dX2_fits_48 cn_X2_47 (ct_X6_garbledOnce hg l3 l4 l2 x4 μ ex5.symm) (by decide) (Nat.le_of_ble_eq_true rfl) ?_
      refine a_aload_0 dX2_fits_51 ?_
      refine a_getR (q := 19) dX2_fits_52 fa_X2_15 (hg.d (by decide)) rfl rfl ?_
      refine a_iload_5 dX2_fits_55 ?_
      obtain ⟨x6, ex6, hF⟩ := bd_e hF
      refine a_iN2 dX2_fits_57 cn_X2_51 (ct_X6_cell hg 19 l5 μ ⟨hg.d (by decide), by decide, rfl⟩ ex6.symm) (by decide) (Nat.le_of_ble_eq_true rfl) ?_
      refine a_icmp_eq (tgt := 65) dX2_fits_60 (by decide) (fun h60 => ?_) (fun h60 => ?_)
      · rw [if_pos h60] at hF
        refine a_iinc_5 (c0 := 1) dX2_fits_65 (by decide) (by decide) rfl ?_
        refine a_goto (tgt := 26) dX2_fits_68 (by decide) ?_
        exact ih (l5 + 1) _ hF K
      · rw [if_neg h60] at hF
        refine a_iconst (v := 0) dX2_fits_63 (by decide) ?_
        obtain rfl := Option.some.inj hF
        exact a_zret dX2_fits_64 rfl (Or.inl rfl) K
set_option maxHeartbeats 4000000 in
set_option maxRecDepth 100000 in
theorem ct_X2_fits {g : GT} (hg : GC g) (p1 : Int32) (p2 : Int32) (μ : MM)  {r : Int32} (hF : f_X2_fits p1 p2 μ = some r) : Ct g 1 mi_X2_fits [.ref 17, .int p1, .int p2] μ (QI r μ) := by
  refine ct_of (k := 3) (by decide +kernel) rfl hg.1 rfl ?_
  show WA g 1 mi_X2_fits 0 [some (.ref 17), some (.int p1), some (.int p2), none, none, none] [] μ (QI r μ)
  unfold f_X2_fits at hF
  refine a_iload_1 dX2_fits_0 ?_
  refine a_bipush (v := 10) dX2_fits_1 (by decide) ?_
  refine a_idiv dX2_fits_3 (by decide) ?_
  obtain ⟨v1, ev1, hF⟩ := bd_e hF
  refine a_nm ev1 ?_
  refine a_istore_3 dX2_fits_4 (by decide) rfl ?_
  refine a_iload_1 dX2_fits_5 ?_
  refine a_bipush (v := 10) dX2_fits_6 (by decide) ?_
  refine a_rem dX2_fits_8 (by decide) ?_
  obtain ⟨v2, ev2, hF⟩ := bd_e hF
  refine a_nm ev2 ?_
  refine a_istore_4 dX2_fits_9 (by decide) rfl ?_
  refine a_iload_3 dX2_fits_11 ?_
  refine a_iload_4 dX2_fits_12 ?_
  refine a_iload_2 dX2_fits_14 ?_
  obtain ⟨x3, ex3, hF⟩ := bd_e hF
  refine a_iS3 dX2_fits_15 cs_X2_60 (ct_X2_isListed hg v1 v2 p2 μ ex3.symm) (by decide) (Nat.le_of_ble_eq_true rfl) ?_
  refine a_if_ne (tgt := 23) dX2_fits_18 (by decide) (fun h18 => ?_) (fun h18 => ?_)
  · rw [if_neg h18] at hF
    refine a_iconst (v := 0) dX2_fits_23 (by decide) ?_
    refine a_istore_5 dX2_fits_24 (by decide) rfl ?_
    obtain ⟨z7, ez7, hF⟩ := ob_e hF
    refine ct_X2_fits_L26 hg p1 p2 v1 v2 μ  FU 0 z7 ez7 ?_
    rcases z7 with y8 | r
    · rw [Sum.elim_inl] at hF
      dsimp only
      refine a_iconst (v := 1) dX2_fits_71 (by decide) ?_
      obtain rfl := Option.some.inj hF
      exact a_zret dX2_fits_72 rfl (Or.inr rfl) ⟨rfl, rfl⟩
    · rw [Sum.elim_inr] at hF
      dsimp only
      obtain rfl := Option.some.inj hF
      exact ⟨rfl, rfl⟩
  · rw [if_pos h18] at hF
    refine a_iconst (v := 0) dX2_fits_21 (by decide) ?_
    obtain rfl := Option.some.inj hF
    exact a_zret dX2_fits_22 rfl (Or.inl rfl) ⟨rfl, rfl⟩
set_option maxHeartbeats 4000000 in
set_option maxRecDepth 100000 in
theorem ct_X2_howMany_L4 {g : GT} (hg : GC g) (l1 : Int32) (μ : MM)  {Q : Option Value → MM → Prop} : ∀ (n : Nat) (l2 : Int32) (l3 : Int32) (z : Int32 × Int32), f_X2_howMany_L4 l1 μ n l2 l3 = some z → (WA g 2 mi_X2_howMany 28 [some (.ref 17), some (.int l1), some (.int z.1), some (.int z.2)] [] μ Q) → WA g 2 mi_X2_howMany 4 [some (.ref 17), some (.int l1), some (.int l2), some (.int l3)] [] μ Q := by
  intro n
  induction n with
  | zero => intro l2 l3 z hF; exact absurd hF (by simp [f_X2_howMany_L4])
  | succ n ih =>
    intro l2 l3 z hF K
    unfold f_X2_howMany_L4 at hF
    refine a_iload_3 dX2_howMany_4 ?_
    refine a_bipush (v := 50) dX2_howMany_5 (by decide) ?_
    refine a_icmp_ge (tgt := 28) dX2_howMany_7 (by decide) (fun h7 => ?_) (fun h7 => ?_)
    · rw [if_pos h7] at hF
      obtain rfl := Option.some.inj hF
      exact K
    · rw [if_neg h7] at hF
      refine a_aload_0 dX2_howMany_10 ?_
      refine a_iload_3 dX2_howMany_11 ?_
      refine a_iload_1 dX2_howMany_12 ?_
      obtain ⟨x1, ex1, hF⟩ := ob_e hF
      refine a_iV2 dX2_howMany_13 cv_X2_29 (ct_X2_fits hg l3 l1 μ ex1) (by decide) (hg.d (by decide)) rfl (Nat.le_of_ble_eq_true rfl) ?_
      refine a_if_eq (tgt := 22) dX2_howMany_16 (by decide) (fun h16 => ?_) (fun h16 => ?_)
      · rw [if_pos h16] at hF
        refine a_iinc_3 (c0 := 1) dX2_howMany_22 (by decide) (by decide) rfl ?_
        refine a_goto (tgt := 4) dX2_howMany_25 (by decide) ?_
        exact ih l2 (l3 + 1) _ hF K
      · rw [if_neg h16] at hF
        refine a_iinc_2 (c0 := 1) dX2_howMany_19 (by decide) (by decide) rfl ?_
        refine a_iinc_3 (c0 := 1) dX2_howMany_22 (by decide) (by decide) rfl ?_
        refine a_goto (tgt := 4) dX2_howMany_25 (by decide) ?_
        exact ih (l2 + 1) (l3 + 1) _ hF K
set_option maxHeartbeats 4000000 in
set_option maxRecDepth 100000 in
theorem ct_X2_howMany {g : GT} (hg : GC g) (p1 : Int32) (μ : MM)  {r : Int32} (hF : f_X2_howMany p1 μ = some r) : Ct g 2 mi_X2_howMany [.ref 17, .int p1] μ (QI r μ) := by
  refine ct_of (k := 2) (by decide +kernel) rfl hg.1 rfl ?_
  show WA g 2 mi_X2_howMany 0 [some (.ref 17), some (.int p1), none, none] [] μ (QI r μ)
  unfold f_X2_howMany at hF
  refine a_iconst (v := 0) dX2_howMany_0 (by decide) ?_
  refine a_istore_2 dX2_howMany_1 (by decide) rfl ?_
  refine a_iconst (v := 0) dX2_howMany_2 (by decide) ?_
  refine a_istore_3 dX2_howMany_3 (by decide) rfl ?_
  obtain ⟨z2, ez2, hF⟩ := ob_e hF
  refine ct_X2_howMany_L4 hg p1 μ  FU 0 0 z2 ez2 ?_
  refine a_iload_2 dX2_howMany_28 ?_
  obtain rfl := Option.some.inj hF
  exact a_iret dX2_howMany_29 rfl ⟨rfl, rfl⟩
set_option maxHeartbeats 4000000 in
set_option maxRecDepth 100000 in
theorem ct_X2_first_L2 {g : GT} (hg : GC g) (l1 : Int32) (μ : MM)  {Q : Option Value → MM → Prop} : ∀ (n : Nat) (l2 : Int32) (z : (Int32) ⊕ (Int32)), f_X2_first_L2 l1 μ n l2 = some z → (match z with | .inl z => WA g 2 mi_X2_first 25 [some (.ref 17), some (.int l1), some (.int z)] [] μ Q | .inr r => Q (some (.int r)) μ) → WA g 2 mi_X2_first 2 [some (.ref 17), some (.int l1), some (.int l2)] [] μ Q := by
  intro n
  induction n with
  | zero => intro l2 z hF; exact absurd hF (by simp [f_X2_first_L2])
  | succ n ih =>
    intro l2 z hF K
    unfold f_X2_first_L2 at hF
    refine a_iload_2 dX2_first_2 ?_
    refine a_bipush (v := 50) dX2_first_3 (by decide) ?_
    refine a_icmp_ge (tgt := 25) dX2_first_5 (by decide) (fun h5 => ?_) (fun h5 => ?_)
    · rw [if_pos h5] at hF
      obtain rfl := Option.some.inj hF
      exact K
    · rw [if_neg h5] at hF
      refine a_aload_0 dX2_first_8 ?_
      refine a_iload_2 dX2_first_9 ?_
      refine a_iload_1 dX2_first_10 ?_
      obtain ⟨x1, ex1, hF⟩ := ob_e hF
      refine a_iV2 dX2_first_11 cv_X2_29 (ct_X2_fits hg l2 l1 μ ex1) (by decide) (hg.d (by decide)) rfl (Nat.le_of_ble_eq_true rfl) ?_
      refine a_if_eq (tgt := 19) dX2_first_14 (by decide) (fun h14 => ?_) (fun h14 => ?_)
      · rw [if_pos h14] at hF
        refine a_iinc_2 (c0 := 1) dX2_first_19 (by decide) (by decide) rfl ?_
        refine a_goto (tgt := 2) dX2_first_22 (by decide) ?_
        exact ih (l2 + 1) _ hF K
      · rw [if_neg h14] at hF
        refine a_iload_2 dX2_first_17 ?_
        obtain rfl := Option.some.inj hF
        exact a_iret dX2_first_18 rfl K
set_option maxHeartbeats 4000000 in
set_option maxRecDepth 100000 in
theorem ct_X2_first {g : GT} (hg : GC g) (p1 : Int32) (μ : MM)  {r : Int32} (hF : f_X2_first p1 μ = some r) : Ct g 2 mi_X2_first [.ref 17, .int p1] μ (QI r μ) := by
  refine ct_of (k := 1) (by decide +kernel) rfl hg.1 rfl ?_
  show WA g 2 mi_X2_first 0 [some (.ref 17), some (.int p1), none] [] μ (QI r μ)
  unfold f_X2_first at hF
  refine a_iconst (v := 0) dX2_first_0 (by decide) ?_
  refine a_istore_2 dX2_first_1 (by decide) rfl ?_
  obtain ⟨z2, ez2, hF⟩ := ob_e hF
  refine ct_X2_first_L2 hg p1 μ  FU 0 z2 ez2 ?_
  rcases z2 with y3 | r
  · rw [Sum.elim_inl] at hF
    dsimp only
    refine a_iconst (v := (-1)) dX2_first_25 (by decide) ?_
    obtain rfl := Option.some.inj hF
    exact a_iret dX2_first_26 rfl ⟨rfl, rfl⟩
  · rw [Sum.elim_inr] at hF
    dsimp only
    obtain rfl := Option.some.inj hF
    exact ⟨rfl, rfl⟩
set_option maxHeartbeats 4000000 in
set_option maxRecDepth 100000 in
theorem ct_J7_fill_53178_L5 {g : GT} (hg : INJ g) (p0 : Nat) (l1 : Int32) (l3 : Int32) (hp0 : isI g p0) {Q : Option Value → MM → Prop} : ∀ (n : Nat) (l2 : Int32) (μ : MM) (z : Int32 × MM), f_J7_fill_53178_L5 p0 l1 l3 n l2 μ = some z → (WA g 0 mi_J7_fill_53178 20 [some (.ref p0), some (.int l1), some (.int z.1), some (.int l3)] [] z.2 Q) → WA g 0 mi_J7_fill_53178 5 [some (.ref p0), some (.int l1), some (.int l2), some (.int l3)] [] μ Q := by
  intro n
  induction n with
  | zero => intro l2 μ z hF; exact absurd hF (by simp [f_J7_fill_53178_L5])
  | succ n ih =>
    intro l2 μ z hF K
    unfold f_J7_fill_53178_L5 at hF
    refine a_iload_2 dJ7_fill_53178_5 ?_
    refine a_iload_3 dJ7_fill_53178_6 ?_
    refine a_icmp_ge (tgt := 20) dJ7_fill_53178_7 (by decide) (fun h7 => ?_) (fun h7 => ?_)
    · rw [if_pos h7] at hF
      obtain rfl := Option.some.inj hF
      exact K
    · rw [if_neg h7] at hF
      refine a_aload_0 dJ7_fill_53178_10 ?_
      refine a_iload_2 dJ7_fill_53178_11 ?_
      refine a_iload_1 dJ7_fill_53178_12 ?_
      obtain ⟨hx13, hF⟩ := gd_e hF
      obtain ⟨μ2, eμ2, hF⟩ := bd_e hF
      refine a_sI eμ2 dJ7_fill_53178_13 hp0.1 hp0.2.2 hx13 rfl ?_
      refine a_iinc_2 (c0 := 1) dJ7_fill_53178_14 (by decide) (by decide) rfl ?_
      refine a_goto (tgt := 5) dJ7_fill_53178_17 (by decide) ?_
      exact ih (l2 + 1) μ2 _ hF K
set_option maxHeartbeats 4000000 in
set_option maxRecDepth 100000 in
theorem ct_J7_fill_53178 {g : GT} (hg : INJ g) (p0 : Nat) (p1 : Int32) (μ : MM) (hp0 : isI g p0) {r : MM} (hF : f_J7_fill_53178 p0 p1 μ = some r) : Ct g 0 mi_J7_fill_53178 [.ref p0, .int p1] μ (QV r) := by
  refine ct_of (k := 2) (by decide +kernel) rfl hg rfl ?_
  show WA g 0 mi_J7_fill_53178 0 [some (.ref p0), some (.int p1), none, none] [] μ (QV r)
  unfold f_J7_fill_53178 at hF
  refine a_iconst (v := 0) dJ7_fill_53178_0 (by decide) ?_
  refine a_istore_2 dJ7_fill_53178_1 (by decide) rfl ?_
  refine a_aload_0 dJ7_fill_53178_2 ?_
  refine a_alen dJ7_fill_53178_3 hp0.1 hp0.2.2 ?_
  obtain ⟨v1, ev1, hF⟩ := bd_e hF
  refine a_nm ev1 ?_
  refine a_istore_3 dJ7_fill_53178_4 (by decide) rfl ?_
  obtain ⟨z3, ez3, hF⟩ := ob_e hF
  refine ct_J7_fill_53178_L5 hg p0 p1 v1 hp0 FU 0 μ z3 ez3 ?_
  obtain rfl := Option.some.inj hF
  exact a_vret dJ7_fill_53178_20 rfl ⟨rfl, rfl⟩
set_option maxHeartbeats 4000000 in
set_option maxRecDepth 100000 in
theorem ct_X2_greatestPart_L13 {g : GT} (hg : GC g) (l1 : Int32) (l2 : Int32)  {Q : Option Value → MM → Prop} : ∀ (n : Nat) (l3 : Int32) (l4 : Int32) (μ : MM) (z : Int32 × Int32 × MM), f_X2_greatestPart_L13 l1 l2 n l3 l4 μ = some z → (WA g 2 mi_X2_greatestPart 87 [some (.ref 17), some (.int l1), some (.int l2), some (.int z.1), some (.int z.2.1), none] [] z.2.2 Q) → WA g 2 mi_X2_greatestPart 13 [some (.ref 17), some (.int l1), some (.int l2), some (.int l3), some (.int l4), none] [] μ Q := by
  intro n
  induction n with
  | zero => intro l3 l4 μ z hF; exact absurd hF (by simp [f_X2_greatestPart_L13])
  | succ n ih =>
    intro l3 l4 μ z hF K
    unfold f_X2_greatestPart_L13 at hF
    refine a_iload_4 dX2_greatestPart_13 ?_
    refine a_bipush (v := 50) dX2_greatestPart_15 (by decide) ?_
    refine a_icmp_ge (tgt := 87) dX2_greatestPart_17 (by decide) (fun h17 => ?_) (fun h17 => ?_)
    · rw [if_pos h17] at hF
      obtain rfl := Option.some.inj hF
      exact K
    · rw [if_neg h17] at hF
      refine a_aload_0 dX2_greatestPart_20 ?_
      refine a_iload_4 dX2_greatestPart_21 ?_
      refine a_iload_2 dX2_greatestPart_23 ?_
      obtain ⟨x2, ex2, hF⟩ := ob_e hF
      refine a_iV2 dX2_greatestPart_24 cv_X2_29 (ct_X2_fits hg l4 l2 μ ex2) (by decide) (hg.d (by decide)) rfl (Nat.le_of_ble_eq_true rfl) ?_
      refine a_if_eq (tgt := 81) dX2_greatestPart_27 (by decide) (fun h27 => ?_) (fun h27 => ?_)
      · rw [if_pos h27] at hF
        refine a_iinc_4 (c0 := 1) dX2_greatestPart_81 (by decide) (by decide) rfl ?_
        refine a_goto (tgt := 13) dX2_greatestPart_84 (by decide) ?_
        exact ih l3 (l4 + 1) μ _ hF K
      · rw [if_neg h27] at hF
        refine a_iload_4 dX2_greatestPart_30 ?_
        refine a_bipush (v := 10) dX2_greatestPart_32 (by decide) ?_
        refine a_idiv dX2_greatestPart_34 (by decide) ?_
        refine a_iload_4 dX2_greatestPart_35 ?_
        refine a_bipush (v := 10) dX2_greatestPart_37 (by decide) ?_
        refine a_rem dX2_greatestPart_39 (by decide) ?_
        refine a_iload_2 dX2_greatestPart_40 ?_
        refine a_iload_1 dX2_greatestPart_41 ?_
        obtain ⟨x3, ex3, hF⟩ := bd_e hF
        refine a_iN4 dX2_greatestPart_42 cn_X2_47 (ct_X6_garbledOnce hg (l4 / 10) (rm l4 10) l2 l1 μ ex3.symm) (by decide) (Nat.le_of_ble_eq_true rfl) ?_
        refine a_istore_5 dX2_greatestPart_45 (by decide) rfl ?_
        refine a_aload_0 dX2_greatestPart_47 ?_
        refine a_getR (q := 20) dX2_greatestPart_48 fa_X2_18 (hg.d (by decide)) rfl rfl ?_
        refine a_iload_5 dX2_greatestPart_51 ?_
        refine a_aload_0 dX2_greatestPart_53 ?_
        refine a_getR (q := 20) dX2_greatestPart_54 fa_X2_18 (hg.d (by decide)) rfl rfl ?_
        refine a_iload_5 dX2_greatestPart_57 ?_
        obtain ⟨x4, ex4, hF⟩ := bd_e hF
        refine a_iN2 dX2_greatestPart_59 cn_X2_51 (ct_X6_cell hg 20 x3 μ ⟨hg.d (by decide), by decide, rfl⟩ ex4.symm) (by decide) (Nat.le_of_ble_eq_true rfl) ?_
        refine a_iconst (v := 1) dX2_greatestPart_62 (by decide) ?_
        refine a_iadd dX2_greatestPart_63 ?_
        obtain ⟨x5, ex5, hF⟩ := bd_e hF
        refine a_vN3 dX2_greatestPart_64 cn_X2_25 (ct_X6_put hg 20 x3 (x4 + 1) μ ⟨hg.d (by decide), by decide, rfl⟩ ex5.symm) (by decide) (Nat.le_of_ble_eq_true rfl) ?_
        refine a_iload_3 dX2_greatestPart_67 ?_
        refine a_aload_0 dX2_greatestPart_68 ?_
        refine a_getR (q := 20) dX2_greatestPart_69 fa_X2_18 (hg.d (by decide)) rfl rfl ?_
        refine a_iload_5 dX2_greatestPart_72 ?_
        obtain ⟨x6, ex6, hF⟩ := bd_e hF
        refine a_iN2 dX2_greatestPart_74 cn_X2_51 (ct_X6_cell hg 20 x3 x5 ⟨hg.d (by decide), by decide, rfl⟩ ex6.symm) (by decide) (Nat.le_of_ble_eq_true rfl) ?_
        obtain ⟨x7, ex7, hF⟩ := bd_e hF
        refine a_mmax ex7 dX2_greatestPart_77 mmax_X2_55 (by decide) (Nat.le_of_ble_eq_true rfl) ?_
        refine a_istore_3 dX2_greatestPart_80 (by decide) rfl ?_
        refine a_iinc_4 (c0 := 1) dX2_greatestPart_81 (by decide) (by decide) rfl ?_
        refine a_goto (tgt := 13) dX2_greatestPart_84 (by decide) ?_
        exact a_wk2 (ih x7 (l4 + 1) x5 _ hF K) (by simp [wk])
set_option maxHeartbeats 4000000 in
set_option maxRecDepth 100000 in
theorem ct_X2_greatestPart {g : GT} (hg : GC g) (p1 : Int32) (p2 : Int32) (μ : MM)  {r : Int32 × MM} (hF : f_X2_greatestPart p1 p2 μ = some r) : Ct g 2 mi_X2_greatestPart [.ref 17, .int p1, .int p2] μ (QI r.1 r.2) := by
  refine ct_of (k := 3) (by decide +kernel) rfl hg.1 rfl ?_
  show WA g 2 mi_X2_greatestPart 0 [some (.ref 17), some (.int p1), some (.int p2), none, none, none] [] μ (QI r.1 r.2)
  unfold f_X2_greatestPart at hF
  refine a_aload_0 dX2_greatestPart_0 ?_
  refine a_getR (q := 20) dX2_greatestPart_1 fa_X2_18 (hg.d (by decide)) rfl rfl ?_
  refine a_iconst (v := 0) dX2_greatestPart_4 (by decide) ?_
  obtain ⟨x1, ex1, hF⟩ := ob_e hF
  refine a_vS2 dX2_greatestPart_5 cs_X2_41 (ct_J7_fill_53178 hg.1 20 0 μ ⟨hg.d (by decide), by decide, rfl⟩ ex1) (by decide) (Nat.le_of_ble_eq_true rfl) ?_
  refine a_iconst (v := 0) dX2_greatestPart_8 (by decide) ?_
  refine a_istore_3 dX2_greatestPart_9 (by decide) rfl ?_
  refine a_iconst (v := 0) dX2_greatestPart_10 (by decide) ?_
  refine a_istore_4 dX2_greatestPart_11 (by decide) rfl ?_
  obtain ⟨z8, ez8, hF⟩ := ob_e hF
  refine ct_X2_greatestPart_L13 hg p1 p2  FU 0 0 x1 z8 ez8 ?_
  refine a_iload_3 dX2_greatestPart_87 ?_
  obtain rfl := Option.some.inj hF
  exact a_iret dX2_greatestPart_88 rfl ⟨rfl, rfl⟩
set_option maxHeartbeats 4000000 in
set_option maxRecDepth 100000 in
theorem ct_X2_bestWord_L11 {g : GT} (hg : GC g) (l1 : Int32)  {Q : Option Value → MM → Prop} : ∀ (n : Nat) (l2 : Int32) (l3 : Int32) (l4 : Int32) (μ : MM) (z : Int32 × Int32 × Int32 × MM), f_X2_bestWord_L11 l1 n l2 l3 l4 μ = some z → (WA g 3 mi_X2_bestWord 44 [some (.ref 17), some (.int l1), some (.int z.1), some (.int z.2.1), some (.int z.2.2.1), none] [] z.2.2.2 Q) → WA g 3 mi_X2_bestWord 11 [some (.ref 17), some (.int l1), some (.int l2), some (.int l3), some (.int l4), none] [] μ Q := by
  intro n
  induction n with
  | zero => intro l2 l3 l4 μ z hF; exact absurd hF (by simp [f_X2_bestWord_L11])
  | succ n ih =>
    intro l2 l3 l4 μ z hF K
    unfold f_X2_bestWord_L11 at hF
    refine a_iload_4 dX2_bestWord_11 ?_
    refine a_iload_1 dX2_bestWord_13 ?_
    refine a_icmp_ge (tgt := 44) dX2_bestWord_14 (by decide) (fun h14 => ?_) (fun h14 => ?_)
    · rw [if_pos h14] at hF
      obtain rfl := Option.some.inj hF
      exact K
    · rw [if_neg h14] at hF
      refine a_aload_0 dX2_bestWord_17 ?_
      refine a_iload_4 dX2_bestWord_18 ?_
      refine a_iload_1 dX2_bestWord_20 ?_
      obtain ⟨x2, ex2, hF⟩ := ob_e hF
      refine a_iV2 dX2_bestWord_21 cv_X2_37 (ct_X2_greatestPart hg l4 l1 μ ex2) (by decide) (hg.d (by decide)) rfl (Nat.le_of_ble_eq_true rfl) ?_
      refine a_istore_5 dX2_bestWord_24 (by decide) rfl ?_
      refine a_iload_5 dX2_bestWord_26 ?_
      refine a_iload_2 dX2_bestWord_28 ?_
      refine a_icmp_ge (tgt := 38) dX2_bestWord_29 (by decide) (fun h29 => ?_) (fun h29 => ?_)
      · rw [if_pos h29] at hF
        refine a_iinc_4 (c0 := 1) dX2_bestWord_38 (by decide) (by decide) rfl ?_
        refine a_goto (tgt := 11) dX2_bestWord_41 (by decide) ?_
        exact a_wk2 (ih l2 l3 (l4 + 1) x2.2 _ hF K) (by simp [wk])
      · rw [if_neg h29] at hF
        refine a_iload_5 dX2_bestWord_32 ?_
        refine a_istore_2 dX2_bestWord_34 (by decide) rfl ?_
        refine a_iload_4 dX2_bestWord_35 ?_
        refine a_istore_3 dX2_bestWord_37 (by decide) rfl ?_
        refine a_iinc_4 (c0 := 1) dX2_bestWord_38 (by decide) (by decide) rfl ?_
        refine a_goto (tgt := 11) dX2_bestWord_41 (by decide) ?_
        exact a_wk2 (ih x2.1 l4 (l4 + 1) x2.2 _ hF K) (by simp [wk])
set_option maxHeartbeats 4000000 in
set_option maxRecDepth 100000 in
theorem ct_X2_bestWord {g : GT} (hg : GC g) (p1 : Int32) (μ : MM)  {r : Int32 × MM} (hF : f_X2_bestWord p1 μ = some r) : Ct g 3 mi_X2_bestWord [.ref 17, .int p1] μ (QI r.1 r.2) := by
  refine ct_of (k := 4) (by decide +kernel) rfl hg.1 rfl ?_
  show WA g 3 mi_X2_bestWord 0 [some (.ref 17), some (.int p1), none, none, none, none] [] μ (QI r.1 r.2)
  unfold f_X2_bestWord at hF
  refine a_aload_0 dX2_bestWord_0 ?_
  refine a_iload_1 dX2_bestWord_1 ?_
  obtain ⟨x1, ex1, hF⟩ := ob_e hF
  refine a_iV1 dX2_bestWord_2 cv_X2_33 (ct_X2_howMany hg p1 μ ex1) (by decide) (hg.d (by decide)) rfl (Nat.le_of_ble_eq_true rfl) ?_
  refine a_istore_2 dX2_bestWord_5 (by decide) rfl ?_
  refine a_iconst (v := (-1)) dX2_bestWord_6 (by decide) ?_
  refine a_istore_3 dX2_bestWord_7 (by decide) rfl ?_
  refine a_iconst (v := 0) dX2_bestWord_8 (by decide) ?_
  refine a_istore_4 dX2_bestWord_9 (by decide) rfl ?_
  obtain ⟨z3, ez3, hF⟩ := ob_e hF
  refine ct_X2_bestWord_L11 hg p1  FU x1 (-1) 0 μ z3 ez3 ?_
  refine a_iload_3 dX2_bestWord_44 ?_
  obtain rfl := Option.some.inj hF
  exact a_iret dX2_bestWord_45 rfl ⟨rfl, rfl⟩
set_option maxHeartbeats 4000000 in
set_option maxRecDepth 100000 in
theorem ct_X3_world {g : GT} (hg : GC g) (p1 : Int32) (μ : MM)  {r : Option Nat} (hF : f_X3_world p1 μ = r) : Ct g 0 mi_X3_world [.ref 13, .int p1] μ (QR r μ) := by
  refine ct_of (k := 0) (by decide +kernel) rfl hg.1 rfl ?_
  show WA g 0 mi_X3_world 0 [some (.ref 13), some (.int p1)] [] μ (QR r μ)
  unfold f_X3_world at hF
  refine a_iload_1 dX3_world_0 ?_
  refine a_if_lt (tgt := 22) dX3_world_1 (by decide) (fun h1 => ?_) (fun h1 => ?_)
  · rw [if_pos h1] at hF
    refine a_null dX3_world_22 ?_
    subst hF
    exact a_aret dX3_world_23 rfl (Or.inl rfl) ⟨rfl, rfl⟩
  · rw [if_neg h1] at hF
    refine a_iload_1 dX3_world_4 ?_
    refine a_aload_0 dX3_world_5 ?_
    refine a_getR (q := 14) dX3_world_6 fa_X3_11 (hg.d (by decide)) rfl rfl ?_
    refine a_alenRn (n := 16) dX3_world_9 (hg.d (by decide)) rfl rfl ?_
    refine a_icmp_ge (tgt := 22) dX3_world_10 (by decide) (fun h10 => ?_) (fun h10 => ?_)
    · rw [if_pos h10] at hF
      refine a_null dX3_world_22 ?_
      subst hF
      exact a_aret dX3_world_23 rfl (Or.inl rfl) ⟨rfl, rfl⟩
    · rw [if_neg h10] at hF
      refine a_aload_0 dX3_world_13 ?_
      refine a_getR (q := 14) dX3_world_14 fa_X3_11 (hg.d (by decide)) rfl rfl ?_
      refine a_iload_1 dX3_world_17 ?_
      refine a_aald dX3_world_18 (hg.d (by decide)) rfl (vin_of (by decide) h1 h10) (ra14 (vin_of (by decide) h1 h10)) ?_
      refine a_goto (tgt := 23) dX3_world_19 (by decide) ?_
      subst hF
      exact a_aret dX3_world_23 rfl (Or.inr ⟨_, rfl⟩) ⟨rfl, rfl⟩
set_option maxHeartbeats 4000000 in
set_option maxRecDepth 100000 in
theorem ct_X5_copyFrom {g : GT} (hg : GC g) (w : Nat) (p1 : Nat) (μ : MM) (hw : isW w) (hp1 : isW p1) {r : MM} (hF : f_X5_copyFrom w p1 μ = some r) : Ct g 1 mi_X5_copyFrom [.ref w, .ref p1] μ (QV r) := by
  refine ct_of (k := 0) (by decide +kernel) rfl hg.1 rfl ?_
  show WA g 1 mi_X5_copyFrom 0 [some (.ref w), some (.ref p1)] [] μ (QV r)
  unfold f_X5_copyFrom at hF
  refine a_aload_0 dX5_copyFrom_0 ?_
  refine a_aload_1 dX5_copyFrom_1 ?_
  refine a_getI dX5_copyFrom_2 fa_X5_27 (isW_lt hg hp1) (isW_sh hp1) rfl ?_
  obtain ⟨μ1, eμ1, hF⟩ := bd_e hF
  refine a_pI eμ1 dX5_copyFrom_5 fp_X5_27 (isW_lt hg hw) (isW_sh hw) rfl ?_
  refine a_aload_0 dX5_copyFrom_8 ?_
  refine a_aload_1 dX5_copyFrom_9 ?_
  refine a_getI dX5_copyFrom_10 fa_X5_36 (isW_lt hg hp1) (isW_sh hp1) rfl ?_
  obtain ⟨μ2, eμ2, hF⟩ := bd_e hF
  refine a_pI eμ2 dX5_copyFrom_13 fp_X5_36 (isW_lt hg hw) (isW_sh hw) rfl ?_
  refine a_aload_0 dX5_copyFrom_16 ?_
  refine a_aload_1 dX5_copyFrom_17 ?_
  refine a_getI dX5_copyFrom_18 fa_X5_37 (isW_lt hg hp1) (isW_sh hp1) rfl ?_
  obtain ⟨hb21, hF⟩ := gd_e hF
  obtain ⟨μ3, eμ3, hF⟩ := bd_e hF
  refine a_pZ eμ3 dX5_copyFrom_21 fp_X5_37 hb21 (isW_lt hg hw) (isW_sh hw) rfl ?_
  refine a_aload_0 dX5_copyFrom_24 ?_
  refine a_aload_1 dX5_copyFrom_25 ?_
  refine a_getI dX5_copyFrom_26 fa_X5_41 (isW_lt hg hp1) (isW_sh hp1) rfl ?_
  obtain ⟨μ4, eμ4, hF⟩ := bd_e hF
  refine a_pI eμ4 dX5_copyFrom_29 fp_X5_41 (isW_lt hg hw) (isW_sh hw) rfl ?_
  refine a_aload_0 dX5_copyFrom_32 ?_
  refine a_aload_1 dX5_copyFrom_33 ?_
  refine a_getI dX5_copyFrom_34 fa_X5_44 (isW_lt hg hp1) (isW_sh hp1) rfl ?_
  obtain ⟨μ5, eμ5, hF⟩ := bd_e hF
  refine a_pI eμ5 dX5_copyFrom_37 fp_X5_44 (isW_lt hg hw) (isW_sh hw) rfl ?_
  refine a_aload_0 dX5_copyFrom_40 ?_
  refine a_aload_1 dX5_copyFrom_41 ?_
  refine a_getI dX5_copyFrom_42 fa_X5_47 (isW_lt hg hp1) (isW_sh hp1) rfl ?_
  obtain ⟨μ6, eμ6, hF⟩ := bd_e hF
  refine a_pI eμ6 dX5_copyFrom_45 fp_X5_47 (isW_lt hg hw) (isW_sh hw) rfl ?_
  refine a_aload_0 dX5_copyFrom_48 ?_
  refine a_aload_1 dX5_copyFrom_49 ?_
  refine a_getI dX5_copyFrom_50 fa_X5_50 (isW_lt hg hp1) (isW_sh hp1) rfl ?_
  obtain ⟨μ7, eμ7, hF⟩ := bd_e hF
  refine a_pI eμ7 dX5_copyFrom_53 fp_X5_50 (isW_lt hg hw) (isW_sh hw) rfl ?_
  refine a_aload_0 dX5_copyFrom_56 ?_
  refine a_aload_1 dX5_copyFrom_57 ?_
  refine a_getI dX5_copyFrom_58 fa_X5_53 (isW_lt hg hp1) (isW_sh hp1) rfl ?_
  obtain ⟨μ8, eμ8, hF⟩ := bd_e hF
  refine a_pI eμ8 dX5_copyFrom_61 fp_X5_53 (isW_lt hg hw) (isW_sh hw) rfl ?_
  refine a_aload_1 dX5_copyFrom_64 ?_
  refine a_getR (q := (p1 + 1)) dX5_copyFrom_65 fa_X5_9 (isW_lt hg hp1) (isW_sh hp1) rfl ?_
  refine a_iconst (v := 0) dX5_copyFrom_68 (by decide) ?_
  refine a_aload_0 dX5_copyFrom_69 ?_
  refine a_getR (q := (w + 1)) dX5_copyFrom_70 fa_X5_9 (isW_lt hg hw) (isW_sh hw) rfl ?_
  refine a_iconst (v := 0) dX5_copyFrom_73 (by decide) ?_
  refine a_bipush (v := 48) dX5_copyFrom_74 (by decide) ?_
  obtain ⟨μ9, eμ9, hF⟩ := bd_e hF
  refine a_cp eμ9 dX5_copyFrom_76 ac_X5_57 (isW_lt1 hg hp1) (isW_sh1 hp1) (isW_lt1 hg hw) (isW_sh1 hw) rfl rfl (by decide) (by decide) (by decide) (by decide) rfl (by decide) ?_
  refine a_aload_1 dX5_copyFrom_79 ?_
  refine a_getR (q := (p1 + 2)) dX5_copyFrom_80 fa_X5_15 (isW_lt hg hp1) (isW_sh hp1) rfl ?_
  refine a_iconst (v := 0) dX5_copyFrom_83 (by decide) ?_
  refine a_aload_0 dX5_copyFrom_84 ?_
  refine a_getR (q := (w + 2)) dX5_copyFrom_85 fa_X5_15 (isW_lt hg hw) (isW_sh hw) rfl ?_
  refine a_iconst (v := 0) dX5_copyFrom_88 (by decide) ?_
  refine a_bipush (v := 80) dX5_copyFrom_89 (by decide) ?_
  obtain ⟨μ10, eμ10, hF⟩ := bd_e hF
  refine a_cp eμ10 dX5_copyFrom_91 ac_X5_57 (isW_lt2 hg hp1) (isW_sh2 hp1) (isW_lt2 hg hw) (isW_sh2 hw) rfl rfl (by decide) (by decide) (by decide) (by decide) rfl (by decide) ?_
  refine a_aload_1 dX5_copyFrom_94 ?_
  refine a_getR (q := (p1 + 3)) dX5_copyFrom_95 fa_X5_18 (isW_lt hg hp1) (isW_sh hp1) rfl ?_
  refine a_iconst (v := 0) dX5_copyFrom_98 (by decide) ?_
  refine a_aload_0 dX5_copyFrom_99 ?_
  refine a_getR (q := (w + 3)) dX5_copyFrom_100 fa_X5_18 (isW_lt hg hw) (isW_sh hw) rfl ?_
  refine a_iconst (v := 0) dX5_copyFrom_103 (by decide) ?_
  refine a_bipush (v := 9) dX5_copyFrom_104 (by decide) ?_
  obtain ⟨μ11, eμ11, hF⟩ := bd_e hF
  refine a_cp eμ11 dX5_copyFrom_106 ac_X5_57 (isW_lt3 hg hp1) (isW_sh3 hp1) (isW_lt3 hg hw) (isW_sh3 hw) rfl rfl (by decide) (by decide) (by decide) (by decide) rfl (by decide) ?_
  refine a_aload_1 dX5_copyFrom_109 ?_
  refine a_getR (q := (p1 + 4)) dX5_copyFrom_110 fa_X5_21 (isW_lt hg hp1) (isW_sh hp1) rfl ?_
  refine a_iconst (v := 0) dX5_copyFrom_113 (by decide) ?_
  refine a_aload_0 dX5_copyFrom_114 ?_
  refine a_getR (q := (w + 4)) dX5_copyFrom_115 fa_X5_21 (isW_lt hg hw) (isW_sh hw) rfl ?_
  refine a_iconst (v := 0) dX5_copyFrom_118 (by decide) ?_
  refine a_bipush (v := 9) dX5_copyFrom_119 (by decide) ?_
  obtain ⟨μ12, eμ12, hF⟩ := bd_e hF
  refine a_cp eμ12 dX5_copyFrom_121 ac_X5_57 (isW_lt4 hg hp1) (isW_sh4 hp1) (isW_lt4 hg hw) (isW_sh4 hw) rfl rfl (by decide) (by decide) (by decide) (by decide) rfl (by decide) ?_
  refine a_aload_1 dX5_copyFrom_124 ?_
  refine a_getR (q := (p1 + 5)) dX5_copyFrom_125 fa_X5_24 (isW_lt hg hp1) (isW_sh hp1) rfl ?_
  refine a_iconst (v := 0) dX5_copyFrom_128 (by decide) ?_
  refine a_aload_0 dX5_copyFrom_129 ?_
  refine a_getR (q := (w + 5)) dX5_copyFrom_130 fa_X5_24 (isW_lt hg hw) (isW_sh hw) rfl ?_
  refine a_iconst (v := 0) dX5_copyFrom_133 (by decide) ?_
  refine a_bipush (v := 9) dX5_copyFrom_134 (by decide) ?_
  obtain ⟨μ13, eμ13, hF⟩ := bd_e hF
  refine a_cp eμ13 dX5_copyFrom_136 ac_X5_57 (isW_lt5 hg hp1) (isW_sh5 hp1) (isW_lt5 hg hw) (isW_sh5 hw) rfl rfl (by decide) (by decide) (by decide) (by decide) rfl (by decide) ?_
  obtain rfl := Option.some.inj hF
  exact a_vret dX5_copyFrom_139 rfl ⟨rfl, rfl⟩
set_option maxHeartbeats 4000000 in
set_option maxRecDepth 100000 in
theorem ct_X3_remember {g : GT} (hg : GC g) (p1 : Nat) (μ : MM) (hp1 : isW p1) {r : MM} (hF : f_X3_remember p1 μ = some r) : Ct g 2 mi_X3_remember [.ref 13, .ref p1] μ (QV r) := by
  refine ct_of (k := 1) (by decide +kernel) rfl hg.1 rfl ?_
  show WA g 2 mi_X3_remember 0 [some (.ref 13), some (.ref p1), none] [] μ (QV r)
  unfold f_X3_remember at hF
  refine a_aload_0 dX3_remember_0 ?_
  refine a_aload_0 dX3_remember_1 ?_
  refine a_getI dX3_remember_2 fa_X3_18 (hg.d (by decide)) rfl rfl ?_
  rcases ex1 : f_X3_world (μ 13 1) μ with _ | x1
  · rw [ex1] at hF
    simp only [nr] at hF
    refine a_nV1 dX3_remember_5 cv_X3_22 (ct_X3_world hg (μ 13 1) μ ex1) (by decide) (hg.d (by decide)) rfl (Nat.le_of_ble_eq_true rfl) ?_
    refine a_nstore_2 dX3_remember_8 (by decide) rfl ?_
    refine a_nload_2 dX3_remember_9 ?_
    refine a_ifnullN (tgt := 46) dX3_remember_10 (by decide) ?_
    obtain rfl := Option.some.inj hF
    exact a_vret dX3_remember_46 rfl ⟨rfl, rfl⟩
  · rw [ex1] at hF
    simp only [nr] at hF
    refine a_rV1 dX3_remember_5 cv_X3_22 (ct_X3_world hg (μ 13 1) μ ex1) (by decide) (hg.d (by decide)) rfl (Nat.le_of_ble_eq_true rfl) ?_
    have hwx1 := wq_X3_world ex1
    refine a_astore_2 dX3_remember_8 (by decide) rfl ?_
    refine a_aload_2 dX3_remember_9 ?_
    refine a_ifnull dX3_remember_10 ?_
    refine a_aload_2 dX3_remember_13 ?_
    refine a_aload_1 dX3_remember_14 ?_
    obtain ⟨x2, ex2, hF⟩ := ob_e hF
    refine a_vV1 dX3_remember_15 cv_X3_26 (ct_X5_copyFrom hg x1 p1 μ hwx1 hp1 ex2) (by decide) (isW_lt hg hwx1) (isW_sh hwx1) (Nat.le_of_ble_eq_true rfl) ?_
    refine a_aload_0 dX3_remember_18 ?_
    refine a_aload_0 dX3_remember_19 ?_
    refine a_getI dX3_remember_20 fa_X3_18 (hg.d (by decide)) rfl rfl ?_
    refine a_iconst (v := 1) dX3_remember_23 (by decide) ?_
    refine a_iadd dX3_remember_24 ?_
    refine a_bipush (v := 16) dX3_remember_25 (by decide) ?_
    refine a_rem dX3_remember_27 (by decide) ?_
    obtain ⟨μ3, eμ3, hF⟩ := bd_e hF
    refine a_pI eμ3 dX3_remember_28 fp_X3_18 (hg.d (by decide)) rfl rfl ?_
    refine a_aload_0 dX3_remember_31 ?_
    refine a_bipush (v := 16) dX3_remember_32 (by decide) ?_
    refine a_aload_0 dX3_remember_34 ?_
    refine a_getI dX3_remember_35 fa_X3_30 (hg.d (by decide)) rfl rfl ?_
    refine a_iconst (v := 1) dX3_remember_38 (by decide) ?_
    refine a_iadd dX3_remember_39 ?_
    obtain ⟨x4, ex4, hF⟩ := bd_e hF
    refine a_mmin ex4 dX3_remember_40 mmin_X3_33 (by decide) (Nat.le_of_ble_eq_true rfl) ?_
    obtain ⟨μ5, eμ5, hF⟩ := bd_e hF
    refine a_pI eμ5 dX3_remember_43 fp_X3_30 (hg.d (by decide)) rfl rfl ?_
    obtain rfl := Option.some.inj hF
    exact a_vret dX3_remember_46 rfl ⟨rfl, rfl⟩
set_option maxHeartbeats 4000000 in
set_option maxRecDepth 100000 in
theorem ct_X3_bringBack {g : GT} (hg : GC g) (p1 : Nat) (μ : MM) (hp1 : isW p1) {r : MM} (hF : f_X3_bringBack p1 μ = some r) : Ct g 2 mi_X3_bringBack [.ref 13, .ref p1] μ (QV r) := by
  refine ct_of (k := 2) (by decide +kernel) rfl hg.1 rfl ?_
  show WA g 2 mi_X3_bringBack 0 [some (.ref 13), some (.ref p1), none, none] [] μ (QV r)
  unfold f_X3_bringBack at hF
  refine a_aload_0 dX3_bringBack_0 ?_
  refine a_getI dX3_bringBack_1 fa_X3_18 (hg.d (by decide)) rfl rfl ?_
  refine a_bipush (v := 16) dX3_bringBack_4 (by decide) ?_
  refine a_iadd dX3_bringBack_6 ?_
  refine a_iconst (v := 1) dX3_bringBack_7 (by decide) ?_
  refine a_isub dX3_bringBack_8 ?_
  refine a_bipush (v := 16) dX3_bringBack_9 (by decide) ?_
  refine a_rem dX3_bringBack_11 (by decide) ?_
  obtain ⟨v1, ev1, hF⟩ := bd_e hF
  refine a_nm ev1 ?_
  refine a_istore_2 dX3_bringBack_12 (by decide) rfl ?_
  refine a_aload_0 dX3_bringBack_13 ?_
  refine a_iload_2 dX3_bringBack_14 ?_
  rcases ex2 : f_X3_world v1 μ with _ | x2
  · rw [ex2] at hF
    simp only [nr] at hF
    refine a_nV1 dX3_bringBack_15 cv_X3_22 (ct_X3_world hg v1 μ ex2) (by decide) (hg.d (by decide)) rfl (Nat.le_of_ble_eq_true rfl) ?_
    refine a_nstore_3 dX3_bringBack_18 (by decide) rfl ?_
    refine a_nload_3 dX3_bringBack_19 ?_
    refine a_ifnullN (tgt := 50) dX3_bringBack_20 (by decide) ?_
    obtain rfl := Option.some.inj hF
    exact a_vret dX3_bringBack_50 rfl ⟨rfl, rfl⟩
  · rw [ex2] at hF
    simp only [nr] at hF
    refine a_rV1 dX3_bringBack_15 cv_X3_22 (ct_X3_world hg v1 μ ex2) (by decide) (hg.d (by decide)) rfl (Nat.le_of_ble_eq_true rfl) ?_
    have hwx2 := wq_X3_world ex2
    refine a_astore_3 dX3_bringBack_18 (by decide) rfl ?_
    refine a_aload_3 dX3_bringBack_19 ?_
    refine a_ifnull dX3_bringBack_20 ?_
    refine a_aload_0 dX3_bringBack_23 ?_
    refine a_getI dX3_bringBack_24 fa_X3_30 (hg.d (by decide)) rfl rfl ?_
    refine a_if_le (tgt := 50) dX3_bringBack_27 (by decide) (fun h27 => ?_) (fun h27 => ?_)
    · rw [if_pos h27] at hF
      obtain rfl := Option.some.inj hF
      exact a_vret dX3_bringBack_50 rfl ⟨rfl, rfl⟩
    · rw [if_neg h27] at hF
      refine a_aload_1 dX3_bringBack_30 ?_
      refine a_aload_3 dX3_bringBack_31 ?_
      obtain ⟨x3, ex3, hF⟩ := ob_e hF
      refine a_vV1 dX3_bringBack_32 cv_X3_26 (ct_X5_copyFrom hg p1 x2 μ hp1 hwx2 ex3) (by decide) (isW_lt hg hp1) (isW_sh hp1) (Nat.le_of_ble_eq_true rfl) ?_
      refine a_aload_0 dX3_bringBack_35 ?_
      refine a_iload_2 dX3_bringBack_36 ?_
      obtain ⟨μ4, eμ4, hF⟩ := bd_e hF
      refine a_pI eμ4 dX3_bringBack_37 fp_X3_18 (hg.d (by decide)) rfl rfl ?_
      refine a_aload_0 dX3_bringBack_40 ?_
      refine a_dup dX3_bringBack_41 rfl ?_
      refine a_getI dX3_bringBack_42 fa_X3_30 (hg.d (by decide)) rfl rfl ?_
      refine a_iconst (v := 1) dX3_bringBack_45 (by decide) ?_
      refine a_isub dX3_bringBack_46 ?_
      obtain ⟨μ5, eμ5, hF⟩ := bd_e hF
      refine a_pI eμ5 dX3_bringBack_47 fp_X3_30 (hg.d (by decide)) rfl rfl ?_
      obtain rfl := Option.some.inj hF
      exact a_vret dX3_bringBack_50 rfl ⟨rfl, rfl⟩
set_option maxHeartbeats 4000000 in
set_option maxRecDepth 100000 in
theorem ct_X4_skipBlanks_L5 {g : GT} (hg : GC g)   {Q : Option Value → MM → Prop} : ∀ (n : Nat) (l1 : Int32) (μ : MM) (z : Int32 × MM), f_X4_skipBlanks_L5  n l1 μ = some z → (WA g 1 mi_X4_skipBlanks 42 [some (.ref 1), some (.int z.1)] [] z.2 Q) → WA g 1 mi_X4_skipBlanks 5 [some (.ref 1), some (.int l1)] [] μ Q := by
  intro n
  induction n with
  | zero => intro l1 μ z hF; exact absurd hF (by simp [f_X4_skipBlanks_L5])
  | succ n ih =>
    intro l1 μ z hF K
    unfold f_X4_skipBlanks_L5 at hF
    refine a_iload_1 dX4_skipBlanks_5 ?_
    refine a_aload_0 dX4_skipBlanks_6 ?_
    refine a_getI dX4_skipBlanks_7 fa_X4_33 (hg.d (by decide)) rfl rfl ?_
    refine a_icmp_ge (tgt := 42) dX4_skipBlanks_10 (by decide) (fun h10 => ?_) (fun h10 => ?_)
    · rw [if_pos h10] at hF
      obtain rfl := Option.some.inj hF
      exact K
    · rw [if_neg h10] at hF
      refine a_aload_0 dX4_skipBlanks_13 ?_
      refine a_getR (q := 2) dX4_skipBlanks_14 fa_X4_9 (hg.d (by decide)) rfl rfl ?_
      refine a_iload_1 dX4_skipBlanks_17 ?_
      obtain ⟨x2, ex2, hF⟩ := bd_e hF
      refine a_iN2 dX4_skipBlanks_18 cn_X4_40 (ct_X6_cell hg 2 l1 μ ⟨hg.d (by decide), by decide, rfl⟩ ex2.symm) (by decide) (Nat.le_of_ble_eq_true rfl) ?_
      refine a_bipush (v := 32) dX4_skipBlanks_21 (by decide) ?_
      refine a_icmp_ne (tgt := 42) dX4_skipBlanks_23 (by decide) (fun h23 => ?_) (fun h23 => ?_)
      · rw [if_neg h23] at hF
        obtain rfl := Option.some.inj hF
        exact K
      · rw [if_pos h23] at hF
        refine a_aload_0 dX4_skipBlanks_26 ?_
        refine a_dup dX4_skipBlanks_27 rfl ?_
        refine a_getI dX4_skipBlanks_28 fa_X4_24 (hg.d (by decide)) rfl rfl ?_
        refine a_iconst (v := 1) dX4_skipBlanks_31 (by decide) ?_
        refine a_iadd dX4_skipBlanks_32 ?_
        obtain ⟨μ3, eμ3, hF⟩ := bd_e hF
        refine a_pI eμ3 dX4_skipBlanks_33 fp_X4_24 (hg.d (by decide)) rfl rfl ?_
        refine a_iinc_1 (c0 := 1) dX4_skipBlanks_36 (by decide) (by decide) rfl ?_
        refine a_goto (tgt := 5) dX4_skipBlanks_39 (by decide) ?_
        exact ih (l1 + 1) μ3 _ hF K
set_option maxHeartbeats 4000000 in
set_option maxRecDepth 100000 in
theorem ct_X4_skipBlanks {g : GT} (hg : GC g)  (μ : MM)  {r : MM} (hF : f_X4_skipBlanks  μ = some r) : Ct g 1 mi_X4_skipBlanks [.ref 1] μ (QV r) := by
  refine ct_of (k := 1) (by decide +kernel) rfl hg.1 rfl ?_
  show WA g 1 mi_X4_skipBlanks 0 [some (.ref 1), none] [] μ (QV r)
  unfold f_X4_skipBlanks at hF
  refine a_aload_0 dX4_skipBlanks_0 ?_
  refine a_getI dX4_skipBlanks_1 fa_X4_24 (hg.d (by decide)) rfl rfl ?_
  obtain ⟨v1, ev1, hF⟩ := bd_e hF
  refine a_nm ev1 ?_
  refine a_istore_1 dX4_skipBlanks_4 (by decide) rfl ?_
  obtain ⟨z4, ez4, hF⟩ := ob_e hF
  refine ct_X4_skipBlanks_L5 hg   FU v1 μ z4 ez4 ?_
  obtain rfl := Option.some.inj hF
  exact a_vret dX4_skipBlanks_42 rfl ⟨rfl, rfl⟩
set_option maxHeartbeats 4000000 in
set_option maxRecDepth 100000 in
theorem ct_X4_isFigure {g : GT} (hg : GC g) (p0 : Int32) (μ : MM)  {r : Int32} (hF : f_X4_isFigure p0 μ = r) : Ct g 0 mi_X4_isFigure [.int p0] μ (QI r μ) := by
  refine ct_of (k := 0) (by decide +kernel) rfl hg.1 rfl ?_
  show WA g 0 mi_X4_isFigure 0 [some (.int p0)] [] μ (QI r μ)
  unfold f_X4_isFigure at hF
  refine a_iload_0 dX4_isFigure_0 ?_
  refine a_bipush (v := 48) dX4_isFigure_1 (by decide) ?_
  refine a_icmp_lt (tgt := 16) dX4_isFigure_3 (by decide) (fun h3 => ?_) (fun h3 => ?_)
  · rw [if_pos h3] at hF
    refine a_iconst (v := 0) dX4_isFigure_16 (by decide) ?_
    subst hF
    exact a_zret dX4_isFigure_17 rfl (Or.inl rfl) ⟨rfl, rfl⟩
  · rw [if_neg h3] at hF
    refine a_iload_0 dX4_isFigure_6 ?_
    refine a_bipush (v := 57) dX4_isFigure_7 (by decide) ?_
    refine a_icmp_gt (tgt := 16) dX4_isFigure_9 (by decide) (fun h9 => ?_) (fun h9 => ?_)
    · rw [if_pos h9] at hF
      refine a_iconst (v := 0) dX4_isFigure_16 (by decide) ?_
      subst hF
      exact a_zret dX4_isFigure_17 rfl (Or.inl rfl) ⟨rfl, rfl⟩
    · rw [if_neg h9] at hF
      refine a_iconst (v := 1) dX4_isFigure_12 (by decide) ?_
      refine a_goto (tgt := 17) dX4_isFigure_13 (by decide) ?_
      subst hF
      exact a_zret dX4_isFigure_17 rfl (Or.inr rfl) ⟨rfl, rfl⟩
set_option maxHeartbeats 4000000 in
set_option maxRecDepth 100000 in
theorem ct_X4_mark {g : GT} (hg : GC g) (p1 : Int32) (p2 : Int32) (μ : MM)  {r : MM} (hF : f_X4_mark p1 p2 μ = r) : Ct g 0 mi_X4_mark [.ref 1, .int p1, .int p2] μ (QV r) := by
  refine ct_of (k := 0) (by decide +kernel) rfl hg.1 rfl ?_
  show WA g 0 mi_X4_mark 0 [some (.ref 1), some (.int p1), some (.int p2)] [] μ (QV r)
  unfold f_X4_mark at hF
  refine a_aload_0 dX4_mark_0 ?_
  refine a_getI dX4_mark_1 fa_X4_27 (hg.d (by decide)) rfl rfl ?_
  refine a_if_ne (tgt := 17) dX4_mark_4 (by decide) (fun h4 => ?_) (fun h4 => ?_)
  · rw [if_neg h4] at hF
    subst hF
    exact a_vret dX4_mark_17 rfl ⟨rfl, rfl⟩
  · rw [if_pos h4] at hF
    refine a_aload_0 dX4_mark_7 ?_
    refine a_iload_1 dX4_mark_8 ?_
    obtain ⟨μ1, eμ1, hF⟩ := bd_e hF
    refine a_pI eμ1 dX4_mark_9 fp_X4_27 (hg.d (by decide)) rfl rfl ?_
    refine a_aload_0 dX4_mark_12 ?_
    refine a_iload_2 dX4_mark_13 ?_
    obtain ⟨μ2, eμ2, hF⟩ := bd_e hF
    refine a_pI eμ2 dX4_mark_14 fp_X4_15 (hg.d (by decide)) rfl rfl ?_
    subst hF
    exact a_vret dX4_mark_17 rfl ⟨rfl, rfl⟩
set_option maxHeartbeats 4000000 in
set_option maxRecDepth 100000 in
theorem ct_X4_readNumber_L15 {g : GT} (hg : GC g) (l1 : Int32) (l2 : Int32) (l3 : Int32)  {Q : Option Value → MM → Prop} : ∀ (n : Nat) (l4 : Int32) (l5 : Int32) (μ : MM) (z : Int32 × Int32 × MM), f_X4_readNumber_L15 l1 l2 l3 n l4 l5 μ = some z → (WA g 2 mi_X4_readNumber 90 [some (.ref 1), some (.int l1), some (.int l2), some (.int l3), some (.int z.1), some (.int z.2.1)] [] z.2.2 Q) → WA g 2 mi_X4_readNumber 15 [some (.ref 1), some (.int l1), some (.int l2), some (.int l3), some (.int l4), some (.int l5)] [] μ Q := by
  intro n
  induction n with
  | zero => intro l4 l5 μ z hF; exact absurd hF (by simp [f_X4_readNumber_L15])
  | succ n ih =>
    intro l4 l5 μ z hF K
    unfold f_X4_readNumber_L15 at hF
    refine a_iload_5 dX4_readNumber_15 ?_
    refine a_aload_0 dX4_readNumber_17 ?_
    refine a_getI dX4_readNumber_18 fa_X4_33 (hg.d (by decide)) rfl rfl ?_
    refine a_icmp_ge (tgt := 90) dX4_readNumber_21 (by decide) (fun h21 => ?_) (fun h21 => ?_)
    · rw [if_pos h21] at hF
      obtain rfl := Option.some.inj hF
      exact K
    · rw [if_neg h21] at hF
      refine a_aload_0 dX4_readNumber_24 ?_
      refine a_getR (q := 2) dX4_readNumber_25 fa_X4_9 (hg.d (by decide)) rfl rfl ?_
      refine a_iload_5 dX4_readNumber_28 ?_
      obtain ⟨x3, ex3, hF⟩ := bd_e hF
      refine a_iN2 dX4_readNumber_30 cn_X4_40 (ct_X6_cell hg 2 l5 μ ⟨hg.d (by decide), by decide, rfl⟩ ex3.symm) (by decide) (Nat.le_of_ble_eq_true rfl) ?_
      obtain ⟨x4, ex4, hF⟩ := bd_e hF
      refine a_iS1 dX4_readNumber_33 cs_X4_74 (ct_X4_isFigure hg x3 μ ex4.symm) (by decide) (Nat.le_of_ble_eq_true rfl) ?_
      refine a_if_eq (tgt := 90) dX4_readNumber_36 (by decide) (fun h36 => ?_) (fun h36 => ?_)
      · rw [if_pos h36] at hF
        obtain rfl := Option.some.inj hF
        exact K
      · rw [if_neg h36] at hF
        refine a_aload_0 dX4_readNumber_39 ?_
        refine a_getI dX4_readNumber_40 fa_X4_24 (hg.d (by decide)) rfl rfl ?_
        refine a_iload_3 dX4_readNumber_43 ?_
        refine a_isub dX4_readNumber_44 ?_
        refine a_iconst (v := 3) dX4_readNumber_45 (by decide) ?_
        obtain ⟨j5, ej46, hF⟩ := bd_e hF
        replace ej46 := ej46.symm
        have KJ46 : WA g 2 mi_X4_readNumber 72 [some (.ref 1), some (.int l1), some (.int l2), some (.int l3), some (.int l4), some (.int l5)] [.int j5] μ Q := by
          refine a_istore_4 dX4_readNumber_72 (by decide) rfl ?_
          refine a_aload_0 dX4_readNumber_74 ?_
          refine a_dup dX4_readNumber_75 rfl ?_
          refine a_getI dX4_readNumber_76 fa_X4_24 (hg.d (by decide)) rfl rfl ?_
          refine a_iconst (v := 1) dX4_readNumber_79 (by decide) ?_
          refine a_iadd dX4_readNumber_80 ?_
          obtain ⟨μ7, eμ7, hF⟩ := bd_e hF
          refine a_pI eμ7 dX4_readNumber_81 fp_X4_24 (hg.d (by decide)) rfl rfl ?_
          refine a_iinc_5 (c0 := 1) dX4_readNumber_84 (by decide) (by decide) rfl ?_
          refine a_goto (tgt := 15) dX4_readNumber_87 (by decide) ?_
          exact ih j5 (l5 + 1) μ7 _ hF K
        refine a_icmp_ge (tgt := 70) dX4_readNumber_46 (by decide) (fun h46 => ?_) (fun h46 => ?_)
        · rw [if_pos h46] at ej46
          refine a_iload_4 dX4_readNumber_70 ?_
          subst ej46
          exact KJ46
        · rw [if_neg h46] at ej46
          refine a_bipush (v := 10) dX4_readNumber_49 (by decide) ?_
          refine a_iload_4 dX4_readNumber_51 ?_
          refine a_imul dX4_readNumber_53 ?_
          refine a_aload_0 dX4_readNumber_54 ?_
          refine a_getR (q := 2) dX4_readNumber_55 fa_X4_9 (hg.d (by decide)) rfl rfl ?_
          refine a_iload_5 dX4_readNumber_58 ?_
          obtain ⟨x6, ex6, ej46⟩ := bd_e ej46
          refine a_iN2 dX4_readNumber_60 cn_X4_40 (ct_X6_cell hg 2 l5 μ ⟨hg.d (by decide), by decide, rfl⟩ ex6.symm) (by decide) (Nat.le_of_ble_eq_true rfl) ?_
          refine a_iadd dX4_readNumber_63 ?_
          refine a_bipush (v := 48) dX4_readNumber_64 (by decide) ?_
          refine a_isub dX4_readNumber_66 ?_
          refine a_goto (tgt := 72) dX4_readNumber_67 (by decide) ?_
          subst ej46
          exact KJ46
set_option maxHeartbeats 4000000 in
set_option maxRecDepth 100000 in
theorem ct_X4_readNumber {g : GT} (hg : GC g) (p1 : Int32) (p2 : Int32) (μ : MM)  {r : Int32 × MM} (hF : f_X4_readNumber p1 p2 μ = some r) : Ct g 2 mi_X4_readNumber [.ref 1, .int p1, .int p2] μ (QI r.1 r.2) := by
  refine ct_of (k := 3) (by decide +kernel) rfl hg.1 rfl ?_
  show WA g 2 mi_X4_readNumber 0 [some (.ref 1), some (.int p1), some (.int p2), none, none, none] [] μ (QI r.1 r.2)
  unfold f_X4_readNumber at hF
  refine a_aload_0 dX4_readNumber_0 ?_
  obtain ⟨x1, ex1, hF⟩ := ob_e hF
  refine a_vV0 dX4_readNumber_1 cv_X4_30 (ct_X4_skipBlanks hg μ ex1) (by decide) (hg.d (by decide)) rfl (Nat.le_of_ble_eq_true rfl) ?_
  refine a_aload_0 dX4_readNumber_4 ?_
  refine a_getI dX4_readNumber_5 fa_X4_24 (hg.d (by decide)) rfl rfl ?_
  obtain ⟨v2, ev2, hF⟩ := bd_e hF
  refine a_nm ev2 ?_
  refine a_istore_3 dX4_readNumber_8 (by decide) rfl ?_
  refine a_iconst (v := 0) dX4_readNumber_9 (by decide) ?_
  refine a_istore_4 dX4_readNumber_10 (by decide) rfl ?_
  refine a_iload_3 dX4_readNumber_12 ?_
  refine a_istore_5 dX4_readNumber_13 (by decide) rfl ?_
  obtain ⟨z8, ez8, hF⟩ := ob_e hF
  refine ct_X4_readNumber_L15 hg p1 p2 v2  FU 0 v2 x1 z8 ez8 ?_
  refine a_aload_0 dX4_readNumber_90 ?_
  refine a_getI dX4_readNumber_91 fa_X4_24 (hg.d (by decide)) rfl rfl ?_
  refine a_iload_3 dX4_readNumber_94 ?_
  refine a_icmp_ne (tgt := 107) dX4_readNumber_95 (by decide) (fun h95 => ?_) (fun h95 => ?_)
  · rw [if_neg h95] at hF
    refine a_aload_0 dX4_readNumber_107 ?_
    refine a_getI dX4_readNumber_108 fa_X4_24 (hg.d (by decide)) rfl rfl ?_
    refine a_iload_3 dX4_readNumber_111 ?_
    refine a_isub dX4_readNumber_112 ?_
    refine a_iconst (v := 3) dX4_readNumber_113 (by decide) ?_
    refine a_icmp_gt (tgt := 129) dX4_readNumber_114 (by decide) (fun h114 => ?_) (fun h114 => ?_)
    · rw [if_pos h114] at hF
      refine a_aload_0 dX4_readNumber_129 ?_
      refine a_iconst (v := 2) dX4_readNumber_130 (by decide) ?_
      refine a_iload_3 dX4_readNumber_131 ?_
      obtain ⟨x9, ex9, hF⟩ := bd_e hF
      refine a_vV2 dX4_readNumber_132 cv_X4_50 (ct_X4_mark hg 2 v2 z8.2.2 ex9.symm) (by decide) (hg.d (by decide)) rfl (Nat.le_of_ble_eq_true rfl) ?_
      refine a_iload_4 dX4_readNumber_135 ?_
      obtain rfl := Option.some.inj hF
      exact a_iret dX4_readNumber_137 rfl ⟨rfl, rfl⟩
    · rw [if_neg h114] at hF
      refine a_iload_4 dX4_readNumber_117 ?_
      refine a_iload_1 dX4_readNumber_119 ?_
      refine a_icmp_lt (tgt := 129) dX4_readNumber_120 (by decide) (fun h120 => ?_) (fun h120 => ?_)
      · rw [if_pos h120] at hF
        refine a_aload_0 dX4_readNumber_129 ?_
        refine a_iconst (v := 2) dX4_readNumber_130 (by decide) ?_
        refine a_iload_3 dX4_readNumber_131 ?_
        obtain ⟨x10, ex10, hF⟩ := bd_e hF
        refine a_vV2 dX4_readNumber_132 cv_X4_50 (ct_X4_mark hg 2 v2 z8.2.2 ex10.symm) (by decide) (hg.d (by decide)) rfl (Nat.le_of_ble_eq_true rfl) ?_
        refine a_iload_4 dX4_readNumber_135 ?_
        obtain rfl := Option.some.inj hF
        exact a_iret dX4_readNumber_137 rfl ⟨rfl, rfl⟩
      · rw [if_neg h120] at hF
        refine a_iload_4 dX4_readNumber_123 ?_
        refine a_iload_2 dX4_readNumber_125 ?_
        refine a_icmp_le (tgt := 135) dX4_readNumber_126 (by decide) (fun h126 => ?_) (fun h126 => ?_)
        · rw [if_pos h126] at hF
          refine a_iload_4 dX4_readNumber_135 ?_
          obtain rfl := Option.some.inj hF
          exact a_iret dX4_readNumber_137 rfl ⟨rfl, rfl⟩
        · rw [if_neg h126] at hF
          refine a_aload_0 dX4_readNumber_129 ?_
          refine a_iconst (v := 2) dX4_readNumber_130 (by decide) ?_
          refine a_iload_3 dX4_readNumber_131 ?_
          obtain ⟨x11, ex11, hF⟩ := bd_e hF
          refine a_vV2 dX4_readNumber_132 cv_X4_50 (ct_X4_mark hg 2 v2 z8.2.2 ex11.symm) (by decide) (hg.d (by decide)) rfl (Nat.le_of_ble_eq_true rfl) ?_
          refine a_iload_4 dX4_readNumber_135 ?_
          obtain rfl := Option.some.inj hF
          exact a_iret dX4_readNumber_137 rfl ⟨rfl, rfl⟩
  · rw [if_pos h95] at hF
    refine a_aload_0 dX4_readNumber_98 ?_
    refine a_iconst (v := 1) dX4_readNumber_99 (by decide) ?_
    refine a_iload_3 dX4_readNumber_100 ?_
    obtain ⟨x12, ex12, hF⟩ := bd_e hF
    refine a_vV2 dX4_readNumber_101 cv_X4_50 (ct_X4_mark hg 1 v2 z8.2.2 ex12.symm) (by decide) (hg.d (by decide)) rfl (Nat.le_of_ble_eq_true rfl) ?_
    refine a_goto (tgt := 135) dX4_readNumber_104 (by decide) ?_
    refine a_iload_4 dX4_readNumber_135 ?_
    obtain rfl := Option.some.inj hF
    exact a_iret dX4_readNumber_137 rfl ⟨rfl, rfl⟩
set_option maxHeartbeats 4000000 in
set_option maxRecDepth 100000 in
theorem ct_X4_readEnd {g : GT} (hg : GC g)  (μ : MM)  {r : MM} (hF : f_X4_readEnd  μ = some r) : Ct g 2 mi_X4_readEnd [.ref 1] μ (QV r) := by
  refine ct_of (k := 0) (by decide +kernel) rfl hg.1 rfl ?_
  show WA g 2 mi_X4_readEnd 0 [some (.ref 1)] [] μ (QV r)
  unfold f_X4_readEnd at hF
  refine a_aload_0 dX4_readEnd_0 ?_
  obtain ⟨x1, ex1, hF⟩ := ob_e hF
  refine a_vV0 dX4_readEnd_1 cv_X4_30 (ct_X4_skipBlanks hg μ ex1) (by decide) (hg.d (by decide)) rfl (Nat.le_of_ble_eq_true rfl) ?_
  refine a_aload_0 dX4_readEnd_4 ?_
  refine a_getI dX4_readEnd_5 fa_X4_24 (hg.d (by decide)) rfl rfl ?_
  refine a_aload_0 dX4_readEnd_8 ?_
  refine a_getI dX4_readEnd_9 fa_X4_33 (hg.d (by decide)) rfl rfl ?_
  refine a_icmp_ge (tgt := 44) dX4_readEnd_12 (by decide) (fun h12 => ?_) (fun h12 => ?_)
  · rw [if_pos h12] at hF
    refine a_aload_0 dX4_readEnd_44 ?_
    refine a_iconst (v := 1) dX4_readEnd_45 (by decide) ?_
    refine a_aload_0 dX4_readEnd_46 ?_
    refine a_getI dX4_readEnd_47 fa_X4_24 (hg.d (by decide)) rfl rfl ?_
    obtain ⟨x2, ex2, hF⟩ := bd_e hF
    refine a_vV2 dX4_readEnd_50 cv_X4_50 (ct_X4_mark hg 1 (x1 1 2) x1 ex2.symm) (by decide) (hg.d (by decide)) rfl (Nat.le_of_ble_eq_true rfl) ?_
    obtain rfl := Option.some.inj hF
    exact a_vret dX4_readEnd_53 rfl ⟨rfl, rfl⟩
  · rw [if_neg h12] at hF
    refine a_aload_0 dX4_readEnd_15 ?_
    refine a_getR (q := 2) dX4_readEnd_16 fa_X4_9 (hg.d (by decide)) rfl rfl ?_
    refine a_aload_0 dX4_readEnd_19 ?_
    refine a_getI dX4_readEnd_20 fa_X4_24 (hg.d (by decide)) rfl rfl ?_
    obtain ⟨x3, ex3, hF⟩ := bd_e hF
    refine a_iN2 dX4_readEnd_23 cn_X4_40 (ct_X6_cell hg 2 (x1 1 2) x1 ⟨hg.d (by decide), by decide, rfl⟩ ex3.symm) (by decide) (Nat.le_of_ble_eq_true rfl) ?_
    refine a_bipush (v := 59) dX4_readEnd_26 (by decide) ?_
    refine a_icmp_ne (tgt := 44) dX4_readEnd_28 (by decide) (fun h28 => ?_) (fun h28 => ?_)
    · rw [if_neg h28] at hF
      refine a_aload_0 dX4_readEnd_44 ?_
      refine a_iconst (v := 1) dX4_readEnd_45 (by decide) ?_
      refine a_aload_0 dX4_readEnd_46 ?_
      refine a_getI dX4_readEnd_47 fa_X4_24 (hg.d (by decide)) rfl rfl ?_
      obtain ⟨x4, ex4, hF⟩ := bd_e hF
      refine a_vV2 dX4_readEnd_50 cv_X4_50 (ct_X4_mark hg 1 (x1 1 2) x1 ex4.symm) (by decide) (hg.d (by decide)) rfl (Nat.le_of_ble_eq_true rfl) ?_
      obtain rfl := Option.some.inj hF
      exact a_vret dX4_readEnd_53 rfl ⟨rfl, rfl⟩
    · rw [if_pos h28] at hF
      refine a_aload_0 dX4_readEnd_31 ?_
      refine a_dup dX4_readEnd_32 rfl ?_
      refine a_getI dX4_readEnd_33 fa_X4_24 (hg.d (by decide)) rfl rfl ?_
      refine a_iconst (v := 1) dX4_readEnd_36 (by decide) ?_
      refine a_iadd dX4_readEnd_37 ?_
      obtain ⟨μ5, eμ5, hF⟩ := bd_e hF
      refine a_pI eμ5 dX4_readEnd_38 fp_X4_24 (hg.d (by decide)) rfl rfl ?_
      refine a_goto (tgt := 53) dX4_readEnd_41 (by decide) ?_
      obtain rfl := Option.some.inj hF
      exact a_vret dX4_readEnd_53 rfl ⟨rfl, rfl⟩
set_option maxHeartbeats 4000000 in
set_option maxRecDepth 100000 in
theorem ct_X4_readBecks {g : GT} (hg : GC g) (p1 : Nat) (μ : MM) (hp1 : isD p1) {r : MM} (hF : f_X4_readBecks p1 μ = some r) : Ct g 3 mi_X4_readBecks [.ref 1, .ref p1] μ (QV r) := by
  refine ct_of (k := 2) (by decide +kernel) rfl hg.1 rfl ?_
  show WA g 3 mi_X4_readBecks 0 [some (.ref 1), some (.ref p1), none, none] [] μ (QV r)
  unfold f_X4_readBecks at hF
  refine a_aload_0 dX4_readBecks_0 ?_
  refine a_iconst (v := 2) dX4_readBecks_1 (by decide) ?_
  refine a_bipush (v := 9) dX4_readBecks_2 (by decide) ?_
  obtain ⟨x1, ex1, hF⟩ := ob_e hF
  refine a_iV2 dX4_readBecks_4 cv_X4_57 (ct_X4_readNumber hg 2 9 μ ex1) (by decide) (hg.d (by decide)) rfl (Nat.le_of_ble_eq_true rfl) ?_
  refine a_istore_2 dX4_readBecks_7 (by decide) rfl ?_
  refine a_aload_0 dX4_readBecks_8 ?_
  refine a_iconst (v := 0) dX4_readBecks_9 (by decide) ?_
  refine a_bipush (v := 9) dX4_readBecks_10 (by decide) ?_
  obtain ⟨x2, ex2, hF⟩ := ob_e hF
  refine a_iV2 dX4_readBecks_12 cv_X4_57 (ct_X4_readNumber hg 0 9 x1.2 ex2) (by decide) (hg.d (by decide)) rfl (Nat.le_of_ble_eq_true rfl) ?_
  refine a_istore_3 dX4_readBecks_15 (by decide) rfl ?_
  refine a_aload_0 dX4_readBecks_16 ?_
  obtain ⟨x3, ex3, hF⟩ := ob_e hF
  refine a_vV0 dX4_readBecks_17 cv_X4_61 (ct_X4_readEnd hg x2.2 ex3) (by decide) (hg.d (by decide)) rfl (Nat.le_of_ble_eq_true rfl) ?_
  refine a_aload_0 dX4_readBecks_20 ?_
  refine a_getI dX4_readBecks_21 fa_X4_27 (hg.d (by decide)) rfl rfl ?_
  refine a_if_ne (tgt := 45) dX4_readBecks_24 (by decide) (fun h24 => ?_) (fun h24 => ?_)
  · rw [if_neg h24] at hF
    obtain rfl := Option.some.inj hF
    exact a_vret dX4_readBecks_45 rfl ⟨rfl, rfl⟩
  · rw [if_pos h24] at hF
    refine a_aload_1 dX4_readBecks_27 ?_
    refine a_iload_2 dX4_readBecks_28 ?_
    obtain ⟨μ4, eμ4, hF⟩ := bd_e hF
    refine a_pI eμ4 dX4_readBecks_29 fp_X4_64 (isD_lt hg hp1) (isD_sh hp1) rfl ?_
    refine a_aload_1 dX4_readBecks_32 ?_
    refine a_iload_3 dX4_readBecks_33 ?_
    obtain ⟨μ5, eμ5, hF⟩ := bd_e hF
    refine a_pI eμ5 dX4_readBecks_34 fp_X4_67 (isD_lt hg hp1) (isD_sh hp1) rfl ?_
    refine a_aload_1 dX4_readBecks_37 ?_
    refine a_iconst (v := 0) dX4_readBecks_38 (by decide) ?_
    refine a_iconst (v := 0) dX4_readBecks_39 (by decide) ?_
    refine a_iconst (v := 0) dX4_readBecks_40 (by decide) ?_
    refine a_iconst (v := 0) dX4_readBecks_41 (by decide) ?_
    obtain ⟨x6, ex6, hF⟩ := bd_e hF
    refine a_vV4 dX4_readBecks_42 cv_X4_70 (ct_X1_addFarm hg p1 0 0 0 0 μ5 hp1 ex6.symm) (by decide) (isD_lt hg hp1) (isD_sh hp1) (Nat.le_of_ble_eq_true rfl) ?_
    obtain rfl := Option.some.inj hF
    exact a_vret dX4_readBecks_45 rfl ⟨rfl, rfl⟩
set_option maxHeartbeats 4000000 in
set_option maxRecDepth 100000 in
theorem ct_X4_readFarm {g : GT} (hg : GC g) (p1 : Nat) (μ : MM) (hp1 : isD p1) {r : MM} (hF : f_X4_readFarm p1 μ = some r) : Ct g 3 mi_X4_readFarm [.ref 1, .ref p1] μ (QV r) := by
  refine ct_of (k := 4) (by decide +kernel) rfl hg.1 rfl ?_
  show WA g 3 mi_X4_readFarm 0 [some (.ref 1), some (.ref p1), none, none, none, none] [] μ (QV r)
  unfold f_X4_readFarm at hF
  refine a_aload_0 dX4_readFarm_0 ?_
  refine a_iconst (v := 0) dX4_readFarm_1 (by decide) ?_
  refine a_aload_1 dX4_readFarm_2 ?_
  refine a_getI dX4_readFarm_3 fa_X4_44 (isD_lt hg hp1) (isD_sh hp1) rfl ?_
  refine a_iconst (v := 1) dX4_readFarm_6 (by decide) ?_
  refine a_isub dX4_readFarm_7 ?_
  obtain ⟨x1, ex1, hF⟩ := ob_e hF
  refine a_iV2 dX4_readFarm_8 cv_X4_57 (ct_X4_readNumber hg 0 ((μ p1 2) - 1) μ ex1) (by decide) (hg.d (by decide)) rfl (Nat.le_of_ble_eq_true rfl) ?_
  refine a_istore_2 dX4_readFarm_11 (by decide) rfl ?_
  refine a_aload_0 dX4_readFarm_12 ?_
  refine a_iconst (v := 1) dX4_readFarm_13 (by decide) ?_
  refine a_bipush (v := 9) dX4_readFarm_14 (by decide) ?_
  obtain ⟨x2, ex2, hF⟩ := ob_e hF
  refine a_iV2 dX4_readFarm_16 cv_X4_57 (ct_X4_readNumber hg 1 9 x1.2 ex2) (by decide) (hg.d (by decide)) rfl (Nat.le_of_ble_eq_true rfl) ?_
  refine a_istore_3 dX4_readFarm_19 (by decide) rfl ?_
  refine a_aload_0 dX4_readFarm_20 ?_
  refine a_iconst (v := 0) dX4_readFarm_21 (by decide) ?_
  refine a_iconst (v := 4) dX4_readFarm_22 (by decide) ?_
  obtain ⟨x3, ex3, hF⟩ := ob_e hF
  refine a_iV2 dX4_readFarm_23 cv_X4_57 (ct_X4_readNumber hg 0 4 x2.2 ex3) (by decide) (hg.d (by decide)) rfl (Nat.le_of_ble_eq_true rfl) ?_
  refine a_istore_4 dX4_readFarm_26 (by decide) rfl ?_
  refine a_aload_0 dX4_readFarm_28 ?_
  refine a_iconst (v := 0) dX4_readFarm_29 (by decide) ?_
  refine a_aload_1 dX4_readFarm_30 ?_
  refine a_getI dX4_readFarm_31 fa_X4_64 (isD_lt hg hp1) (isD_sh hp1) rfl ?_
  refine a_iconst (v := 1) dX4_readFarm_34 (by decide) ?_
  refine a_isub dX4_readFarm_35 ?_
  obtain ⟨x4, ex4, hF⟩ := ob_e hF
  refine a_iV2 dX4_readFarm_36 cv_X4_57 (ct_X4_readNumber hg 0 ((x3.2 p1 0) - 1) x3.2 ex4) (by decide) (hg.d (by decide)) rfl (Nat.le_of_ble_eq_true rfl) ?_
  refine a_istore_5 dX4_readFarm_39 (by decide) rfl ?_
  refine a_aload_0 dX4_readFarm_41 ?_
  obtain ⟨x5, ex5, hF⟩ := ob_e hF
  refine a_vV0 dX4_readFarm_42 cv_X4_61 (ct_X4_readEnd hg x4.2 ex5) (by decide) (hg.d (by decide)) rfl (Nat.le_of_ble_eq_true rfl) ?_
  refine a_aload_0 dX4_readFarm_45 ?_
  refine a_getI dX4_readFarm_46 fa_X4_27 (hg.d (by decide)) rfl rfl ?_
  refine a_if_ne (tgt := 62) dX4_readFarm_49 (by decide) (fun h49 => ?_) (fun h49 => ?_)
  · rw [if_neg h49] at hF
    obtain rfl := Option.some.inj hF
    exact a_vret dX4_readFarm_62 rfl ⟨rfl, rfl⟩
  · rw [if_pos h49] at hF
    refine a_aload_1 dX4_readFarm_52 ?_
    refine a_iload_2 dX4_readFarm_53 ?_
    refine a_iload_3 dX4_readFarm_54 ?_
    refine a_iload_4 dX4_readFarm_55 ?_
    refine a_iload_5 dX4_readFarm_57 ?_
    obtain ⟨x6, ex6, hF⟩ := bd_e hF
    refine a_vV4 dX4_readFarm_59 cv_X4_70 (ct_X1_addFarm hg p1 x1.1 x2.1 x3.1 x4.1 x5 hp1 ex6.symm) (by decide) (isD_lt hg hp1) (isD_sh hp1) (Nat.le_of_ble_eq_true rfl) ?_
    obtain rfl := Option.some.inj hF
    exact a_vret dX4_readFarm_62 rfl ⟨rfl, rfl⟩
set_option maxHeartbeats 4000000 in
set_option maxRecDepth 100000 in
theorem ct_X4_readClause {g : GT} (hg : GC g) (p1 : Nat) (μ : MM) (hp1 : isD p1) {r : MM} (hF : f_X4_readClause p1 μ = some r) : Ct g 4 mi_X4_readClause [.ref 1, .ref p1] μ (QV r) := by
  refine ct_of (k := 2) (by decide +kernel) rfl hg.1 rfl ?_
  show WA g 4 mi_X4_readClause 0 [some (.ref 1), some (.ref p1), none, none] [] μ (QV r)
  unfold f_X4_readClause at hF
  refine a_aload_0 dX4_readClause_0 ?_
  refine a_getR (q := 2) dX4_readClause_1 fa_X4_9 (hg.d (by decide)) rfl rfl ?_
  refine a_aload_0 dX4_readClause_4 ?_
  refine a_getI dX4_readClause_5 fa_X4_24 (hg.d (by decide)) rfl rfl ?_
  obtain ⟨x1, ex1, hF⟩ := bd_e hF
  refine a_iN2 dX4_readClause_8 cn_X4_40 (ct_X6_cell hg 2 (μ 1 2) μ ⟨hg.d (by decide), by decide, rfl⟩ ex1.symm) (by decide) (Nat.le_of_ble_eq_true rfl) ?_
  refine a_istore_2 dX4_readClause_11 (by decide) rfl ?_
  refine a_aload_1 dX4_readClause_12 ?_
  refine a_getI dX4_readClause_13 fa_X4_44 (isD_lt hg hp1) (isD_sh hp1) rfl ?_
  obtain ⟨j2, ej16, hF⟩ := bd_e hF
  replace ej16 := ej16.symm
  have KJ16 : WA g 4 mi_X4_readClause 24 [some (.ref 1), some (.ref p1), some (.int x1), none] [.int j2] μ (QV r) := by
    refine a_istore_3 dX4_readClause_24 (by decide) rfl ?_
    refine a_iload_2 dX4_readClause_25 ?_
    refine a_bipush (v := 98) dX4_readClause_26 (by decide) ?_
    refine a_icmp_ne (tgt := 53) dX4_readClause_28 (by decide) (fun h28 => ?_) (fun h28 => ?_)
    · rw [if_neg h28] at hF
      refine a_iload_2 dX4_readClause_53 ?_
      refine a_bipush (v := 98) dX4_readClause_54 (by decide) ?_
      refine a_icmp_eq (tgt := 74) dX4_readClause_56 (by decide) (fun h56 => ?_) (fun h56 => ?_)
      · rw [if_pos h56] at hF
        refine a_aload_0 dX4_readClause_74 ?_
        refine a_iconst (v := 3) dX4_readClause_75 (by decide) ?_
        refine a_aload_0 dX4_readClause_76 ?_
        refine a_getI dX4_readClause_77 fa_X4_24 (hg.d (by decide)) rfl rfl ?_
        obtain ⟨x3, ex3, hF⟩ := bd_e hF
        refine a_vV2 dX4_readClause_80 cv_X4_50 (ct_X4_mark hg 3 (μ 1 2) μ ex3.symm) (by decide) (hg.d (by decide)) rfl (Nat.le_of_ble_eq_true rfl) ?_
        refine a_goto (tgt := 123) dX4_readClause_83 (by decide) ?_
        obtain rfl := Option.some.inj hF
        exact a_vret dX4_readClause_123 rfl ⟨rfl, rfl⟩
      · rw [if_neg h56] at hF
        refine a_iload_2 dX4_readClause_59 ?_
        refine a_bipush (v := 102) dX4_readClause_60 (by decide) ?_
        refine a_icmp_ne (tgt := 86) dX4_readClause_62 (by decide) (fun h62 => ?_) (fun h62 => ?_)
        · rw [if_neg h62] at hF
          refine a_iload_2 dX4_readClause_86 ?_
          refine a_bipush (v := 102) dX4_readClause_87 (by decide) ?_
          refine a_icmp_ne (tgt := 114) dX4_readClause_89 (by decide) (fun h89 => ?_) (fun h89 => ?_)
          · rw [if_neg h89] at hF
            refine a_aload_0 dX4_readClause_114 ?_
            refine a_iconst (v := 1) dX4_readClause_115 (by decide) ?_
            refine a_aload_0 dX4_readClause_116 ?_
            refine a_getI dX4_readClause_117 fa_X4_24 (hg.d (by decide)) rfl rfl ?_
            obtain ⟨x4, ex4, hF⟩ := bd_e hF
            refine a_vV2 dX4_readClause_120 cv_X4_50 (ct_X4_mark hg 1 (μ 1 2) μ ex4.symm) (by decide) (hg.d (by decide)) rfl (Nat.le_of_ble_eq_true rfl) ?_
            obtain rfl := Option.some.inj hF
            exact a_vret dX4_readClause_123 rfl ⟨rfl, rfl⟩
          · rw [if_pos h89] at hF
            refine a_iload_3 dX4_readClause_92 ?_
            refine a_if_ne (tgt := 114) dX4_readClause_93 (by decide) (fun h93 => ?_) (fun h93 => ?_)
            · rw [if_neg h93] at hF
              refine a_aload_0 dX4_readClause_114 ?_
              refine a_iconst (v := 1) dX4_readClause_115 (by decide) ?_
              refine a_aload_0 dX4_readClause_116 ?_
              refine a_getI dX4_readClause_117 fa_X4_24 (hg.d (by decide)) rfl rfl ?_
              obtain ⟨x5, ex5, hF⟩ := bd_e hF
              refine a_vV2 dX4_readClause_120 cv_X4_50 (ct_X4_mark hg 1 (μ 1 2) μ ex5.symm) (by decide) (hg.d (by decide)) rfl (Nat.le_of_ble_eq_true rfl) ?_
              obtain rfl := Option.some.inj hF
              exact a_vret dX4_readClause_123 rfl ⟨rfl, rfl⟩
            · rw [if_pos h93] at hF
              refine a_aload_0 dX4_readClause_96 ?_
              refine a_dup dX4_readClause_97 rfl ?_
              refine a_getI dX4_readClause_98 fa_X4_24 (hg.d (by decide)) rfl rfl ?_
              refine a_iconst (v := 1) dX4_readClause_101 (by decide) ?_
              refine a_iadd dX4_readClause_102 ?_
              obtain ⟨μ6, eμ6, hF⟩ := bd_e hF
              refine a_pI eμ6 dX4_readClause_103 fp_X4_24 (hg.d (by decide)) rfl rfl ?_
              refine a_aload_0 dX4_readClause_106 ?_
              refine a_aload_1 dX4_readClause_107 ?_
              obtain ⟨x7, ex7, hF⟩ := ob_e hF
              refine a_vV1 dX4_readClause_108 cv_X4_54 (ct_X4_readFarm hg p1 μ6 hp1 ex7) (by decide) (hg.d (by decide)) rfl (Nat.le_of_ble_eq_true rfl) ?_
              refine a_goto (tgt := 123) dX4_readClause_111 (by decide) ?_
              obtain rfl := Option.some.inj hF
              exact a_vret dX4_readClause_123 rfl ⟨rfl, rfl⟩
        · rw [if_pos h62] at hF
          refine a_aload_1 dX4_readClause_65 ?_
          refine a_getI dX4_readClause_66 fa_X4_44 (isD_lt hg hp1) (isD_sh hp1) rfl ?_
          refine a_bipush (v := 9) dX4_readClause_69 (by decide) ?_
          refine a_icmp_lt (tgt := 86) dX4_readClause_71 (by decide) (fun h71 => ?_) (fun h71 => ?_)
          · rw [if_pos h71] at hF
            refine a_iload_2 dX4_readClause_86 ?_
            refine a_bipush (v := 102) dX4_readClause_87 (by decide) ?_
            refine a_icmp_ne (tgt := 114) dX4_readClause_89 (by decide) (fun h89 => ?_) (fun h89 => ?_)
            · rw [if_neg h89] at hF
              refine a_aload_0 dX4_readClause_114 ?_
              refine a_iconst (v := 1) dX4_readClause_115 (by decide) ?_
              refine a_aload_0 dX4_readClause_116 ?_
              refine a_getI dX4_readClause_117 fa_X4_24 (hg.d (by decide)) rfl rfl ?_
              obtain ⟨x8, ex8, hF⟩ := bd_e hF
              refine a_vV2 dX4_readClause_120 cv_X4_50 (ct_X4_mark hg 1 (μ 1 2) μ ex8.symm) (by decide) (hg.d (by decide)) rfl (Nat.le_of_ble_eq_true rfl) ?_
              obtain rfl := Option.some.inj hF
              exact a_vret dX4_readClause_123 rfl ⟨rfl, rfl⟩
            · rw [if_pos h89] at hF
              refine a_iload_3 dX4_readClause_92 ?_
              refine a_if_ne (tgt := 114) dX4_readClause_93 (by decide) (fun h93 => ?_) (fun h93 => ?_)
              · rw [if_neg h93] at hF
                refine a_aload_0 dX4_readClause_114 ?_
                refine a_iconst (v := 1) dX4_readClause_115 (by decide) ?_
                refine a_aload_0 dX4_readClause_116 ?_
                refine a_getI dX4_readClause_117 fa_X4_24 (hg.d (by decide)) rfl rfl ?_
                obtain ⟨x9, ex9, hF⟩ := bd_e hF
                refine a_vV2 dX4_readClause_120 cv_X4_50 (ct_X4_mark hg 1 (μ 1 2) μ ex9.symm) (by decide) (hg.d (by decide)) rfl (Nat.le_of_ble_eq_true rfl) ?_
                obtain rfl := Option.some.inj hF
                exact a_vret dX4_readClause_123 rfl ⟨rfl, rfl⟩
              · rw [if_pos h93] at hF
                refine a_aload_0 dX4_readClause_96 ?_
                refine a_dup dX4_readClause_97 rfl ?_
                refine a_getI dX4_readClause_98 fa_X4_24 (hg.d (by decide)) rfl rfl ?_
                refine a_iconst (v := 1) dX4_readClause_101 (by decide) ?_
                refine a_iadd dX4_readClause_102 ?_
                obtain ⟨μ10, eμ10, hF⟩ := bd_e hF
                refine a_pI eμ10 dX4_readClause_103 fp_X4_24 (hg.d (by decide)) rfl rfl ?_
                refine a_aload_0 dX4_readClause_106 ?_
                refine a_aload_1 dX4_readClause_107 ?_
                obtain ⟨x11, ex11, hF⟩ := ob_e hF
                refine a_vV1 dX4_readClause_108 cv_X4_54 (ct_X4_readFarm hg p1 μ10 hp1 ex11) (by decide) (hg.d (by decide)) rfl (Nat.le_of_ble_eq_true rfl) ?_
                refine a_goto (tgt := 123) dX4_readClause_111 (by decide) ?_
                obtain rfl := Option.some.inj hF
                exact a_vret dX4_readClause_123 rfl ⟨rfl, rfl⟩
          · rw [if_neg h71] at hF
            refine a_aload_0 dX4_readClause_74 ?_
            refine a_iconst (v := 3) dX4_readClause_75 (by decide) ?_
            refine a_aload_0 dX4_readClause_76 ?_
            refine a_getI dX4_readClause_77 fa_X4_24 (hg.d (by decide)) rfl rfl ?_
            obtain ⟨x12, ex12, hF⟩ := bd_e hF
            refine a_vV2 dX4_readClause_80 cv_X4_50 (ct_X4_mark hg 3 (μ 1 2) μ ex12.symm) (by decide) (hg.d (by decide)) rfl (Nat.le_of_ble_eq_true rfl) ?_
            refine a_goto (tgt := 123) dX4_readClause_83 (by decide) ?_
            obtain rfl := Option.some.inj hF
            exact a_vret dX4_readClause_123 rfl ⟨rfl, rfl⟩
    · rw [if_pos h28] at hF
      refine a_iload_3 dX4_readClause_31 ?_
      refine a_if_eq (tgt := 53) dX4_readClause_32 (by decide) (fun h32 => ?_) (fun h32 => ?_)
      · rw [if_pos h32] at hF
        refine a_iload_2 dX4_readClause_53 ?_
        refine a_bipush (v := 98) dX4_readClause_54 (by decide) ?_
        refine a_icmp_eq (tgt := 74) dX4_readClause_56 (by decide) (fun h56 => ?_) (fun h56 => ?_)
        · rw [if_pos h56] at hF
          refine a_aload_0 dX4_readClause_74 ?_
          refine a_iconst (v := 3) dX4_readClause_75 (by decide) ?_
          refine a_aload_0 dX4_readClause_76 ?_
          refine a_getI dX4_readClause_77 fa_X4_24 (hg.d (by decide)) rfl rfl ?_
          obtain ⟨x13, ex13, hF⟩ := bd_e hF
          refine a_vV2 dX4_readClause_80 cv_X4_50 (ct_X4_mark hg 3 (μ 1 2) μ ex13.symm) (by decide) (hg.d (by decide)) rfl (Nat.le_of_ble_eq_true rfl) ?_
          refine a_goto (tgt := 123) dX4_readClause_83 (by decide) ?_
          obtain rfl := Option.some.inj hF
          exact a_vret dX4_readClause_123 rfl ⟨rfl, rfl⟩
        · rw [if_neg h56] at hF
          refine a_iload_2 dX4_readClause_59 ?_
          refine a_bipush (v := 102) dX4_readClause_60 (by decide) ?_
          refine a_icmp_ne (tgt := 86) dX4_readClause_62 (by decide) (fun h62 => ?_) (fun h62 => ?_)
          · rw [if_neg h62] at hF
            refine a_iload_2 dX4_readClause_86 ?_
            refine a_bipush (v := 102) dX4_readClause_87 (by decide) ?_
            refine a_icmp_ne (tgt := 114) dX4_readClause_89 (by decide) (fun h89 => ?_) (fun h89 => ?_)
            · rw [if_neg h89] at hF
              refine a_aload_0 dX4_readClause_114 ?_
              refine a_iconst (v := 1) dX4_readClause_115 (by decide) ?_
              refine a_aload_0 dX4_readClause_116 ?_
              refine a_getI dX4_readClause_117 fa_X4_24 (hg.d (by decide)) rfl rfl ?_
              obtain ⟨x14, ex14, hF⟩ := bd_e hF
              refine a_vV2 dX4_readClause_120 cv_X4_50 (ct_X4_mark hg 1 (μ 1 2) μ ex14.symm) (by decide) (hg.d (by decide)) rfl (Nat.le_of_ble_eq_true rfl) ?_
              obtain rfl := Option.some.inj hF
              exact a_vret dX4_readClause_123 rfl ⟨rfl, rfl⟩
            · rw [if_pos h89] at hF
              refine a_iload_3 dX4_readClause_92 ?_
              refine a_if_ne (tgt := 114) dX4_readClause_93 (by decide) (fun h93 => ?_) (fun h93 => ?_)
              · rw [if_neg h93] at hF
                refine a_aload_0 dX4_readClause_114 ?_
                refine a_iconst (v := 1) dX4_readClause_115 (by decide) ?_
                refine a_aload_0 dX4_readClause_116 ?_
                refine a_getI dX4_readClause_117 fa_X4_24 (hg.d (by decide)) rfl rfl ?_
                obtain ⟨x15, ex15, hF⟩ := bd_e hF
                refine a_vV2 dX4_readClause_120 cv_X4_50 (ct_X4_mark hg 1 (μ 1 2) μ ex15.symm) (by decide) (hg.d (by decide)) rfl (Nat.le_of_ble_eq_true rfl) ?_
                obtain rfl := Option.some.inj hF
                exact a_vret dX4_readClause_123 rfl ⟨rfl, rfl⟩
              · rw [if_pos h93] at hF
                refine a_aload_0 dX4_readClause_96 ?_
                refine a_dup dX4_readClause_97 rfl ?_
                refine a_getI dX4_readClause_98 fa_X4_24 (hg.d (by decide)) rfl rfl ?_
                refine a_iconst (v := 1) dX4_readClause_101 (by decide) ?_
                refine a_iadd dX4_readClause_102 ?_
                obtain ⟨μ16, eμ16, hF⟩ := bd_e hF
                refine a_pI eμ16 dX4_readClause_103 fp_X4_24 (hg.d (by decide)) rfl rfl ?_
                refine a_aload_0 dX4_readClause_106 ?_
                refine a_aload_1 dX4_readClause_107 ?_
                obtain ⟨x17, ex17, hF⟩ := ob_e hF
                refine a_vV1 dX4_readClause_108 cv_X4_54 (ct_X4_readFarm hg p1 μ16 hp1 ex17) (by decide) (hg.d (by decide)) rfl (Nat.le_of_ble_eq_true rfl) ?_
                refine a_goto (tgt := 123) dX4_readClause_111 (by decide) ?_
                obtain rfl := Option.some.inj hF
                exact a_vret dX4_readClause_123 rfl ⟨rfl, rfl⟩
          · rw [if_pos h62] at hF
            refine a_aload_1 dX4_readClause_65 ?_
            refine a_getI dX4_readClause_66 fa_X4_44 (isD_lt hg hp1) (isD_sh hp1) rfl ?_
            refine a_bipush (v := 9) dX4_readClause_69 (by decide) ?_
            refine a_icmp_lt (tgt := 86) dX4_readClause_71 (by decide) (fun h71 => ?_) (fun h71 => ?_)
            · rw [if_pos h71] at hF
              refine a_iload_2 dX4_readClause_86 ?_
              refine a_bipush (v := 102) dX4_readClause_87 (by decide) ?_
              refine a_icmp_ne (tgt := 114) dX4_readClause_89 (by decide) (fun h89 => ?_) (fun h89 => ?_)
              · rw [if_neg h89] at hF
                refine a_aload_0 dX4_readClause_114 ?_
                refine a_iconst (v := 1) dX4_readClause_115 (by decide) ?_
                refine a_aload_0 dX4_readClause_116 ?_
                refine a_getI dX4_readClause_117 fa_X4_24 (hg.d (by decide)) rfl rfl ?_
                obtain ⟨x18, ex18, hF⟩ := bd_e hF
                refine a_vV2 dX4_readClause_120 cv_X4_50 (ct_X4_mark hg 1 (μ 1 2) μ ex18.symm) (by decide) (hg.d (by decide)) rfl (Nat.le_of_ble_eq_true rfl) ?_
                obtain rfl := Option.some.inj hF
                exact a_vret dX4_readClause_123 rfl ⟨rfl, rfl⟩
              · rw [if_pos h89] at hF
                refine a_iload_3 dX4_readClause_92 ?_
                refine a_if_ne (tgt := 114) dX4_readClause_93 (by decide) (fun h93 => ?_) (fun h93 => ?_)
                · rw [if_neg h93] at hF
                  refine a_aload_0 dX4_readClause_114 ?_
                  refine a_iconst (v := 1) dX4_readClause_115 (by decide) ?_
                  refine a_aload_0 dX4_readClause_116 ?_
                  refine a_getI dX4_readClause_117 fa_X4_24 (hg.d (by decide)) rfl rfl ?_
                  obtain ⟨x19, ex19, hF⟩ := bd_e hF
                  refine a_vV2 dX4_readClause_120 cv_X4_50 (ct_X4_mark hg 1 (μ 1 2) μ ex19.symm) (by decide) (hg.d (by decide)) rfl (Nat.le_of_ble_eq_true rfl) ?_
                  obtain rfl := Option.some.inj hF
                  exact a_vret dX4_readClause_123 rfl ⟨rfl, rfl⟩
                · rw [if_pos h93] at hF
                  refine a_aload_0 dX4_readClause_96 ?_
                  refine a_dup dX4_readClause_97 rfl ?_
                  refine a_getI dX4_readClause_98 fa_X4_24 (hg.d (by decide)) rfl rfl ?_
                  refine a_iconst (v := 1) dX4_readClause_101 (by decide) ?_
                  refine a_iadd dX4_readClause_102 ?_
                  obtain ⟨μ20, eμ20, hF⟩ := bd_e hF
                  refine a_pI eμ20 dX4_readClause_103 fp_X4_24 (hg.d (by decide)) rfl rfl ?_
                  refine a_aload_0 dX4_readClause_106 ?_
                  refine a_aload_1 dX4_readClause_107 ?_
                  obtain ⟨x21, ex21, hF⟩ := ob_e hF
                  refine a_vV1 dX4_readClause_108 cv_X4_54 (ct_X4_readFarm hg p1 μ20 hp1 ex21) (by decide) (hg.d (by decide)) rfl (Nat.le_of_ble_eq_true rfl) ?_
                  refine a_goto (tgt := 123) dX4_readClause_111 (by decide) ?_
                  obtain rfl := Option.some.inj hF
                  exact a_vret dX4_readClause_123 rfl ⟨rfl, rfl⟩
            · rw [if_neg h71] at hF
              refine a_aload_0 dX4_readClause_74 ?_
              refine a_iconst (v := 3) dX4_readClause_75 (by decide) ?_
              refine a_aload_0 dX4_readClause_76 ?_
              refine a_getI dX4_readClause_77 fa_X4_24 (hg.d (by decide)) rfl rfl ?_
              obtain ⟨x22, ex22, hF⟩ := bd_e hF
              refine a_vV2 dX4_readClause_80 cv_X4_50 (ct_X4_mark hg 3 (μ 1 2) μ ex22.symm) (by decide) (hg.d (by decide)) rfl (Nat.le_of_ble_eq_true rfl) ?_
              refine a_goto (tgt := 123) dX4_readClause_83 (by decide) ?_
              obtain rfl := Option.some.inj hF
              exact a_vret dX4_readClause_123 rfl ⟨rfl, rfl⟩
      · rw [if_neg h32] at hF
        refine a_aload_0 dX4_readClause_35 ?_
        refine a_dup dX4_readClause_36 rfl ?_
        refine a_getI dX4_readClause_37 fa_X4_24 (hg.d (by decide)) rfl rfl ?_
        refine a_iconst (v := 1) dX4_readClause_40 (by decide) ?_
        refine a_iadd dX4_readClause_41 ?_
        obtain ⟨μ23, eμ23, hF⟩ := bd_e hF
        refine a_pI eμ23 dX4_readClause_42 fp_X4_24 (hg.d (by decide)) rfl rfl ?_
        refine a_aload_0 dX4_readClause_45 ?_
        refine a_aload_1 dX4_readClause_46 ?_
        obtain ⟨x24, ex24, hF⟩ := ob_e hF
        refine a_vV1 dX4_readClause_47 cv_X4_47 (ct_X4_readBecks hg p1 μ23 hp1 ex24) (by decide) (hg.d (by decide)) rfl (Nat.le_of_ble_eq_true rfl) ?_
        refine a_goto (tgt := 123) dX4_readClause_50 (by decide) ?_
        obtain rfl := Option.some.inj hF
        exact a_vret dX4_readClause_123 rfl ⟨rfl, rfl⟩
  refine a_if_ne (tgt := 23) dX4_readClause_16 (by decide) (fun h16 => ?_) (fun h16 => ?_)
  · rw [if_neg h16] at ej16
    refine a_iconst (v := 0) dX4_readClause_23 (by decide) ?_
    subst ej16
    exact KJ16
  · rw [if_pos h16] at ej16
    refine a_iconst (v := 1) dX4_readClause_19 (by decide) ?_
    refine a_goto (tgt := 24) dX4_readClause_20 (by decide) ?_
    subst ej16
    exact KJ16
set_option maxHeartbeats 4000000 in
set_option maxRecDepth 100000 in
theorem ct_X4_readInto_L25 {g : GT} (hg : GC g) (p1 : Nat) (hp1 : isD p1) {Q : Option Value → MM → Prop} : ∀ (n : Nat) (l2 : Int32) (μ : MM) (z : Int32 × MM), f_X4_readInto_L25 p1 n l2 μ = some z → (WA g 5 mi_X4_readInto 65 [some (.ref 1), some (.ref p1), some (.int z.1)] [] z.2 Q) → WA g 5 mi_X4_readInto 25 [some (.ref 1), some (.ref p1), some (.int l2)] [] μ Q := by
  intro n
  induction n with
  | zero => intro l2 μ z hF; exact absurd hF (by simp [f_X4_readInto_L25])
  | succ n ih =>
    intro l2 μ z hF K
    unfold f_X4_readInto_L25 at hF
    refine a_iload_2 dX4_readInto_25 ?_
    refine a_sipush (v := 240) dX4_readInto_26 (by decide) ?_
    refine a_icmp_ge (tgt := 65) dX4_readInto_29 (by decide) (fun h29 => ?_) (fun h29 => ?_)
    · rw [if_pos h29] at hF
      obtain rfl := Option.some.inj hF
      exact K
    · rw [if_neg h29] at hF
      refine a_aload_0 dX4_readInto_32 ?_
      refine a_getI dX4_readInto_33 fa_X4_24 (hg.d (by decide)) rfl rfl ?_
      refine a_aload_0 dX4_readInto_36 ?_
      refine a_getI dX4_readInto_37 fa_X4_33 (hg.d (by decide)) rfl rfl ?_
      refine a_icmp_ge (tgt := 65) dX4_readInto_40 (by decide) (fun h40 => ?_) (fun h40 => ?_)
      · rw [if_pos h40] at hF
        obtain rfl := Option.some.inj hF
        exact K
      · rw [if_neg h40] at hF
        refine a_aload_0 dX4_readInto_43 ?_
        refine a_getI dX4_readInto_44 fa_X4_27 (hg.d (by decide)) rfl rfl ?_
        refine a_if_ne (tgt := 65) dX4_readInto_47 (by decide) (fun h47 => ?_) (fun h47 => ?_)
        · rw [if_neg h47] at hF
          obtain rfl := Option.some.inj hF
          exact K
        · rw [if_pos h47] at hF
          refine a_aload_0 dX4_readInto_50 ?_
          refine a_aload_1 dX4_readInto_51 ?_
          obtain ⟨x6, ex6, hF⟩ := ob_e hF
          refine a_vV1 dX4_readInto_52 cv_X4_36 (ct_X4_readClause hg p1 μ hp1 ex6) (by decide) (hg.d (by decide)) rfl (Nat.le_of_ble_eq_true rfl) ?_
          refine a_aload_0 dX4_readInto_55 ?_
          obtain ⟨x7, ex7, hF⟩ := ob_e hF
          refine a_vV0 dX4_readInto_56 cv_X4_30 (ct_X4_skipBlanks hg x6 ex7) (by decide) (hg.d (by decide)) rfl (Nat.le_of_ble_eq_true rfl) ?_
          refine a_iinc_2 (c0 := 1) dX4_readInto_59 (by decide) (by decide) rfl ?_
          refine a_goto (tgt := 25) dX4_readInto_62 (by decide) ?_
          exact ih (l2 + 1) x7 _ hF K
set_option maxHeartbeats 4000000 in
set_option maxRecDepth 100000 in
theorem ct_X4_readInto {g : GT} (hg : GC g) (p1 : Nat) (μ : MM) (hp1 : isD p1) {r : MM} (hF : f_X4_readInto p1 μ = some r) : Ct g 5 mi_X4_readInto [.ref 1, .ref p1] μ (QV r) := by
  refine ct_of (k := 1) (by decide +kernel) rfl hg.1 rfl ?_
  show WA g 5 mi_X4_readInto 0 [some (.ref 1), some (.ref p1), none] [] μ (QV r)
  unfold f_X4_readInto at hF
  refine a_aload_1 dX4_readInto_0 ?_
  obtain ⟨x1, ex1, hF⟩ := bd_e hF
  refine a_vV0 dX4_readInto_1 cv_X4_19 (ct_X1_clear hg p1 μ hp1 ex1.symm) (by decide) (isD_lt hg hp1) (isD_sh hp1) (Nat.le_of_ble_eq_true rfl) ?_
  refine a_aload_0 dX4_readInto_4 ?_
  refine a_iconst (v := 0) dX4_readInto_5 (by decide) ?_
  obtain ⟨μ2, eμ2, hF⟩ := bd_e hF
  refine a_pI eμ2 dX4_readInto_6 fp_X4_24 (hg.d (by decide)) rfl rfl ?_
  refine a_aload_0 dX4_readInto_9 ?_
  refine a_iconst (v := 0) dX4_readInto_10 (by decide) ?_
  obtain ⟨μ3, eμ3, hF⟩ := bd_e hF
  refine a_pI eμ3 dX4_readInto_11 fp_X4_27 (hg.d (by decide)) rfl rfl ?_
  refine a_aload_0 dX4_readInto_14 ?_
  refine a_iconst (v := (-1)) dX4_readInto_15 (by decide) ?_
  obtain ⟨μ4, eμ4, hF⟩ := bd_e hF
  refine a_pI eμ4 dX4_readInto_16 fp_X4_15 (hg.d (by decide)) rfl rfl ?_
  refine a_aload_0 dX4_readInto_19 ?_
  obtain ⟨x5, ex5, hF⟩ := ob_e hF
  refine a_vV0 dX4_readInto_20 cv_X4_30 (ct_X4_skipBlanks hg μ4 ex5) (by decide) (hg.d (by decide)) rfl (Nat.le_of_ble_eq_true rfl) ?_
  refine a_iconst (v := 0) dX4_readInto_23 (by decide) ?_
  refine a_istore_2 dX4_readInto_24 (by decide) rfl ?_
  obtain ⟨z8, ez8, hF⟩ := ob_e hF
  refine ct_X4_readInto_L25 hg p1 hp1 FU 0 x5 z8 ez8 ?_
  obtain rfl := Option.some.inj hF
  exact a_vret dX4_readInto_65 rfl ⟨rfl, rfl⟩
set_option maxHeartbeats 4000000 in
set_option maxRecDepth 100000 in
theorem ct_X5_begin {g : GT} (hg : GC g) (w : Nat) (p1 : Nat) (μ : MM) (hw : isW w) (hp1 : isD p1) {r : MM} (hF : f_X5_begin w p1 μ = some r) : Ct g 1 mi_X5_begin [.ref w, .ref p1] μ (QV r) := by
  refine ct_of (k := 0) (by decide +kernel) rfl hg.1 rfl ?_
  show WA g 1 mi_X5_begin 0 [some (.ref w), some (.ref p1)] [] μ (QV r)
  unfold f_X5_begin at hF
  refine a_aload_0 dX5_begin_0 ?_
  refine a_iconst (v := 0) dX5_begin_1 (by decide) ?_
  obtain ⟨μ1, eμ1, hF⟩ := bd_e hF
  refine a_pI eμ1 dX5_begin_2 fp_X5_27 (isW_lt hg hw) (isW_sh hw) rfl ?_
  refine a_aload_0 dX5_begin_5 ?_
  refine a_aload_1 dX5_begin_6 ?_
  refine a_getI dX5_begin_7 fa_X5_31 (isD_lt hg hp1) (isD_sh hp1) rfl ?_
  obtain ⟨μ2, eμ2, hF⟩ := bd_e hF
  refine a_pI eμ2 dX5_begin_10 fp_X5_36 (isW_lt hg hw) (isW_sh hw) rfl ?_
  refine a_aload_0 dX5_begin_13 ?_
  refine a_iconst (v := 0) dX5_begin_14 (by decide) ?_
  obtain ⟨μ3, eμ3, hF⟩ := bd_e hF
  refine a_pZ eμ3 dX5_begin_15 fp_X5_37 (Or.inl rfl) (isW_lt hg hw) (isW_sh hw) rfl ?_
  refine a_aload_0 dX5_begin_18 ?_
  refine a_iconst (v := 0) dX5_begin_19 (by decide) ?_
  obtain ⟨μ4, eμ4, hF⟩ := bd_e hF
  refine a_pI eμ4 dX5_begin_20 fp_X5_41 (isW_lt hg hw) (isW_sh hw) rfl ?_
  refine a_aload_0 dX5_begin_23 ?_
  refine a_iconst (v := 0) dX5_begin_24 (by decide) ?_
  obtain ⟨μ5, eμ5, hF⟩ := bd_e hF
  refine a_pI eμ5 dX5_begin_25 fp_X5_44 (isW_lt hg hw) (isW_sh hw) rfl ?_
  refine a_aload_0 dX5_begin_28 ?_
  refine a_iconst (v := 0) dX5_begin_29 (by decide) ?_
  obtain ⟨μ6, eμ6, hF⟩ := bd_e hF
  refine a_pI eμ6 dX5_begin_30 fp_X5_47 (isW_lt hg hw) (isW_sh hw) rfl ?_
  refine a_aload_0 dX5_begin_33 ?_
  refine a_iconst (v := 0) dX5_begin_34 (by decide) ?_
  obtain ⟨μ7, eμ7, hF⟩ := bd_e hF
  refine a_pI eμ7 dX5_begin_35 fp_X5_50 (isW_lt hg hw) (isW_sh hw) rfl ?_
  refine a_aload_0 dX5_begin_38 ?_
  refine a_iconst (v := 0) dX5_begin_39 (by decide) ?_
  obtain ⟨μ8, eμ8, hF⟩ := bd_e hF
  refine a_pI eμ8 dX5_begin_40 fp_X5_53 (isW_lt hg hw) (isW_sh hw) rfl ?_
  refine a_aload_1 dX5_begin_43 ?_
  refine a_getR (q := (p1 + 3)) dX5_begin_44 fa_X5_56 (isD_lt hg hp1) (isD_sh hp1) rfl ?_
  refine a_iconst (v := 0) dX5_begin_47 (by decide) ?_
  refine a_aload_0 dX5_begin_48 ?_
  refine a_getR (q := (w + 3)) dX5_begin_49 fa_X5_18 (isW_lt hg hw) (isW_sh hw) rfl ?_
  refine a_iconst (v := 0) dX5_begin_52 (by decide) ?_
  refine a_bipush (v := 9) dX5_begin_53 (by decide) ?_
  obtain ⟨μ9, eμ9, hF⟩ := bd_e hF
  refine a_cp eμ9 dX5_begin_55 ac_X5_57 (isD_lt3 hg hp1) (isD_sh3 hp1) (isW_lt3 hg hw) (isW_sh3 hw) rfl rfl (by decide) (by decide) (by decide) (by decide) rfl (by decide) ?_
  refine a_aload_0 dX5_begin_58 ?_
  refine a_getR (q := (w + 4)) dX5_begin_59 fa_X5_21 (isW_lt hg hw) (isW_sh hw) rfl ?_
  refine a_iconst (v := (-1)) dX5_begin_62 (by decide) ?_
  obtain ⟨x10, ex10, hF⟩ := ob_e hF
  refine a_vS2 dX5_begin_63 cs_X5_63 (ct_J7_fill_53178 hg.1 (w + 4) (-1) μ9 (isW_i4 hg hw) ex10) (by decide) (Nat.le_of_ble_eq_true rfl) ?_
  refine a_aload_0 dX5_begin_66 ?_
  refine a_getR (q := (w + 5)) dX5_begin_67 fa_X5_24 (isW_lt hg hw) (isW_sh hw) rfl ?_
  refine a_iconst (v := 0) dX5_begin_70 (by decide) ?_
  obtain ⟨x11, ex11, hF⟩ := ob_e hF
  refine a_vS2 dX5_begin_71 cs_X5_63 (ct_J7_fill_53178 hg.1 (w + 5) 0 x10 (isW_i5 hg hw) ex11) (by decide) (Nat.le_of_ble_eq_true rfl) ?_
  obtain rfl := Option.some.inj hF
  exact a_vret dX5_begin_74 rfl ⟨rfl, rfl⟩
set_option maxHeartbeats 4000000 in
set_option maxRecDepth 100000 in
theorem ct_X5_ofTalk {g : GT} (hg : GC g) (w : Nat) (p1 : Int32) (p2 : Int32) (μ : MM) (hw : isW w) {r : Int32} (hF : f_X5_ofTalk w p1 p2 μ = r) : Ct g 1 mi_X5_ofTalk [.ref w, .int p1, .int p2] μ (QI r μ) := by
  refine ct_of (k := 0) (by decide +kernel) rfl hg.1 rfl ?_
  show WA g 1 mi_X5_ofTalk 0 [some (.ref w), some (.int p1), some (.int p2)] [] μ (QI r μ)
  unfold f_X5_ofTalk at hF
  refine a_aload_0 dX5_ofTalk_0 ?_
  refine a_getR (q := (w + 1)) dX5_ofTalk_1 fa_X5_9 (isW_lt hg hw) (isW_sh hw) rfl ?_
  refine a_iconst (v := 4) dX5_ofTalk_4 (by decide) ?_
  refine a_iload_1 dX5_ofTalk_5 ?_
  refine a_imul dX5_ofTalk_6 ?_
  refine a_iload_2 dX5_ofTalk_7 ?_
  refine a_iadd dX5_ofTalk_8 ?_
  obtain ⟨x1, ex1, hF⟩ := bd_e hF
  refine a_iN2 dX5_ofTalk_9 cn_X5_69 (ct_X6_cell hg (w + 1) ((4 * p1) + p2) μ (isW_i1 hg hw) ex1.symm) (by decide) (Nat.le_of_ble_eq_true rfl) ?_
  subst hF
  exact a_iret dX5_ofTalk_12 rfl ⟨rfl, rfl⟩
set_option maxHeartbeats 4000000 in
set_option maxRecDepth 100000 in
theorem ct_X5_ofLog {g : GT} (hg : GC g) (w : Nat) (p1 : Int32) (p2 : Int32) (μ : MM) (hw : isW w) {r : Int32} (hF : f_X5_ofLog w p1 p2 μ = r) : Ct g 1 mi_X5_ofLog [.ref w, .int p1, .int p2] μ (QI r μ) := by
  refine ct_of (k := 1) (by decide +kernel) rfl hg.1 rfl ?_
  show WA g 1 mi_X5_ofLog 0 [some (.ref w), some (.int p1), some (.int p2), none] [] μ (QI r μ)
  unfold f_X5_ofLog at hF
  refine a_aload_0 dX5_ofLog_0 ?_
  refine a_getI dX5_ofLog_1 fa_X5_53 (isW_lt hg hw) (isW_sh hw) rfl ?_
  refine a_iconst (v := 1) dX5_ofLog_4 (by decide) ?_
  refine a_isub dX5_ofLog_5 ?_
  refine a_iload_1 dX5_ofLog_6 ?_
  refine a_isub dX5_ofLog_7 ?_
  refine a_bipush (v := 40) dX5_ofLog_8 (by decide) ?_
  refine a_iadd dX5_ofLog_10 ?_
  refine a_bipush (v := 20) dX5_ofLog_11 (by decide) ?_
  refine a_rem dX5_ofLog_13 (by decide) ?_
  obtain ⟨v1, ev1, hF⟩ := bd_e hF
  refine a_nm ev1 ?_
  refine a_istore_3 dX5_ofLog_14 (by decide) rfl ?_
  refine a_aload_0 dX5_ofLog_15 ?_
  refine a_getR (q := (w + 2)) dX5_ofLog_16 fa_X5_15 (isW_lt hg hw) (isW_sh hw) rfl ?_
  refine a_iconst (v := 4) dX5_ofLog_19 (by decide) ?_
  refine a_iload_3 dX5_ofLog_20 ?_
  refine a_imul dX5_ofLog_21 ?_
  refine a_iload_2 dX5_ofLog_22 ?_
  refine a_iadd dX5_ofLog_23 ?_
  obtain ⟨x2, ex2, hF⟩ := bd_e hF
  refine a_iN2 dX5_ofLog_24 cn_X5_69 (ct_X6_cell hg (w + 2) ((4 * v1) + p2) μ (isW_i2 hg hw) ex2.symm) (by decide) (Nat.le_of_ble_eq_true rfl) ?_
  subst hF
  exact a_iret dX5_ofLog_27 rfl ⟨rfl, rfl⟩
set_option maxHeartbeats 4000000 in
set_option maxRecDepth 100000 in
theorem ct_X5_placeTalk {g : GT} (hg : GC g) (w : Nat) (p1 : Int32) (p2 : Int32) (p3 : Int32) (p4 : Int32) (p5 : Int32) (μ : MM) (hw : isW w) {r : MM} (hF : f_X5_placeTalk w p1 p2 p3 p4 p5 μ = r) : Ct g 1 mi_X5_placeTalk [.ref w, .int p1, .int p2, .int p3, .int p4, .int p5] μ (QV r) := by
  refine ct_of (k := 1) (by decide +kernel) rfl hg.1 rfl ?_
  show WA g 1 mi_X5_placeTalk 0 [some (.ref w), some (.int p1), some (.int p2), some (.int p3), some (.int p4), some (.int p5), none] [] μ (QV r)
  unfold f_X5_placeTalk at hF
  refine a_iconst (v := 4) dX5_placeTalk_0 (by decide) ?_
  refine a_iload_1 dX5_placeTalk_1 ?_
  refine a_imul dX5_placeTalk_2 ?_
  obtain ⟨v1, ev1, hF⟩ := bd_e hF
  refine a_nm ev1 ?_
  refine a_istore_6 dX5_placeTalk_3 (by decide) rfl ?_
  refine a_aload_0 dX5_placeTalk_5 ?_
  refine a_getR (q := (w + 1)) dX5_placeTalk_6 fa_X5_9 (isW_lt hg hw) (isW_sh hw) rfl ?_
  refine a_iload_6 dX5_placeTalk_9 ?_
  refine a_iconst (v := 0) dX5_placeTalk_11 (by decide) ?_
  refine a_iadd dX5_placeTalk_12 ?_
  refine a_iload_2 dX5_placeTalk_13 ?_
  obtain ⟨x2, ex2, hF⟩ := bd_e hF
  refine a_vN3 dX5_placeTalk_14 cn_X5_135 (ct_X6_put hg (w + 1) (v1 + 0) p2 μ (isW_i1 hg hw) ex2.symm) (by decide) (Nat.le_of_ble_eq_true rfl) ?_
  refine a_aload_0 dX5_placeTalk_17 ?_
  refine a_getR (q := (w + 1)) dX5_placeTalk_18 fa_X5_9 (isW_lt hg hw) (isW_sh hw) rfl ?_
  refine a_iload_6 dX5_placeTalk_21 ?_
  refine a_iconst (v := 1) dX5_placeTalk_23 (by decide) ?_
  refine a_iadd dX5_placeTalk_24 ?_
  refine a_iload_3 dX5_placeTalk_25 ?_
  obtain ⟨x3, ex3, hF⟩ := bd_e hF
  refine a_vN3 dX5_placeTalk_26 cn_X5_135 (ct_X6_put hg (w + 1) (v1 + 1) p3 x2 (isW_i1 hg hw) ex3.symm) (by decide) (Nat.le_of_ble_eq_true rfl) ?_
  refine a_aload_0 dX5_placeTalk_29 ?_
  refine a_getR (q := (w + 1)) dX5_placeTalk_30 fa_X5_9 (isW_lt hg hw) (isW_sh hw) rfl ?_
  refine a_iload_6 dX5_placeTalk_33 ?_
  refine a_iconst (v := 2) dX5_placeTalk_35 (by decide) ?_
  refine a_iadd dX5_placeTalk_36 ?_
  refine a_iload_4 dX5_placeTalk_37 ?_
  obtain ⟨x4, ex4, hF⟩ := bd_e hF
  refine a_vN3 dX5_placeTalk_39 cn_X5_135 (ct_X6_put hg (w + 1) (v1 + 2) p4 x3 (isW_i1 hg hw) ex4.symm) (by decide) (Nat.le_of_ble_eq_true rfl) ?_
  refine a_aload_0 dX5_placeTalk_42 ?_
  refine a_getR (q := (w + 1)) dX5_placeTalk_43 fa_X5_9 (isW_lt hg hw) (isW_sh hw) rfl ?_
  refine a_iload_6 dX5_placeTalk_46 ?_
  refine a_iconst (v := 3) dX5_placeTalk_48 (by decide) ?_
  refine a_iadd dX5_placeTalk_49 ?_
  refine a_iload_5 dX5_placeTalk_50 ?_
  obtain ⟨x5, ex5, hF⟩ := bd_e hF
  refine a_vN3 dX5_placeTalk_52 cn_X5_135 (ct_X6_put hg (w + 1) (v1 + 3) p5 x4 (isW_i1 hg hw) ex5.symm) (by decide) (Nat.le_of_ble_eq_true rfl) ?_
  subst hF
  exact a_vret dX5_placeTalk_55 rfl ⟨rfl, rfl⟩
set_option maxHeartbeats 4000000 in
set_option maxRecDepth 100000 in
theorem ct_X5_enterTalk {g : GT} (hg : GC g) (w : Nat) (p1 : Nat) (p2 : Int32) (p3 : Int32) (μ : MM) (hw : isW w) (hp1 : isD p1) {r : MM} (hF : f_X5_enterTalk w p1 p2 p3 μ = r) : Ct g 2 mi_X5_enterTalk [.ref w, .ref p1, .int p2, .int p3] μ (QV r) := by
  refine ct_of (k := 0) (by decide +kernel) rfl hg.1 rfl ?_
  show WA g 2 mi_X5_enterTalk 0 [some (.ref w), some (.ref p1), some (.int p2), some (.int p3)] [] μ (QV r)
  unfold f_X5_enterTalk at hF
  refine a_aload_0 dX5_enterTalk_0 ?_
  refine a_aload_0 dX5_enterTalk_1 ?_
  refine a_getI dX5_enterTalk_2 fa_X5_47 (isW_lt hg hw) (isW_sh hw) rfl ?_
  refine a_iload_3 dX5_enterTalk_5 ?_
  refine a_iload_2 dX5_enterTalk_6 ?_
  refine a_aload_1 dX5_enterTalk_7 ?_
  refine a_iload_2 dX5_enterTalk_8 ?_
  obtain ⟨x1, ex1, hF⟩ := bd_e hF
  refine a_iV1 dX5_enterTalk_9 cv_X5_73 (ct_X1_toGoFrom hg p1 p2 μ hp1 ex1.symm) (by decide) (isD_lt hg hp1) (isD_sh hp1) (Nat.le_of_ble_eq_true rfl) ?_
  refine a_iload_2 dX5_enterTalk_12 ?_
  obtain ⟨x2, ex2, hF⟩ := bd_e hF
  refine a_vV5 dX5_enterTalk_13 cv_X5_77 (ct_X5_placeTalk hg w (μ w 5) p3 p2 x1 p2 μ hw ex2.symm) (by decide) (isW_lt hg hw) (isW_sh hw) (Nat.le_of_ble_eq_true rfl) ?_
  refine a_aload_0 dX5_enterTalk_16 ?_
  refine a_dup dX5_enterTalk_17 rfl ?_
  refine a_getI dX5_enterTalk_18 fa_X5_47 (isW_lt hg hw) (isW_sh hw) rfl ?_
  refine a_iconst (v := 1) dX5_enterTalk_21 (by decide) ?_
  refine a_iadd dX5_enterTalk_22 ?_
  obtain ⟨μ3, eμ3, hF⟩ := bd_e hF
  refine a_pI eμ3 dX5_enterTalk_23 fp_X5_47 (isW_lt hg hw) (isW_sh hw) rfl ?_
  subst hF
  exact a_vret dX5_enterTalk_26 rfl ⟨rfl, rfl⟩
set_option maxHeartbeats 4000000 in
set_option maxRecDepth 100000 in
theorem ct_X5_moveTalk {g : GT} (hg : GC g) (w : Nat) (p1 : Int32) (p2 : Int32) (μ : MM) (hw : isW w) {r : MM} (hF : f_X5_moveTalk w p1 p2 μ = r) : Ct g 2 mi_X5_moveTalk [.ref w, .int p1, .int p2] μ (QV r) := by
  refine ct_of (k := 0) (by decide +kernel) rfl hg.1 rfl ?_
  show WA g 2 mi_X5_moveTalk 0 [some (.ref w), some (.int p1), some (.int p2)] [] μ (QV r)
  unfold f_X5_moveTalk at hF
  refine a_aload_0 dX5_moveTalk_0 ?_
  refine a_iload_2 dX5_moveTalk_1 ?_
  refine a_aload_0 dX5_moveTalk_2 ?_
  refine a_iload_1 dX5_moveTalk_3 ?_
  refine a_iconst (v := 0) dX5_moveTalk_4 (by decide) ?_
  obtain ⟨x1, ex1, hF⟩ := bd_e hF
  refine a_iV2 dX5_moveTalk_5 cv_X5_92 (ct_X5_ofTalk hg w p1 0 μ hw ex1.symm) (by decide) (isW_lt hg hw) (isW_sh hw) (Nat.le_of_ble_eq_true rfl) ?_
  refine a_aload_0 dX5_moveTalk_8 ?_
  refine a_iload_1 dX5_moveTalk_9 ?_
  refine a_iconst (v := 1) dX5_moveTalk_10 (by decide) ?_
  obtain ⟨x2, ex2, hF⟩ := bd_e hF
  refine a_iV2 dX5_moveTalk_11 cv_X5_92 (ct_X5_ofTalk hg w p1 1 μ hw ex2.symm) (by decide) (isW_lt hg hw) (isW_sh hw) (Nat.le_of_ble_eq_true rfl) ?_
  refine a_aload_0 dX5_moveTalk_14 ?_
  refine a_iload_1 dX5_moveTalk_15 ?_
  refine a_iconst (v := 2) dX5_moveTalk_16 (by decide) ?_
  obtain ⟨x3, ex3, hF⟩ := bd_e hF
  refine a_iV2 dX5_moveTalk_17 cv_X5_92 (ct_X5_ofTalk hg w p1 2 μ hw ex3.symm) (by decide) (isW_lt hg hw) (isW_sh hw) (Nat.le_of_ble_eq_true rfl) ?_
  refine a_aload_0 dX5_moveTalk_20 ?_
  refine a_iload_1 dX5_moveTalk_21 ?_
  refine a_iconst (v := 3) dX5_moveTalk_22 (by decide) ?_
  obtain ⟨x4, ex4, hF⟩ := bd_e hF
  refine a_iV2 dX5_moveTalk_23 cv_X5_92 (ct_X5_ofTalk hg w p1 3 μ hw ex4.symm) (by decide) (isW_lt hg hw) (isW_sh hw) (Nat.le_of_ble_eq_true rfl) ?_
  obtain ⟨x5, ex5, hF⟩ := bd_e hF
  refine a_vV5 dX5_moveTalk_26 cv_X5_77 (ct_X5_placeTalk hg w p2 x1 x2 x3 x4 μ hw ex5.symm) (by decide) (isW_lt hg hw) (isW_sh hw) (Nat.le_of_ble_eq_true rfl) ?_
  subst hF
  exact a_vret dX5_moveTalk_29 rfl ⟨rfl, rfl⟩
set_option maxHeartbeats 4000000 in
set_option maxRecDepth 100000 in
theorem ct_X5_endTalk_L4 {g : GT} (hg : GC g) (w : Nat) (l1 : Int32) (hw : isW w) {Q : Option Value → MM → Prop} : ∀ (n : Nat) (l2 : Int32) (μ : MM) (z : Int32 × MM), f_X5_endTalk_L4 w l1 n l2 μ = some z → (WA g 3 mi_X5_endTalk 26 [some (.ref w), some (.int l1), some (.int z.1)] [] z.2 Q) → WA g 3 mi_X5_endTalk 4 [some (.ref w), some (.int l1), some (.int l2)] [] μ Q := by
  intro n
  induction n with
  | zero => intro l2 μ z hF; exact absurd hF (by simp [f_X5_endTalk_L4])
  | succ n ih =>
    intro l2 μ z hF K
    unfold f_X5_endTalk_L4 at hF
    refine a_iload_2 dX5_endTalk_4 ?_
    refine a_aload_0 dX5_endTalk_5 ?_
    refine a_getI dX5_endTalk_6 fa_X5_47 (isW_lt hg hw) (isW_sh hw) rfl ?_
    refine a_icmp_ge (tgt := 26) dX5_endTalk_9 (by decide) (fun h9 => ?_) (fun h9 => ?_)
    · rw [if_pos h9] at hF
      obtain rfl := Option.some.inj hF
      exact K
    · rw [if_neg h9] at hF
      refine a_aload_0 dX5_endTalk_12 ?_
      refine a_iload_2 dX5_endTalk_13 ?_
      refine a_iload_2 dX5_endTalk_14 ?_
      refine a_iconst (v := 1) dX5_endTalk_15 (by decide) ?_
      refine a_isub dX5_endTalk_16 ?_
      obtain ⟨x2, ex2, hF⟩ := bd_e hF
      refine a_vV2 dX5_endTalk_17 cv_X5_81 (ct_X5_moveTalk hg w l2 (l2 - 1) μ hw ex2.symm) (by decide) (isW_lt hg hw) (isW_sh hw) (Nat.le_of_ble_eq_true rfl) ?_
      refine a_iinc_2 (c0 := 1) dX5_endTalk_20 (by decide) (by decide) rfl ?_
      refine a_goto (tgt := 4) dX5_endTalk_23 (by decide) ?_
      exact ih (l2 + 1) x2 _ hF K
set_option maxHeartbeats 4000000 in
set_option maxRecDepth 100000 in
theorem ct_X5_endTalk {g : GT} (hg : GC g) (w : Nat) (p1 : Int32) (μ : MM) (hw : isW w) {r : MM} (hF : f_X5_endTalk w p1 μ = some r) : Ct g 3 mi_X5_endTalk [.ref w, .int p1] μ (QV r) := by
  refine ct_of (k := 1) (by decide +kernel) rfl hg.1 rfl ?_
  show WA g 3 mi_X5_endTalk 0 [some (.ref w), some (.int p1), none] [] μ (QV r)
  unfold f_X5_endTalk at hF
  refine a_iload_1 dX5_endTalk_0 ?_
  refine a_iconst (v := 1) dX5_endTalk_1 (by decide) ?_
  refine a_iadd dX5_endTalk_2 ?_
  obtain ⟨v1, ev1, hF⟩ := bd_e hF
  refine a_nm ev1 ?_
  refine a_istore_2 dX5_endTalk_3 (by decide) rfl ?_
  obtain ⟨z3, ez3, hF⟩ := ob_e hF
  refine ct_X5_endTalk_L4 hg w p1 hw FU v1 μ z3 ez3 ?_
  refine a_aload_0 dX5_endTalk_26 ?_
  refine a_dup dX5_endTalk_27 rfl ?_
  refine a_getI dX5_endTalk_28 fa_X5_47 (isW_lt hg hw) (isW_sh hw) rfl ?_
  refine a_iconst (v := 1) dX5_endTalk_31 (by decide) ?_
  refine a_isub dX5_endTalk_32 ?_
  obtain ⟨μ4, eμ4, hF⟩ := bd_e hF
  refine a_pI eμ4 dX5_endTalk_33 fp_X5_47 (isW_lt hg hw) (isW_sh hw) rfl ?_
  obtain rfl := Option.some.inj hF
  exact a_vret dX5_endTalk_36 rfl ⟨rfl, rfl⟩
set_option maxHeartbeats 4000000 in
set_option maxRecDepth 100000 in
theorem ct_X5_leaveOnly {g : GT} (hg : GC g) (w : Nat) (p1 : Int32) (μ : MM) (hw : isW w) {r : MM} (hF : f_X5_leaveOnly w p1 μ = r) : Ct g 3 mi_X5_leaveOnly [.ref w, .int p1] μ (QV r) := by
  refine ct_of (k := 0) (by decide +kernel) rfl hg.1 rfl ?_
  show WA g 3 mi_X5_leaveOnly 0 [some (.ref w), some (.int p1)] [] μ (QV r)
  unfold f_X5_leaveOnly at hF
  refine a_aload_0 dX5_leaveOnly_0 ?_
  refine a_iload_1 dX5_leaveOnly_1 ?_
  refine a_iconst (v := 0) dX5_leaveOnly_2 (by decide) ?_
  obtain ⟨x1, ex1, hF⟩ := bd_e hF
  refine a_vV2 dX5_leaveOnly_3 cv_X5_81 (ct_X5_moveTalk hg w p1 0 μ hw ex1.symm) (by decide) (isW_lt hg hw) (isW_sh hw) (Nat.le_of_ble_eq_true rfl) ?_
  refine a_aload_0 dX5_leaveOnly_6 ?_
  refine a_iconst (v := 1) dX5_leaveOnly_7 (by decide) ?_
  obtain ⟨μ2, eμ2, hF⟩ := bd_e hF
  refine a_pI eμ2 dX5_leaveOnly_8 fp_X5_47 (isW_lt hg hw) (isW_sh hw) rfl ?_
  subst hF
  exact a_vret dX5_leaveOnly_11 rfl ⟨rfl, rfl⟩
set_option maxHeartbeats 4000000 in
set_option maxRecDepth 100000 in
theorem ct_X5_garbled {g : GT} (hg : GC g) (w : Nat) (p1 : Nat) (p2 : Int32) (p3 : Int32) (μ : MM) (hw : isW w) (hp1 : isD p1) {r : Int32} (hF : f_X5_garbled w p1 p2 p3 μ = r) : Ct g 1 mi_X5_garbled [.ref w, .ref p1, .int p2, .int p3] μ (QI r μ) := by
  refine ct_of (k := 3) (by decide +kernel) rfl hg.1 rfl ?_
  show WA g 1 mi_X5_garbled 0 [some (.ref w), some (.ref p1), some (.int p2), some (.int p3), none, none, none] [] μ (QI r μ)
  unfold f_X5_garbled at hF
  refine a_aload_0 dX5_garbled_0 ?_
  refine a_getR (q := (w + 3)) dX5_garbled_1 fa_X5_18 (isW_lt hg hw) (isW_sh hw) rfl ?_
  refine a_iload_2 dX5_garbled_4 ?_
  obtain ⟨x1, ex1, hF⟩ := bd_e hF
  refine a_iN2 dX5_garbled_5 cn_X5_69 (ct_X6_cell hg (w + 3) p2 μ (isW_i3 hg hw) ex1.symm) (by decide) (Nat.le_of_ble_eq_true rfl) ?_
  refine a_istore_4 dX5_garbled_8 (by decide) rfl ?_
  refine a_aload_1 dX5_garbled_10 ?_
  refine a_getR (q := (p1 + 4)) dX5_garbled_11 fa_X5_125 (isD_lt hg hp1) (isD_sh hp1) rfl ?_
  refine a_iload_2 dX5_garbled_14 ?_
  obtain ⟨x2, ex2, hF⟩ := bd_e hF
  refine a_iN2 dX5_garbled_15 cn_X5_69 (ct_X6_cell hg (p1 + 4) p2 μ (isD_i4 hg hp1) ex2.symm) (by decide) (Nat.le_of_ble_eq_true rfl) ?_
  refine a_istore_5 dX5_garbled_18 (by decide) rfl ?_
  refine a_iload_4 dX5_garbled_20 ?_
  refine a_iload_5 dX5_garbled_22 ?_
  refine a_aload_1 dX5_garbled_24 ?_
  refine a_getI dX5_garbled_25 fa_X5_128 (isD_lt hg hp1) (isD_sh hp1) rfl ?_
  refine a_iload_3 dX5_garbled_28 ?_
  obtain ⟨x3, ex3, hF⟩ := bd_e hF
  refine a_iN4 dX5_garbled_29 cn_X5_131 (ct_X6_garbledOnce hg x1 x2 (μ p1 0) p3 μ ex3.symm) (by decide) (Nat.le_of_ble_eq_true rfl) ?_
  refine a_istore_6 dX5_garbled_32 (by decide) rfl ?_
  refine a_aload_0 dX5_garbled_34 ?_
  refine a_getI dX5_garbled_35 fa_X5_36 (isW_lt hg hw) (isW_sh hw) rfl ?_
  refine a_bipush (v := 7) dX5_garbled_38 (by decide) ?_
  refine a_icmp_lt (tgt := 59) dX5_garbled_40 (by decide) (fun h40 => ?_) (fun h40 => ?_)
  · rw [if_pos h40] at hF
    refine a_iload_6 dX5_garbled_59 ?_
    subst hF
    exact a_iret dX5_garbled_61 rfl ⟨rfl, rfl⟩
  · rw [if_neg h40] at hF
    refine a_iload_4 dX5_garbled_43 ?_
    refine a_iload_5 dX5_garbled_45 ?_
    refine a_aload_1 dX5_garbled_47 ?_
    refine a_getI dX5_garbled_48 fa_X5_128 (isD_lt hg hp1) (isD_sh hp1) rfl ?_
    refine a_iload_6 dX5_garbled_51 ?_
    obtain ⟨x4, ex4, hF⟩ := bd_e hF
    refine a_iN4 dX5_garbled_53 cn_X5_131 (ct_X6_garbledOnce hg x1 x2 (μ p1 0) x3 μ ex4.symm) (by decide) (Nat.le_of_ble_eq_true rfl) ?_
    refine a_goto (tgt := 61) dX5_garbled_56 (by decide) ?_
    subst hF
    exact a_iret dX5_garbled_61 rfl ⟨rfl, rfl⟩
set_option maxHeartbeats 4000000 in
set_option maxRecDepth 100000 in
theorem ct_X6_holds {g : GT} (hg : GC g) (p0 : Int32) (p1 : Int32) (μ : MM)  {r : Int32} (hF : f_X6_holds p0 p1 μ = r) : Ct g 0 mi_X6_holds [.int p0, .int p1] μ (QI r μ) := by
  refine ct_of (k := 0) (by decide +kernel) rfl hg.1 rfl ?_
  show WA g 0 mi_X6_holds 0 [some (.int p0), some (.int p1)] [] μ (QI r μ)
  unfold f_X6_holds at hF
  refine a_iload_0 dX6_holds_0 ?_
  refine a_iload_1 dX6_holds_1 ?_
  refine a_shr dX6_holds_2 ?_
  refine a_iconst (v := 1) dX6_holds_3 (by decide) ?_
  refine a_iand dX6_holds_4 ?_
  refine a_if_eq (tgt := 12) dX6_holds_5 (by decide) (fun h5 => ?_) (fun h5 => ?_)
  · rw [if_pos h5] at hF
    refine a_iconst (v := 0) dX6_holds_12 (by decide) ?_
    subst hF
    exact a_zret dX6_holds_13 rfl (Or.inl rfl) ⟨rfl, rfl⟩
  · rw [if_neg h5] at hF
    refine a_iconst (v := 1) dX6_holds_8 (by decide) ?_
    refine a_goto (tgt := 13) dX6_holds_9 (by decide) ?_
    subst hF
    exact a_zret dX6_holds_13 rfl (Or.inr rfl) ⟨rfl, rfl⟩
set_option maxHeartbeats 4000000 in
set_option maxRecDepth 100000 in
theorem ct_X5_hears {g : GT} (hg : GC g) (w : Nat) (p1 : Int32) (p2 : Int32) (p3 : Int32) (μ : MM) (hw : isW w) {r : MM} (hF : f_X5_hears w p1 p2 p3 μ = r) : Ct g 1 mi_X5_hears [.ref w, .int p1, .int p2, .int p3] μ (QV r) := by
  refine ct_of (k := 1) (by decide +kernel) rfl hg.1 rfl ?_
  show WA g 1 mi_X5_hears 0 [some (.ref w), some (.int p1), some (.int p2), some (.int p3), none] [] μ (QV r)
  unfold f_X5_hears at hF
  refine a_aload_0 dX5_hears_0 ?_
  refine a_getR (q := (w + 4)) dX5_hears_1 fa_X5_21 (isW_lt hg hw) (isW_sh hw) rfl ?_
  refine a_iload_1 dX5_hears_4 ?_
  refine a_iload_2 dX5_hears_5 ?_
  obtain ⟨x1, ex1, hF⟩ := bd_e hF
  refine a_vN3 dX5_hears_6 cn_X5_135 (ct_X6_put hg (w + 4) p1 p2 μ (isW_i4 hg hw) ex1.symm) (by decide) (Nat.le_of_ble_eq_true rfl) ?_
  refine a_aload_0 dX5_hears_9 ?_
  refine a_getR (q := (w + 5)) dX5_hears_10 fa_X5_24 (isW_lt hg hw) (isW_sh hw) rfl ?_
  refine a_iload_1 dX5_hears_13 ?_
  refine a_ldc dX5_hears_14 k_X5_114 ?_
  refine a_aload_0 dX5_hears_16 ?_
  refine a_getR (q := (w + 5)) dX5_hears_17 fa_X5_24 (isW_lt hg hw) (isW_sh hw) rfl ?_
  refine a_iload_1 dX5_hears_20 ?_
  obtain ⟨x2, ex2, hF⟩ := bd_e hF
  refine a_iN2 dX5_hears_21 cn_X5_69 (ct_X6_cell hg (w + 5) p1 x1 (isW_i5 hg hw) ex2.symm) (by decide) (Nat.le_of_ble_eq_true rfl) ?_
  refine a_iconst (v := 1) dX5_hears_24 (by decide) ?_
  refine a_iadd dX5_hears_25 ?_
  obtain ⟨x3, ex3, hF⟩ := bd_e hF
  refine a_mmin ex3 dX5_hears_26 mmin_X5_120 (by decide) (Nat.le_of_ble_eq_true rfl) ?_
  obtain ⟨x4, ex4, hF⟩ := bd_e hF
  refine a_vN3 dX5_hears_29 cn_X5_135 (ct_X6_put hg (w + 5) p1 x3 x1 (isW_i5 hg hw) ex4.symm) (by decide) (Nat.le_of_ble_eq_true rfl) ?_
  refine a_iconst (v := 4) dX5_hears_32 (by decide) ?_
  refine a_aload_0 dX5_hears_33 ?_
  refine a_getI dX5_hears_34 fa_X5_53 (isW_lt hg hw) (isW_sh hw) rfl ?_
  refine a_imul dX5_hears_37 ?_
  obtain ⟨v5, ev5, hF⟩ := bd_e hF
  refine a_nm ev5 ?_
  refine a_istore_4 dX5_hears_38 (by decide) rfl ?_
  refine a_aload_0 dX5_hears_40 ?_
  refine a_getR (q := (w + 2)) dX5_hears_41 fa_X5_15 (isW_lt hg hw) (isW_sh hw) rfl ?_
  refine a_iload_4 dX5_hears_44 ?_
  refine a_iconst (v := 0) dX5_hears_46 (by decide) ?_
  refine a_iadd dX5_hears_47 ?_
  refine a_iload_1 dX5_hears_48 ?_
  obtain ⟨x6, ex6, hF⟩ := bd_e hF
  refine a_vN3 dX5_hears_49 cn_X5_135 (ct_X6_put hg (w + 2) (v5 + 0) p1 x4 (isW_i2 hg hw) ex6.symm) (by decide) (Nat.le_of_ble_eq_true rfl) ?_
  refine a_aload_0 dX5_hears_52 ?_
  refine a_getR (q := (w + 2)) dX5_hears_53 fa_X5_15 (isW_lt hg hw) (isW_sh hw) rfl ?_
  refine a_iload_4 dX5_hears_56 ?_
  refine a_iconst (v := 1) dX5_hears_58 (by decide) ?_
  refine a_iadd dX5_hears_59 ?_
  refine a_iload_2 dX5_hears_60 ?_
  obtain ⟨x7, ex7, hF⟩ := bd_e hF
  refine a_vN3 dX5_hears_61 cn_X5_135 (ct_X6_put hg (w + 2) (v5 + 1) p2 x6 (isW_i2 hg hw) ex7.symm) (by decide) (Nat.le_of_ble_eq_true rfl) ?_
  refine a_aload_0 dX5_hears_64 ?_
  refine a_getR (q := (w + 2)) dX5_hears_65 fa_X5_15 (isW_lt hg hw) (isW_sh hw) rfl ?_
  refine a_iload_4 dX5_hears_68 ?_
  refine a_iconst (v := 2) dX5_hears_70 (by decide) ?_
  refine a_iadd dX5_hears_71 ?_
  refine a_aload_0 dX5_hears_72 ?_
  refine a_getI dX5_hears_73 fa_X5_27 (isW_lt hg hw) (isW_sh hw) rfl ?_
  obtain ⟨x8, ex8, hF⟩ := bd_e hF
  refine a_vN3 dX5_hears_76 cn_X5_135 (ct_X6_put hg (w + 2) (v5 + 2) (x7 w 0) x7 (isW_i2 hg hw) ex8.symm) (by decide) (Nat.le_of_ble_eq_true rfl) ?_
  refine a_aload_0 dX5_hears_79 ?_
  refine a_getR (q := (w + 2)) dX5_hears_80 fa_X5_15 (isW_lt hg hw) (isW_sh hw) rfl ?_
  refine a_iload_4 dX5_hears_83 ?_
  refine a_iconst (v := 3) dX5_hears_85 (by decide) ?_
  refine a_iadd dX5_hears_86 ?_
  refine a_iload_3 dX5_hears_87 ?_
  obtain ⟨x9, ex9, hF⟩ := bd_e hF
  refine a_vN3 dX5_hears_88 cn_X5_135 (ct_X6_put hg (w + 2) (v5 + 3) p3 x8 (isW_i2 hg hw) ex9.symm) (by decide) (Nat.le_of_ble_eq_true rfl) ?_
  refine a_aload_0 dX5_hears_91 ?_
  refine a_aload_0 dX5_hears_92 ?_
  refine a_getI dX5_hears_93 fa_X5_53 (isW_lt hg hw) (isW_sh hw) rfl ?_
  refine a_iconst (v := 1) dX5_hears_96 (by decide) ?_
  refine a_iadd dX5_hears_97 ?_
  refine a_bipush (v := 20) dX5_hears_98 (by decide) ?_
  refine a_rem dX5_hears_100 (by decide) ?_
  obtain ⟨μ10, eμ10, hF⟩ := bd_e hF
  refine a_pI eμ10 dX5_hears_101 fp_X5_53 (isW_lt hg hw) (isW_sh hw) rfl ?_
  refine a_aload_0 dX5_hears_104 ?_
  refine a_bipush (v := 20) dX5_hears_105 (by decide) ?_
  refine a_aload_0 dX5_hears_107 ?_
  refine a_getI dX5_hears_108 fa_X5_50 (isW_lt hg hw) (isW_sh hw) rfl ?_
  refine a_iconst (v := 1) dX5_hears_111 (by decide) ?_
  refine a_iadd dX5_hears_112 ?_
  obtain ⟨x11, ex11, hF⟩ := bd_e hF
  refine a_mmin ex11 dX5_hears_113 mmin_X5_120 (by decide) (Nat.le_of_ble_eq_true rfl) ?_
  obtain ⟨μ12, eμ12, hF⟩ := bd_e hF
  refine a_pI eμ12 dX5_hears_116 fp_X5_50 (isW_lt hg hw) (isW_sh hw) rfl ?_
  subst hF
  exact a_vret dX5_hears_119 rfl ⟨rfl, rfl⟩
set_option maxHeartbeats 4000000 in
set_option maxRecDepth 100000 in
theorem ct_X5_goesOnFrom {g : GT} (hg : GC g) (w : Nat) (p1 : Int32) (μ : MM) (hw : isW w) {r : Int32} (hF : f_X5_goesOnFrom w p1 μ = r) : Ct g 1 mi_X5_goesOnFrom [.ref w, .int p1] μ (QI r μ) := by
  refine ct_of (k := 0) (by decide +kernel) rfl hg.1 rfl ?_
  show WA g 1 mi_X5_goesOnFrom 0 [some (.ref w), some (.int p1)] [] μ (QI r μ)
  unfold f_X5_goesOnFrom at hF
  refine a_aload_0 dX5_goesOnFrom_0 ?_
  refine a_getI dX5_goesOnFrom_1 fa_X5_41 (isW_lt hg hw) (isW_sh hw) rfl ?_
  refine a_iload_1 dX5_goesOnFrom_4 ?_
  obtain ⟨x1, ex1, hF⟩ := bd_e hF
  refine a_iN2 dX5_goesOnFrom_5 cn_X5_103 (ct_X6_holds hg (μ w 3) p1 μ ex1.symm) (by decide) (Nat.le_of_ble_eq_true rfl) ?_
  refine a_if_eq (tgt := 15) dX5_goesOnFrom_8 (by decide) (fun h8 => ?_) (fun h8 => ?_)
  · rw [if_pos h8] at hF
    refine a_iload_1 dX5_goesOnFrom_15 ?_
    subst hF
    exact a_iret dX5_goesOnFrom_16 rfl ⟨rfl, rfl⟩
  · rw [if_neg h8] at hF
    refine a_iconst (v := 0) dX5_goesOnFrom_11 (by decide) ?_
    refine a_goto (tgt := 16) dX5_goesOnFrom_12 (by decide) ?_
    subst hF
    exact a_iret dX5_goesOnFrom_16 rfl ⟨rfl, rfl⟩
set_option maxHeartbeats 4000000 in
set_option maxRecDepth 100000 in
theorem ct_J6_bitCount_0f7a4 {g : GT} (hg : INJ g) (p0 : Int32) (μ : MM)  {r : Int32} (hF : f_J6_bitCount_0f7a4 p0 μ = r) : Ct g 0 mi_J6_bitCount_0f7a4 [.int p0] μ (QI r μ) := by
  refine ct_of (k := 0) (by decide +kernel) rfl hg rfl ?_
  show WA g 0 mi_J6_bitCount_0f7a4 0 [some (.int p0)] [] μ (QI r μ)
  unfold f_J6_bitCount_0f7a4 at hF
  refine a_iload_0 dJ6_bitCount_0f7a4_0 ?_
  refine a_iload_0 dJ6_bitCount_0f7a4_1 ?_
  refine a_iconst (v := 1) dJ6_bitCount_0f7a4_2 (by decide) ?_
  refine a_ushr dJ6_bitCount_0f7a4_3 ?_
  refine a_ldcw dJ6_bitCount_0f7a4_4 k_J6_265 ?_
  refine a_iand dJ6_bitCount_0f7a4_7 ?_
  refine a_isub dJ6_bitCount_0f7a4_8 ?_
  obtain ⟨v1, ev1, hF⟩ := bd_e hF
  refine a_nm ev1 ?_
  refine a_istore_0 dJ6_bitCount_0f7a4_9 (by decide) ?_
  refine a_iload_0 dJ6_bitCount_0f7a4_10 ?_
  refine a_ldcw dJ6_bitCount_0f7a4_11 k_J6_266 ?_
  refine a_iand dJ6_bitCount_0f7a4_14 ?_
  refine a_iload_0 dJ6_bitCount_0f7a4_15 ?_
  refine a_iconst (v := 2) dJ6_bitCount_0f7a4_16 (by decide) ?_
  refine a_ushr dJ6_bitCount_0f7a4_17 ?_
  refine a_ldcw dJ6_bitCount_0f7a4_18 k_J6_266 ?_
  refine a_iand dJ6_bitCount_0f7a4_21 ?_
  refine a_iadd dJ6_bitCount_0f7a4_22 ?_
  obtain ⟨v2, ev2, hF⟩ := bd_e hF
  refine a_nm ev2 ?_
  refine a_istore_0 dJ6_bitCount_0f7a4_23 (by decide) ?_
  refine a_iload_0 dJ6_bitCount_0f7a4_24 ?_
  refine a_iload_0 dJ6_bitCount_0f7a4_25 ?_
  refine a_iconst (v := 4) dJ6_bitCount_0f7a4_26 (by decide) ?_
  refine a_ushr dJ6_bitCount_0f7a4_27 ?_
  refine a_iadd dJ6_bitCount_0f7a4_28 ?_
  refine a_ldcw dJ6_bitCount_0f7a4_29 k_J6_267 ?_
  refine a_iand dJ6_bitCount_0f7a4_32 ?_
  obtain ⟨v3, ev3, hF⟩ := bd_e hF
  refine a_nm ev3 ?_
  refine a_istore_0 dJ6_bitCount_0f7a4_33 (by decide) ?_
  refine a_iload_0 dJ6_bitCount_0f7a4_34 ?_
  refine a_iload_0 dJ6_bitCount_0f7a4_35 ?_
  refine a_bipush (v := 8) dJ6_bitCount_0f7a4_36 (by decide) ?_
  refine a_ushr dJ6_bitCount_0f7a4_38 ?_
  refine a_iadd dJ6_bitCount_0f7a4_39 ?_
  obtain ⟨v4, ev4, hF⟩ := bd_e hF
  refine a_nm ev4 ?_
  refine a_istore_0 dJ6_bitCount_0f7a4_40 (by decide) ?_
  refine a_iload_0 dJ6_bitCount_0f7a4_41 ?_
  refine a_iload_0 dJ6_bitCount_0f7a4_42 ?_
  refine a_bipush (v := 16) dJ6_bitCount_0f7a4_43 (by decide) ?_
  refine a_ushr dJ6_bitCount_0f7a4_45 ?_
  refine a_iadd dJ6_bitCount_0f7a4_46 ?_
  obtain ⟨v5, ev5, hF⟩ := bd_e hF
  refine a_nm ev5 ?_
  refine a_istore_0 dJ6_bitCount_0f7a4_47 (by decide) ?_
  refine a_iload_0 dJ6_bitCount_0f7a4_48 ?_
  refine a_bipush (v := 63) dJ6_bitCount_0f7a4_49 (by decide) ?_
  refine a_iand dJ6_bitCount_0f7a4_51 ?_
  subst hF
  exact a_iret dJ6_bitCount_0f7a4_52 rfl ⟨rfl, rfl⟩
set_option maxHeartbeats 4000000 in
set_option maxRecDepth 100000 in
theorem ct_X5_carryAll_L10 {g : GT} (hg : GC g) (w : Nat) (p1 : Nat) (hw : isW w) (hp1 : isD p1) {Q : Option Value → MM → Prop} : ∀ (n : Nat) (l2 : Int32) (l3 : Int32) (l4 : Int32) (l5 : Int32) (μ : MM) (z : Int32 × Int32 × Int32 × Int32 × MM), f_X5_carryAll_L10 w p1 n l2 l3 l4 l5 μ = some z → (WA g 2 mi_X5_carryAll 178 [some (.ref w), some (.ref p1), some (.int z.1), some (.int z.2.1), some (.int z.2.2.1), some (.int z.2.2.2.1), none, none, none, none, none] [] z.2.2.2.2 Q) → WA g 2 mi_X5_carryAll 10 [some (.ref w), some (.ref p1), some (.int l2), some (.int l3), some (.int l4), some (.int l5), none, none, none, none, none] [] μ Q := by
  intro n
  induction n with
  | zero => intro l2 l3 l4 l5 μ z hF; exact absurd hF (by simp [f_X5_carryAll_L10])
  | succ n ih =>
    intro l2 l3 l4 l5 μ z hF K
    unfold f_X5_carryAll_L10 at hF
    refine a_iload_5 dX5_carryAll_10 ?_
    refine a_aload_0 dX5_carryAll_12 ?_
    refine a_getI dX5_carryAll_13 fa_X5_47 (isW_lt hg hw) (isW_sh hw) rfl ?_
    refine a_icmp_ge (tgt := 178) dX5_carryAll_16 (by decide) (fun h16 => ?_) (fun h16 => ?_)
    · rw [if_pos h16] at hF
      obtain rfl := Option.some.inj hF
      exact K
    · rw [if_neg h16] at hF
      refine a_aload_0 dX5_carryAll_19 ?_
      refine a_iload_5 dX5_carryAll_20 ?_
      refine a_iconst (v := 1) dX5_carryAll_22 (by decide) ?_
      obtain ⟨x1, ex1, hF⟩ := bd_e hF
      refine a_iV2 dX5_carryAll_23 cv_X5_92 (ct_X5_ofTalk hg w l5 1 μ hw ex1.symm) (by decide) (isW_lt hg hw) (isW_sh hw) (Nat.le_of_ble_eq_true rfl) ?_
      refine a_istore_6 dX5_carryAll_26 (by decide) rfl ?_
      refine a_aload_0 dX5_carryAll_28 ?_
      refine a_iload_5 dX5_carryAll_29 ?_
      refine a_iconst (v := 3) dX5_carryAll_31 (by decide) ?_
      obtain ⟨x2, ex2, hF⟩ := bd_e hF
      refine a_iV2 dX5_carryAll_32 cv_X5_92 (ct_X5_ofTalk hg w l5 3 μ hw ex2.symm) (by decide) (isW_lt hg hw) (isW_sh hw) (Nat.le_of_ble_eq_true rfl) ?_
      refine a_istore_7 dX5_carryAll_35 (by decide) rfl ?_
      refine a_aload_0 dX5_carryAll_37 ?_
      refine a_iload_5 dX5_carryAll_38 ?_
      refine a_iconst (v := 0) dX5_carryAll_40 (by decide) ?_
      obtain ⟨x3, ex3, hF⟩ := bd_e hF
      refine a_iV2 dX5_carryAll_41 cv_X5_92 (ct_X5_ofTalk hg w l5 0 μ hw ex3.symm) (by decide) (isW_lt hg hw) (isW_sh hw) (Nat.le_of_ble_eq_true rfl) ?_
      refine a_istore_8 dX5_carryAll_44 (by decide) rfl ?_
      refine a_aload_0 dX5_carryAll_46 ?_
      refine a_iload_5 dX5_carryAll_47 ?_
      refine a_iconst (v := 2) dX5_carryAll_49 (by decide) ?_
      obtain ⟨x4, ex4, hF⟩ := bd_e hF
      refine a_iV2 dX5_carryAll_50 cv_X5_92 (ct_X5_ofTalk hg w l5 2 μ hw ex4.symm) (by decide) (isW_lt hg hw) (isW_sh hw) (Nat.le_of_ble_eq_true rfl) ?_
      refine a_aload_0 dX5_carryAll_53 ?_
      refine a_getI dX5_carryAll_54 fa_X5_36 (isW_lt hg hw) (isW_sh hw) rfl ?_
      refine a_isub dX5_carryAll_57 ?_
      obtain ⟨v5, ev5, hF⟩ := bd_e hF
      refine a_nm ev5 ?_
      refine a_istore_9 dX5_carryAll_58 (by decide) rfl ?_
      refine a_iload_9 dX5_carryAll_60 ?_
      obtain ⟨j6, ej62, hF⟩ := bd_e hF
      replace ej62 := ej62.symm
      have KJ62 : WA g 2 mi_X5_carryAll 150 [some (.ref w), some (.ref p1), some (.int j6.1), some (.int j6.2.1), some (.int l4), some (.int l5), some (.int j6.2.2.1), some (.int x2), some (.int j6.2.2.2.1), some (.int j6.2.2.2.2.1), none] [] j6.2.2.2.2.2 Q := by
        refine a_iload_6 dX5_carryAll_150 ?_
        refine a_if_eq (tgt := 172) dX5_carryAll_152 (by decide) (fun h152 => ?_) (fun h152 => ?_)
        · rw [if_pos h152] at hF
          refine a_iinc_5 (c0 := 1) dX5_carryAll_172 (by decide) (by decide) rfl ?_
          refine a_goto (tgt := 10) dX5_carryAll_175 (by decide) ?_
          exact a_wk2 (ih j6.1 j6.2.1 l4 (l5 + 1) j6.2.2.2.2.2 _ hF K) (by simp [wk])
        · rw [if_neg h152] at hF
          refine a_aload_0 dX5_carryAll_155 ?_
          refine a_iload_4 dX5_carryAll_156 ?_
          refine a_iload_8 dX5_carryAll_158 ?_
          refine a_iload_6 dX5_carryAll_160 ?_
          refine a_iload_9 dX5_carryAll_162 ?_
          refine a_iload_7 dX5_carryAll_164 ?_
          obtain ⟨x17, ex17, hF⟩ := bd_e hF
          refine a_vV5 dX5_carryAll_166 cv_X5_77 (ct_X5_placeTalk hg w l4 j6.2.2.2.1 j6.2.2.1 j6.2.2.2.2.1 x2 j6.2.2.2.2.2 hw ex17.symm) (by decide) (isW_lt hg hw) (isW_sh hw) (Nat.le_of_ble_eq_true rfl) ?_
          refine a_iinc_4 (c0 := 1) dX5_carryAll_169 (by decide) (by decide) rfl ?_
          refine a_iinc_5 (c0 := 1) dX5_carryAll_172 (by decide) (by decide) rfl ?_
          refine a_goto (tgt := 10) dX5_carryAll_175 (by decide) ?_
          exact a_wk2 (ih j6.1 j6.2.1 (l4 + 1) (l5 + 1) x17 _ hF K) (by simp [wk])
      refine a_if_gt (tgt := 150) dX5_carryAll_62 (by decide) (fun h62 => ?_) (fun h62 => ?_)
      · rw [if_pos h62] at ej62
        subst ej62
        exact KJ62
      · rw [if_neg h62] at ej62
        refine a_aload_1 dX5_carryAll_65 ?_
        refine a_getR (q := (p1 + 1)) dX5_carryAll_66 fa_X5_96 (isD_lt hg hp1) (isD_sh hp1) rfl ?_
        refine a_iload_6 dX5_carryAll_69 ?_
        obtain ⟨x7, ex7, ej62⟩ := bd_e ej62
        refine a_iN2 dX5_carryAll_71 cn_X5_69 (ct_X6_cell hg (p1 + 1) x1 μ (isD_i1 hg hp1) ex7.symm) (by decide) (Nat.le_of_ble_eq_true rfl) ?_
        refine a_istore_10 dX5_carryAll_74 (by decide) rfl ?_
        refine a_aload_0 dX5_carryAll_76 ?_
        refine a_aload_1 dX5_carryAll_77 ?_
        refine a_iload_6 dX5_carryAll_78 ?_
        refine a_iload_8 dX5_carryAll_80 ?_
        obtain ⟨x8, ex8, ej62⟩ := bd_e ej62
        refine a_iV3 dX5_carryAll_82 cv_X5_99 (ct_X5_garbled hg w p1 x1 x3 μ hw hp1 ex8.symm) (by decide) (isW_lt hg hw) (isW_sh hw) (Nat.le_of_ble_eq_true rfl) ?_
        refine a_istore_8 dX5_carryAll_85 (by decide) rfl ?_
        refine a_iload_2 dX5_carryAll_87 ?_
        refine a_iload_10 dX5_carryAll_88 ?_
        obtain ⟨x9, ex9, ej62⟩ := bd_e ej62
        refine a_iN2 dX5_carryAll_90 cn_X5_103 (ct_X6_holds hg l2 x7 μ ex9.symm) (by decide) (Nat.le_of_ble_eq_true rfl) ?_
        obtain ⟨j10, ej93, ej62⟩ := bd_e ej62
        replace ej93 := ej93.symm
        have KJ93 : WA g 2 mi_X5_carryAll 117 [some (.ref w), some (.ref p1), some (.int l2), some (.int j10), some (.int l4), some (.int l5), some (.int x1), some (.int x2), some (.int x8), some (.int v5), some (.int x7)] [] μ Q := by
          refine a_iload_2 dX5_carryAll_117 ?_
          refine a_iconst (v := 1) dX5_carryAll_118 (by decide) ?_
          refine a_iload_10 dX5_carryAll_119 ?_
          refine a_shl dX5_carryAll_121 ?_
          refine a_ior dX5_carryAll_122 ?_
          obtain ⟨v13, ev13, ej62⟩ := bd_e ej62
          refine a_nm ev13 ?_
          refine a_istore_2 dX5_carryAll_123 (by decide) rfl ?_
          refine a_aload_0 dX5_carryAll_124 ?_
          refine a_iload_10 dX5_carryAll_125 ?_
          refine a_iload_8 dX5_carryAll_127 ?_
          refine a_iload_7 dX5_carryAll_129 ?_
          obtain ⟨x14, ex14, ej62⟩ := bd_e ej62
          refine a_vV3 dX5_carryAll_131 cv_X5_107 (ct_X5_hears hg w x7 x8 x2 μ hw ex14.symm) (by decide) (isW_lt hg hw) (isW_sh hw) (Nat.le_of_ble_eq_true rfl) ?_
          refine a_aload_0 dX5_carryAll_134 ?_
          refine a_iload_10 dX5_carryAll_135 ?_
          obtain ⟨x15, ex15, ej62⟩ := bd_e ej62
          refine a_iV1 dX5_carryAll_137 cv_X5_111 (ct_X5_goesOnFrom hg w x7 x14 hw ex15.symm) (by decide) (isW_lt hg hw) (isW_sh hw) (Nat.le_of_ble_eq_true rfl) ?_
          refine a_istore_6 dX5_carryAll_140 (by decide) rfl ?_
          refine a_aload_1 dX5_carryAll_142 ?_
          refine a_iload_6 dX5_carryAll_143 ?_
          obtain ⟨x16, ex16, ej62⟩ := bd_e ej62
          refine a_iV1 dX5_carryAll_145 cv_X5_73 (ct_X1_toGoFrom hg p1 x15 x14 hp1 ex16.symm) (by decide) (isD_lt hg hp1) (isD_sh hp1) (Nat.le_of_ble_eq_true rfl) ?_
          refine a_istore_9 dX5_carryAll_148 (by decide) rfl ?_
          subst ej62
          exact a_wk2 KJ62 (by simp [wk])
        refine a_if_eq (tgt := 117) dX5_carryAll_93 (by decide) (fun h93 => ?_) (fun h93 => ?_)
        · rw [if_pos h93] at ej93
          subst ej93
          exact KJ93
        · rw [if_neg h93] at ej93
          refine a_aload_0 dX5_carryAll_96 ?_
          refine a_getR (q := (w + 4)) dX5_carryAll_97 fa_X5_21 (isW_lt hg hw) (isW_sh hw) rfl ?_
          refine a_iload_10 dX5_carryAll_100 ?_
          obtain ⟨x11, ex11, ej93⟩ := bd_e ej93
          refine a_iN2 dX5_carryAll_102 cn_X5_69 (ct_X6_cell hg (w + 4) x7 μ (isW_i4 hg hw) ex11.symm) (by decide) (Nat.le_of_ble_eq_true rfl) ?_
          refine a_iload_8 dX5_carryAll_105 ?_
          refine a_icmp_eq (tgt := 117) dX5_carryAll_107 (by decide) (fun h107 => ?_) (fun h107 => ?_)
          · rw [if_pos h107] at ej93
            subst ej93
            exact KJ93
          · rw [if_neg h107] at ej93
            refine a_iload_3 dX5_carryAll_110 ?_
            refine a_iconst (v := 1) dX5_carryAll_111 (by decide) ?_
            refine a_iload_10 dX5_carryAll_112 ?_
            refine a_shl dX5_carryAll_114 ?_
            refine a_ior dX5_carryAll_115 ?_
            obtain ⟨v12, ev12, ej93⟩ := bd_e ej93
            refine a_nm ev12 ?_
            refine a_istore_3 dX5_carryAll_116 (by decide) rfl ?_
            subst ej93
            exact KJ93
set_option maxHeartbeats 4000000 in
set_option maxRecDepth 100000 in
theorem ct_X5_carryAll {g : GT} (hg : GC g) (w : Nat) (p1 : Nat) (μ : MM) (hw : isW w) (hp1 : isD p1) {r : MM} (hF : f_X5_carryAll w p1 μ = some r) : Ct g 2 mi_X5_carryAll [.ref w, .ref p1] μ (QV r) := by
  refine ct_of (k := 9) (by decide +kernel) rfl hg.1 rfl ?_
  show WA g 2 mi_X5_carryAll 0 [some (.ref w), some (.ref p1), none, none, none, none, none, none, none, none, none] [] μ (QV r)
  unfold f_X5_carryAll at hF
  refine a_iconst (v := 0) dX5_carryAll_0 (by decide) ?_
  refine a_istore_2 dX5_carryAll_1 (by decide) rfl ?_
  refine a_iconst (v := 0) dX5_carryAll_2 (by decide) ?_
  refine a_istore_3 dX5_carryAll_3 (by decide) rfl ?_
  refine a_iconst (v := 0) dX5_carryAll_4 (by decide) ?_
  refine a_istore_4 dX5_carryAll_5 (by decide) rfl ?_
  refine a_iconst (v := 0) dX5_carryAll_7 (by decide) ?_
  refine a_istore_5 dX5_carryAll_8 (by decide) rfl ?_
  obtain ⟨z18, ez18, hF⟩ := ob_e hF
  refine ct_X5_carryAll_L10 hg w p1 hw hp1 FU 0 0 0 0 μ z18 ez18 ?_
  refine a_aload_0 dX5_carryAll_178 ?_
  refine a_iload_4 dX5_carryAll_179 ?_
  obtain ⟨μ19, eμ19, hF⟩ := bd_e hF
  refine a_pI eμ19 dX5_carryAll_181 fp_X5_47 (isW_lt hg hw) (isW_sh hw) rfl ?_
  refine a_aload_0 dX5_carryAll_184 ?_
  refine a_ldc dX5_carryAll_185 k_X5_114 ?_
  refine a_aload_0 dX5_carryAll_187 ?_
  refine a_getI dX5_carryAll_188 fa_X5_44 (isW_lt hg hw) (isW_sh hw) rfl ?_
  refine a_iload_3 dX5_carryAll_191 ?_
  obtain ⟨x20, ex20, hF⟩ := bd_e hF
  refine a_iS1 dX5_carryAll_192 cs_X5_115 (ct_J6_bitCount_0f7a4 hg.1 z18.2.1 μ19 ex20.symm) (by decide) (Nat.le_of_ble_eq_true rfl) ?_
  refine a_iadd dX5_carryAll_195 ?_
  obtain ⟨x21, ex21, hF⟩ := bd_e hF
  refine a_mmin ex21 dX5_carryAll_196 mmin_X5_120 (by decide) (Nat.le_of_ble_eq_true rfl) ?_
  obtain ⟨μ22, eμ22, hF⟩ := bd_e hF
  refine a_pI eμ22 dX5_carryAll_199 fp_X5_44 (isW_lt hg hw) (isW_sh hw) rfl ?_
  obtain rfl := Option.some.inj hF
  exact a_vret dX5_carryAll_202 rfl ⟨rfl, rfl⟩
