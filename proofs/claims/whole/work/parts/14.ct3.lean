set_option maxHeartbeats 4000000 in
set_option maxRecDepth 100000 in
theorem ct_X6_where {g : GT} (hg : GC g) (p1 : Int32) (p2 : Int32) (p3 : Int32) (μ : MM)  {r : Int32 × MM} (hF : f_X6_where p1 p2 p3 μ = some r) : Ct g 5 mi_X6_where [.ref 0, .int p1, .int p2, .int p3] μ (QI r.1 r.2) := by
  refine ct_of (k := 0) (by decide +kernel) rfl hg.1 rfl ?_
  show WA g 5 mi_X6_where 0 [some (.ref 0), some (.int p1), some (.int p2), some (.int p3)] [] μ (QI r.1 r.2)
  unfold f_X6_where at hF
  refine a_aload_0 dX6_where_0 ?_
  refine a_iload_1 dX6_where_1 ?_
  obtain ⟨x1, ex1, hF⟩ := bd_e hF
  refine a_iV1 dX6_where_2 cv_X6_170 (ct_X6_isTalk hg p1 μ ex1.symm) (by decide) (hg.d (by decide)) rfl (Nat.le_of_ble_eq_true rfl) ?_
  refine a_if_ne (tgt := 11) dX6_where_5 (by decide) (fun h5 => ?_) (fun h5 => ?_)
  · rw [if_neg h5] at hF
    refine a_iload_2 dX6_where_11 ?_
    refine a_if_lt (tgt := 30) dX6_where_12 (by decide) (fun h12 => ?_) (fun h12 => ?_)
    · rw [if_pos h12] at hF
      refine a_ldc dX6_where_30 k_X6_65 ?_
      obtain rfl := Option.some.inj hF
      exact a_iret dX6_where_32 rfl ⟨rfl, rfl⟩
    · rw [if_neg h12] at hF
      refine a_iload_2 dX6_where_15 ?_
      refine a_bipush (v := 100) dX6_where_16 (by decide) ?_
      refine a_icmp_gt (tgt := 30) dX6_where_18 (by decide) (fun h18 => ?_) (fun h18 => ?_)
      · rw [if_pos h18] at hF
        refine a_ldc dX6_where_30 k_X6_65 ?_
        obtain rfl := Option.some.inj hF
        exact a_iret dX6_where_32 rfl ⟨rfl, rfl⟩
      · rw [if_neg h18] at hF
        refine a_iload_3 dX6_where_21 ?_
        refine a_if_lt (tgt := 30) dX6_where_22 (by decide) (fun h22 => ?_) (fun h22 => ?_)
        · rw [if_pos h22] at hF
          refine a_ldc dX6_where_30 k_X6_65 ?_
          obtain rfl := Option.some.inj hF
          exact a_iret dX6_where_32 rfl ⟨rfl, rfl⟩
        · rw [if_neg h22] at hF
          refine a_iload_3 dX6_where_25 ?_
          refine a_iconst (v := 1) dX6_where_26 (by decide) ?_
          refine a_icmp_le (tgt := 33) dX6_where_27 (by decide) (fun h27 => ?_) (fun h27 => ?_)
          · rw [if_pos h27] at hF
            refine a_aload_0 dX6_where_33 ?_
            refine a_getR (q := 30) dX6_where_34 fa_X6_33 (hg.d (by decide)) rfl rfl ?_
            refine a_aload_0 dX6_where_37 ?_
            refine a_getR (q := 24) dX6_where_38 fa_X6_29 (hg.d (by decide)) rfl rfl ?_
            obtain ⟨x2, ex2, hF⟩ := ob_e hF
            refine a_vV1 dX6_where_41 cv_X6_244 (ct_X5_copyFrom hg 30 24 μ ⟨1, by decide, rfl⟩ ⟨0, by decide, rfl⟩ ex2) (by decide) (hg.d (by decide)) rfl (Nat.le_of_ble_eq_true rfl) ?_
            refine a_aload_0 dX6_where_44 ?_
            refine a_getR (q := 30) dX6_where_45 fa_X6_33 (hg.d (by decide)) rfl rfl ?_
            refine a_iload_1 dX6_where_48 ?_
            obtain ⟨x3, ex3, hF⟩ := bd_e hF
            refine a_vV1 dX6_where_49 cv_X6_246 (ct_X5_leaveOnly hg 30 p1 x2 ⟨1, by decide, rfl⟩ ex3.symm) (by decide) (hg.d (by decide)) rfl (Nat.le_of_ble_eq_true rfl) ?_
            refine a_aload_0 dX6_where_52 ?_
            refine a_getR (q := 30) dX6_where_53 fa_X6_33 (hg.d (by decide)) rfl rfl ?_
            refine a_aload_0 dX6_where_56 ?_
            refine a_getR (q := 3) dX6_where_57 fa_X6_19 (hg.d (by decide)) rfl rfl ?_
            refine a_iload_2 dX6_where_60 ?_
            obtain ⟨x4, ex4, hF⟩ := ob_e hF
            refine a_vV2 dX6_where_61 cv_X6_188 (ct_X5_passHours hg 30 3 p2 x3 ⟨1, by decide, rfl⟩ (Or.inl rfl) ex4) (by decide) (hg.d (by decide)) rfl (Nat.le_of_ble_eq_true rfl) ?_
            refine a_aload_0 dX6_where_64 ?_
            refine a_getR (q := 30) dX6_where_65 fa_X6_33 (hg.d (by decide)) rfl rfl ?_
            refine a_getI dX6_where_68 fa_X6_121 (hg.d (by decide)) rfl rfl ?_
            refine a_if_ne (tgt := 76) dX6_where_71 (by decide) (fun h71 => ?_) (fun h71 => ?_)
            · rw [if_neg h71] at hF
              refine a_aload_0 dX6_where_76 ?_
              refine a_getR (q := 30) dX6_where_77 fa_X6_33 (hg.d (by decide)) rfl rfl ?_
              refine a_iconst (v := 0) dX6_where_80 (by decide) ?_
              refine a_iload_3 dX6_where_81 ?_
              refine a_if_ne (tgt := 89) dX6_where_82 (by decide) (fun h82 => ?_) (fun h82 => ?_)
              · rw [if_neg h82] at hF
                refine a_iconst (v := 0) dX6_where_89 (by decide) ?_
                obtain ⟨x5, ex5, hF⟩ := bd_e hF
                refine a_iV2 dX6_where_90 cv_X6_173 (ct_X5_ofTalk hg 30 0 0 x4 ⟨1, by decide, rfl⟩ ex5.symm) (by decide) (hg.d (by decide)) rfl (Nat.le_of_ble_eq_true rfl) ?_
                obtain rfl := Option.some.inj hF
                exact a_iret dX6_where_93 rfl ⟨rfl, rfl⟩
              · rw [if_pos h82] at hF
                refine a_iconst (v := 1) dX6_where_85 (by decide) ?_
                refine a_goto (tgt := 90) dX6_where_86 (by decide) ?_
                obtain ⟨x6, ex6, hF⟩ := bd_e hF
                refine a_iV2 dX6_where_90 cv_X6_173 (ct_X5_ofTalk hg 30 0 1 x4 ⟨1, by decide, rfl⟩ ex6.symm) (by decide) (hg.d (by decide)) rfl (Nat.le_of_ble_eq_true rfl) ?_
                obtain rfl := Option.some.inj hF
                exact a_iret dX6_where_93 rfl ⟨rfl, rfl⟩
            · rw [if_pos h71] at hF
              refine a_iconst (v := (-1)) dX6_where_74 (by decide) ?_
              obtain rfl := Option.some.inj hF
              exact a_iret dX6_where_75 rfl ⟨rfl, rfl⟩
          · rw [if_neg h27] at hF
            refine a_ldc dX6_where_30 k_X6_65 ?_
            obtain rfl := Option.some.inj hF
            exact a_iret dX6_where_32 rfl ⟨rfl, rfl⟩
  · rw [if_pos h5] at hF
    refine a_ldc dX6_where_8 k_X6_147 ?_
    obtain rfl := Option.some.inj hF
    exact a_iret dX6_where_10 rfl ⟨rfl, rfl⟩
set_option maxHeartbeats 4000000 in
set_option maxRecDepth 100000 in
theorem ct_X6_dry_L30 {g : GT} (hg : GC g) (l1 : Int32) (l2 : Int32) (μ : MM)  {Q : Option Value → MM → Prop} : ∀ (n : Nat) (l3 : Int64) (l5 : Int32) (z : Int64 × Int32), f_X6_dry_L30 l1 l2 μ n l3 l5 = some z → (WA g 0 mi_X6_dry 51 [some (.ref 0), some (.int l1), some (.int l2), some (.long z.1), none, some (.int z.2)] [] μ Q) → WA g 0 mi_X6_dry 30 [some (.ref 0), some (.int l1), some (.int l2), some (.long l3), none, some (.int l5)] [] μ Q := by
  intro n
  induction n with
  | zero => intro l3 l5 z hF; exact absurd hF (by simp [f_X6_dry_L30])
  | succ n ih =>
    intro l3 l5 z hF K
    unfold f_X6_dry_L30 at hF
    refine a_iload_5 dX6_dry_30 ?_
    refine a_iload_1 dX6_dry_32 ?_
    refine a_icmp_ge (tgt := 51) dX6_dry_33 (by decide) (fun h33 => ?_) (fun h33 => ?_)
    · rw [if_pos h33] at hF
      obtain rfl := Option.some.inj hF
      exact K
    · rw [if_neg h33] at hF
      refine a_lload_3 dX6_dry_36 ?_
      refine a_iload_2 dX6_dry_37 ?_
      refine a_i2l dX6_dry_38 ?_
      refine a_lmul dX6_dry_39 ?_
      refine a_ldc2 dX6_dry_40 k_X6_251 ?_
      refine a_ldiv dX6_dry_43 (by decide) ?_
      obtain ⟨v1, ev1, hF⟩ := bd_e hF
      refine a_nmL ev1 ?_
      refine a_lstore_3 dX6_dry_44 (by decide) rfl ?_
      refine a_iinc_5 (c0 := 1) dX6_dry_45 (by decide) (by decide) rfl ?_
      refine a_goto (tgt := 30) dX6_dry_48 (by decide) ?_
      exact ih v1 (l5 + 1) _ hF K
set_option maxHeartbeats 4000000 in
set_option maxRecDepth 100000 in
theorem ct_X6_dry {g : GT} (hg : GC g) (p1 : Int32) (p2 : Int32) (μ : MM)  {r : Int32} (hF : f_X6_dry p1 p2 μ = some r) : Ct g 0 mi_X6_dry [.ref 0, .int p1, .int p2] μ (QI r μ) := by
  refine ct_of (k := 3) (by decide +kernel) rfl hg.1 rfl ?_
  show WA g 0 mi_X6_dry 0 [some (.ref 0), some (.int p1), some (.int p2), none, none, none] [] μ (QI r μ)
  unfold f_X6_dry at hF
  refine a_iload_1 dX6_dry_0 ?_
  refine a_if_lt (tgt := 20) dX6_dry_1 (by decide) (fun h1 => ?_) (fun h1 => ?_)
  · rw [if_pos h1] at hF
    refine a_ldc dX6_dry_20 k_X6_65 ?_
    obtain rfl := Option.some.inj hF
    exact a_iret dX6_dry_22 rfl ⟨rfl, rfl⟩
  · rw [if_neg h1] at hF
    refine a_iload_1 dX6_dry_4 ?_
    refine a_bipush (v := 60) dX6_dry_5 (by decide) ?_
    refine a_icmp_gt (tgt := 20) dX6_dry_7 (by decide) (fun h7 => ?_) (fun h7 => ?_)
    · rw [if_pos h7] at hF
      refine a_ldc dX6_dry_20 k_X6_65 ?_
      obtain rfl := Option.some.inj hF
      exact a_iret dX6_dry_22 rfl ⟨rfl, rfl⟩
    · rw [if_neg h7] at hF
      refine a_iload_2 dX6_dry_10 ?_
      refine a_if_lt (tgt := 20) dX6_dry_11 (by decide) (fun h11 => ?_) (fun h11 => ?_)
      · rw [if_pos h11] at hF
        refine a_ldc dX6_dry_20 k_X6_65 ?_
        obtain rfl := Option.some.inj hF
        exact a_iret dX6_dry_22 rfl ⟨rfl, rfl⟩
      · rw [if_neg h11] at hF
        refine a_iload_2 dX6_dry_14 ?_
        refine a_bipush (v := 100) dX6_dry_15 (by decide) ?_
        refine a_icmp_le (tgt := 23) dX6_dry_17 (by decide) (fun h17 => ?_) (fun h17 => ?_)
        · rw [if_pos h17] at hF
          refine a_ldc2 dX6_dry_23 k_X6_249 ?_
          refine a_lstore_3 dX6_dry_26 (by decide) rfl ?_
          refine a_iconst (v := 0) dX6_dry_27 (by decide) ?_
          refine a_istore_5 dX6_dry_28 (by decide) rfl ?_
          obtain ⟨z2, ez2, hF⟩ := ob_e hF
          refine ct_X6_dry_L30 hg p1 p2 μ  FU 1000000000 0 z2 ez2 ?_
          refine a_lload_3 dX6_dry_51 ?_
          refine a_l2i dX6_dry_52 ?_
          obtain rfl := Option.some.inj hF
          exact a_iret dX6_dry_53 rfl ⟨rfl, rfl⟩
        · rw [if_neg h17] at hF
          refine a_ldc dX6_dry_20 k_X6_65 ?_
          obtain rfl := Option.some.inj hF
          exact a_iret dX6_dry_22 rfl ⟨rfl, rfl⟩
set_option maxHeartbeats 4000000 in
set_option maxRecDepth 100000 in
theorem ct_X6_see {g : GT} (hg : GC g) (p1 : Int32) (p2 : Int32) (μ : MM)  {r : Int32 × MM} (hF : f_X6_see p1 p2 μ = r) : Ct g 2 mi_X6_see [.ref 0, .int p1, .int p2] μ (QI r.1 r.2) := by
  refine ct_of (k := 0) (by decide +kernel) rfl hg.1 rfl ?_
  show WA g 2 mi_X6_see 0 [some (.ref 0), some (.int p1), some (.int p2)] [] μ (QI r.1 r.2)
  unfold f_X6_see at hF
  refine a_aload_0 dX6_see_0 ?_
  refine a_iload_1 dX6_see_1 ?_
  obtain ⟨x1, ex1, hF⟩ := bd_e hF
  refine a_iV1 dX6_see_2 cv_X6_192 (ct_X6_isWord hg p1 μ ex1.symm) (by decide) (hg.d (by decide)) rfl (Nat.le_of_ble_eq_true rfl) ?_
  refine a_if_eq (tgt := 16) dX6_see_5 (by decide) (fun h5 => ?_) (fun h5 => ?_)
  · rw [if_pos h5] at hF
    refine a_ldc dX6_see_16 k_X6_147 ?_
    subst hF
    exact a_iret dX6_see_18 rfl ⟨rfl, rfl⟩
  · rw [if_neg h5] at hF
    refine a_aload_0 dX6_see_8 ?_
    refine a_iload_2 dX6_see_9 ?_
    obtain ⟨x2, ex2, hF⟩ := bd_e hF
    refine a_iV1 dX6_see_10 cv_X6_192 (ct_X6_isWord hg p2 μ ex2.symm) (by decide) (hg.d (by decide)) rfl (Nat.le_of_ble_eq_true rfl) ?_
    refine a_if_ne (tgt := 19) dX6_see_13 (by decide) (fun h13 => ?_) (fun h13 => ?_)
    · rw [if_neg h13] at hF
      refine a_aload_0 dX6_see_19 ?_
      refine a_getR (q := 17) dX6_see_20 fa_X6_54 (hg.d (by decide)) rfl rfl ?_
      refine a_getI dX6_see_23 fa_X6_91 (hg.d (by decide)) rfl rfl ?_
      refine a_bipush (v := 6) dX6_see_26 (by decide) ?_
      refine a_icmp_lt (tgt := 34) dX6_see_28 (by decide) (fun h28 => ?_) (fun h28 => ?_)
      · rw [if_pos h28] at hF
        refine a_aload_0 dX6_see_34 ?_
        refine a_getR (q := 17) dX6_see_35 fa_X6_54 (hg.d (by decide)) rfl rfl ?_
        refine a_iload_1 dX6_see_38 ?_
        refine a_iload_2 dX6_see_39 ?_
        obtain ⟨x3, ex3, hF⟩ := bd_e hF
        refine a_vV2 dX6_see_40 cv_X6_253 (ct_X2_add hg p1 p2 μ ex3.symm) (by decide) (hg.d (by decide)) rfl (Nat.le_of_ble_eq_true rfl) ?_
        refine a_aload_0 dX6_see_43 ?_
        refine a_getR (q := 17) dX6_see_44 fa_X6_54 (hg.d (by decide)) rfl rfl ?_
        refine a_getI dX6_see_47 fa_X6_91 (hg.d (by decide)) rfl rfl ?_
        subst hF
        exact a_iret dX6_see_50 rfl ⟨rfl, rfl⟩
      · rw [if_neg h28] at hF
        refine a_ldc dX6_see_31 k_X6_70 ?_
        subst hF
        exact a_iret dX6_see_33 rfl ⟨rfl, rfl⟩
    · rw [if_pos h13] at hF
      refine a_ldc dX6_see_16 k_X6_147 ?_
      subst hF
      exact a_iret dX6_see_18 rfl ⟨rfl, rfl⟩
set_option maxHeartbeats 4000000 in
set_option maxRecDepth 100000 in
theorem ct_X6_falls {g : GT} (hg : GC g) (p1 : Int32) (μ : MM)  {r : Int32} (hF : f_X6_falls p1 μ = some r) : Ct g 3 mi_X6_falls [.ref 0, .int p1] μ (QI r μ) := by
  refine ct_of (k := 0) (by decide +kernel) rfl hg.1 rfl ?_
  show WA g 3 mi_X6_falls 0 [some (.ref 0), some (.int p1)] [] μ (QI r μ)
  unfold f_X6_falls at hF
  refine a_iload_1 dX6_falls_0 ?_
  refine a_if_lt (tgt := 9) dX6_falls_1 (by decide) (fun h1 => ?_) (fun h1 => ?_)
  · rw [if_pos h1] at hF
    refine a_ldc dX6_falls_9 k_X6_65 ?_
    obtain rfl := Option.some.inj hF
    exact a_iret dX6_falls_11 rfl ⟨rfl, rfl⟩
  · rw [if_neg h1] at hF
    refine a_iload_1 dX6_falls_4 ?_
    refine a_iconst (v := 1) dX6_falls_5 (by decide) ?_
    refine a_icmp_le (tgt := 12) dX6_falls_6 (by decide) (fun h6 => ?_) (fun h6 => ?_)
    · rw [if_pos h6] at hF
      refine a_iload_1 dX6_falls_12 ?_
      refine a_if_ne (tgt := 33) dX6_falls_13 (by decide) (fun h13 => ?_) (fun h13 => ?_)
      · rw [if_neg h13] at hF
        refine a_aload_0 dX6_falls_33 ?_
        refine a_getR (q := 17) dX6_falls_34 fa_X6_54 (hg.d (by decide)) rfl rfl ?_
        refine a_aload_0 dX6_falls_37 ?_
        refine a_getR (q := 3) dX6_falls_38 fa_X6_19 (hg.d (by decide)) rfl rfl ?_
        refine a_getI dX6_falls_41 fa_X6_105 (hg.d (by decide)) rfl rfl ?_
        obtain ⟨x1, ex1, hF⟩ := ob_e hF
        refine a_iV1 dX6_falls_44 cv_X6_260 (ct_X2_first hg (μ 3 0) μ ex1) (by decide) (hg.d (by decide)) rfl (Nat.le_of_ble_eq_true rfl) ?_
        obtain rfl := Option.some.inj hF
        exact a_iret dX6_falls_47 rfl ⟨rfl, rfl⟩
      · rw [if_pos h13] at hF
        refine a_aload_0 dX6_falls_16 ?_
        refine a_getR (q := 17) dX6_falls_17 fa_X6_54 (hg.d (by decide)) rfl rfl ?_
        refine a_aload_0 dX6_falls_20 ?_
        refine a_getR (q := 3) dX6_falls_21 fa_X6_19 (hg.d (by decide)) rfl rfl ?_
        refine a_getI dX6_falls_24 fa_X6_105 (hg.d (by decide)) rfl rfl ?_
        obtain ⟨x2, ex2, hF⟩ := ob_e hF
        refine a_iV1 dX6_falls_27 cv_X6_257 (ct_X2_howMany hg (μ 3 0) μ ex2) (by decide) (hg.d (by decide)) rfl (Nat.le_of_ble_eq_true rfl) ?_
        refine a_goto (tgt := 47) dX6_falls_30 (by decide) ?_
        obtain rfl := Option.some.inj hF
        exact a_iret dX6_falls_47 rfl ⟨rfl, rfl⟩
    · rw [if_neg h6] at hF
      refine a_ldc dX6_falls_9 k_X6_65 ?_
      obtain rfl := Option.some.inj hF
      exact a_iret dX6_falls_11 rfl ⟨rfl, rfl⟩
set_option maxHeartbeats 4000000 in
set_option maxRecDepth 100000 in
theorem ct_X6_tryNext {g : GT} (hg : GC g)  (μ : MM)  {r : Int32 × MM} (hF : f_X6_tryNext  μ = some r) : Ct g 4 mi_X6_tryNext [.ref 0] μ (QI r.1 r.2) := by
  refine ct_of (k := 0) (by decide +kernel) rfl hg.1 rfl ?_
  show WA g 4 mi_X6_tryNext 0 [some (.ref 0)] [] μ (QI r.1 r.2)
  unfold f_X6_tryNext at hF
  refine a_aload_0 dX6_tryNext_0 ?_
  refine a_getR (q := 17) dX6_tryNext_1 fa_X6_54 (hg.d (by decide)) rfl rfl ?_
  refine a_aload_0 dX6_tryNext_4 ?_
  refine a_getR (q := 3) dX6_tryNext_5 fa_X6_19 (hg.d (by decide)) rfl rfl ?_
  refine a_getI dX6_tryNext_8 fa_X6_105 (hg.d (by decide)) rfl rfl ?_
  obtain ⟨x1, ex1, hF⟩ := ob_e hF
  refine a_iV1 dX6_tryNext_11 cv_X6_263 (ct_X2_bestWord hg (μ 3 0) μ ex1) (by decide) (hg.d (by decide)) rfl (Nat.le_of_ble_eq_true rfl) ?_
  obtain rfl := Option.some.inj hF
  exact a_iret dX6_tryNext_14 rfl ⟨rfl, rfl⟩
set_option maxHeartbeats 4000000 in
set_option maxRecDepth 100000 in
theorem ct_X6_write {g : GT} (hg : GC g) (p1 : Int32) (p2 : Int32) (μ : MM)  {r : Int32 × MM} (hF : f_X6_write p1 p2 μ = r) : Ct g 2 mi_X6_write [.ref 0, .int p1, .int p2] μ (QI r.1 r.2) := by
  refine ct_of (k := 0) (by decide +kernel) rfl hg.1 rfl ?_
  show WA g 2 mi_X6_write 0 [some (.ref 0), some (.int p1), some (.int p2)] [] μ (QI r.1 r.2)
  unfold f_X6_write at hF
  refine a_aload_0 dX6_write_0 ?_
  refine a_iload_1 dX6_write_1 ?_
  obtain ⟨x1, ex1, hF⟩ := bd_e hF
  refine a_iV1 dX6_write_2 cv_X6_143 (ct_X6_isFarm hg p1 μ ex1.symm) (by decide) (hg.d (by decide)) rfl (Nat.le_of_ble_eq_true rfl) ?_
  refine a_if_eq (tgt := 21) dX6_write_5 (by decide) (fun h5 => ?_) (fun h5 => ?_)
  · rw [if_pos h5] at hF
    refine a_ldc dX6_write_21 k_X6_147 ?_
    subst hF
    exact a_iret dX6_write_23 rfl ⟨rfl, rfl⟩
  · rw [if_neg h5] at hF
    refine a_iload_2 dX6_write_8 ?_
    refine a_iconst (v := (-1)) dX6_write_9 (by decide) ?_
    refine a_icmp_eq (tgt := 24) dX6_write_10 (by decide) (fun h10 => ?_) (fun h10 => ?_)
    · rw [if_pos h10] at hF
      refine a_aload_0 dX6_write_24 ?_
      refine a_getR (q := 21) dX6_write_25 fa_X6_61 (hg.d (by decide)) rfl rfl ?_
      refine a_getI dX6_write_28 fa_X6_94 (hg.d (by decide)) rfl rfl ?_
      refine a_bipush (v := 15) dX6_write_31 (by decide) ?_
      refine a_icmp_lt (tgt := 39) dX6_write_33 (by decide) (fun h33 => ?_) (fun h33 => ?_)
      · rw [if_pos h33] at hF
        refine a_aload_0 dX6_write_39 ?_
        refine a_getR (q := 21) dX6_write_40 fa_X6_61 (hg.d (by decide)) rfl rfl ?_
        refine a_iload_1 dX6_write_43 ?_
        refine a_iload_2 dX6_write_44 ?_
        obtain ⟨x2, ex2, hF⟩ := bd_e hF
        refine a_vV2 dX6_write_45 cv_X6_266 (ct_X0_add hg p1 p2 μ ex2.symm) (by decide) (hg.d (by decide)) rfl (Nat.le_of_ble_eq_true rfl) ?_
        refine a_aload_0 dX6_write_48 ?_
        refine a_getR (q := 21) dX6_write_49 fa_X6_61 (hg.d (by decide)) rfl rfl ?_
        refine a_getI dX6_write_52 fa_X6_94 (hg.d (by decide)) rfl rfl ?_
        subst hF
        exact a_iret dX6_write_55 rfl ⟨rfl, rfl⟩
      · rw [if_neg h33] at hF
        refine a_ldc dX6_write_36 k_X6_70 ?_
        subst hF
        exact a_iret dX6_write_38 rfl ⟨rfl, rfl⟩
    · rw [if_neg h10] at hF
      refine a_aload_0 dX6_write_13 ?_
      refine a_iload_2 dX6_write_14 ?_
      obtain ⟨x3, ex3, hF⟩ := bd_e hF
      refine a_iV1 dX6_write_15 cv_X6_192 (ct_X6_isWord hg p2 μ ex3.symm) (by decide) (hg.d (by decide)) rfl (Nat.le_of_ble_eq_true rfl) ?_
      refine a_if_ne (tgt := 24) dX6_write_18 (by decide) (fun h18 => ?_) (fun h18 => ?_)
      · rw [if_neg h18] at hF
        refine a_aload_0 dX6_write_24 ?_
        refine a_getR (q := 21) dX6_write_25 fa_X6_61 (hg.d (by decide)) rfl rfl ?_
        refine a_getI dX6_write_28 fa_X6_94 (hg.d (by decide)) rfl rfl ?_
        refine a_bipush (v := 15) dX6_write_31 (by decide) ?_
        refine a_icmp_lt (tgt := 39) dX6_write_33 (by decide) (fun h33 => ?_) (fun h33 => ?_)
        · rw [if_pos h33] at hF
          refine a_aload_0 dX6_write_39 ?_
          refine a_getR (q := 21) dX6_write_40 fa_X6_61 (hg.d (by decide)) rfl rfl ?_
          refine a_iload_1 dX6_write_43 ?_
          refine a_iload_2 dX6_write_44 ?_
          obtain ⟨x4, ex4, hF⟩ := bd_e hF
          refine a_vV2 dX6_write_45 cv_X6_266 (ct_X0_add hg p1 p2 μ ex4.symm) (by decide) (hg.d (by decide)) rfl (Nat.le_of_ble_eq_true rfl) ?_
          refine a_aload_0 dX6_write_48 ?_
          refine a_getR (q := 21) dX6_write_49 fa_X6_61 (hg.d (by decide)) rfl rfl ?_
          refine a_getI dX6_write_52 fa_X6_94 (hg.d (by decide)) rfl rfl ?_
          subst hF
          exact a_iret dX6_write_55 rfl ⟨rfl, rfl⟩
        · rw [if_neg h33] at hF
          refine a_ldc dX6_write_36 k_X6_70 ?_
          subst hF
          exact a_iret dX6_write_38 rfl ⟨rfl, rfl⟩
      · rw [if_pos h18] at hF
        refine a_ldc dX6_write_21 k_X6_147 ?_
        subst hF
        exact a_iret dX6_write_23 rfl ⟨rfl, rfl⟩
set_option maxHeartbeats 4000000 in
set_option maxRecDepth 100000 in
theorem ct_X6_tear {g : GT} (hg : GC g)  (μ : MM)  {r : Int32 × MM} (hF : f_X6_tear  μ = r) : Ct g 0 mi_X6_tear [.ref 0] μ (QI r.1 r.2) := by
  refine ct_of (k := 1) (by decide +kernel) rfl hg.1 rfl ?_
  show WA g 0 mi_X6_tear 0 [some (.ref 0), none] [] μ (QI r.1 r.2)
  unfold f_X6_tear at hF
  refine a_aload_0 dX6_tear_0 ?_
  refine a_getR (q := 17) dX6_tear_1 fa_X6_54 (hg.d (by decide)) rfl rfl ?_
  refine a_getI dX6_tear_4 fa_X6_91 (hg.d (by decide)) rfl rfl ?_
  refine a_aload_0 dX6_tear_7 ?_
  refine a_getR (q := 21) dX6_tear_8 fa_X6_61 (hg.d (by decide)) rfl rfl ?_
  refine a_getI dX6_tear_11 fa_X6_94 (hg.d (by decide)) rfl rfl ?_
  refine a_iadd dX6_tear_14 ?_
  obtain ⟨v1, ev1, hF⟩ := bd_e hF
  refine a_nm ev1 ?_
  refine a_istore_1 dX6_tear_15 (by decide) rfl ?_
  refine a_aload_0 dX6_tear_16 ?_
  refine a_getR (q := 17) dX6_tear_17 fa_X6_54 (hg.d (by decide)) rfl rfl ?_
  refine a_iconst (v := 0) dX6_tear_20 (by decide) ?_
  obtain ⟨μ2, eμ2, hF⟩ := bd_e hF
  refine a_pI eμ2 dX6_tear_21 fp_X6_91 (hg.d (by decide)) rfl rfl ?_
  refine a_aload_0 dX6_tear_24 ?_
  refine a_getR (q := 21) dX6_tear_25 fa_X6_61 (hg.d (by decide)) rfl rfl ?_
  refine a_iconst (v := 0) dX6_tear_28 (by decide) ?_
  obtain ⟨μ3, eμ3, hF⟩ := bd_e hF
  refine a_pI eμ3 dX6_tear_29 fp_X6_94 (hg.d (by decide)) rfl rfl ?_
  refine a_iload_1 dX6_tear_32 ?_
  subst hF
  exact a_iret dX6_tear_33 rfl ⟨rfl, rfl⟩
set_option maxHeartbeats 4000000 in
set_option maxRecDepth 100000 in
theorem ct_X6_judge {g : GT} (hg : GC g)  (μ : MM)  {r : Int32} (hF : f_X6_judge  μ = some r) : Ct g 2 mi_X6_judge [.ref 0] μ (QI r μ) := by
  refine ct_of (k := 0) (by decide +kernel) rfl hg.1 rfl ?_
  show WA g 2 mi_X6_judge 0 [some (.ref 0)] [] μ (QI r μ)
  unfold f_X6_judge at hF
  refine a_aload_0 dX6_judge_0 ?_
  refine a_getR (q := 21) dX6_judge_1 fa_X6_61 (hg.d (by decide)) rfl rfl ?_
  refine a_aload_0 dX6_judge_4 ?_
  refine a_getR (q := 24) dX6_judge_5 fa_X6_29 (hg.d (by decide)) rfl rfl ?_
  refine a_getR (q := 28) dX6_judge_8 fa_X6_164 (hg.d (by decide)) rfl rfl ?_
  obtain ⟨x1, ex1, hF⟩ := ob_e hF
  refine a_iV1 dX6_judge_11 cv_X6_267 (ct_X0_firstWrong hg 28 μ ⟨hg.d (by decide), by decide, rfl⟩ ex1) (by decide) (hg.d (by decide)) rfl (Nat.le_of_ble_eq_true rfl) ?_
  obtain rfl := Option.some.inj hF
  exact a_iret dX6_judge_14 rfl ⟨rfl, rfl⟩
set_option maxHeartbeats 4000000 in
set_option maxRecDepth 100000 in
theorem ct_X6_seed {g : GT} (hg : GC g) (p1 : Int32) (μ : MM)  {r : Int32 × MM} (hF : f_X6_seed p1 μ = r) : Ct g 0 mi_X6_seed [.ref 0, .int p1] μ (QI r.1 r.2) := by
  refine ct_of (k := 1) (by decide +kernel) rfl hg.1 rfl ?_
  show WA g 0 mi_X6_seed 0 [some (.ref 0), some (.int p1), none] [] μ (QI r.1 r.2)
  unfold f_X6_seed at hF
  refine a_iload_1 dX6_seed_0 ?_
  refine a_if_ge (tgt := 7) dX6_seed_1 (by decide) (fun h1 => ?_) (fun h1 => ?_)
  · rw [if_pos h1] at hF
    refine a_aload_0 dX6_seed_7 ?_
    refine a_getI dX6_seed_8 fa_X6_271 (hg.d (by decide)) rfl rfl ?_
    obtain ⟨v1, ev1, hF⟩ := bd_e hF
    refine a_nm ev1 ?_
    refine a_istore_2 dX6_seed_11 (by decide) rfl ?_
    refine a_aload_0 dX6_seed_12 ?_
    refine a_iload_1 dX6_seed_13 ?_
    obtain ⟨μ2, eμ2, hF⟩ := bd_e hF
    refine a_pI eμ2 dX6_seed_14 fp_X6_271 (hg.d (by decide)) rfl rfl ?_
    refine a_iload_2 dX6_seed_17 ?_
    subst hF
    exact a_iret dX6_seed_18 rfl ⟨rfl, rfl⟩
  · rw [if_neg h1] at hF
    refine a_ldc dX6_seed_4 k_X6_65 ?_
    subst hF
    exact a_iret dX6_seed_6 rfl ⟨rfl, rfl⟩
set_option maxHeartbeats 4000000 in
set_option maxRecDepth 100000 in
theorem ct_X6_image {g : GT} (hg : GC g) (p1 : Int32) (μ : MM)  {r : Option Nat} (hF : f_X6_image p1 μ = r) : Ct g 0 mi_X6_image [.ref 0, .int p1] μ (QR r μ) := by
  refine ct_of (k := 0) (by decide +kernel) rfl hg.1 rfl ?_
  show WA g 0 mi_X6_image 0 [some (.ref 0), some (.int p1)] [] μ (QR r μ)
  unfold f_X6_image at hF
  refine a_iload_1 dX6_image_0 ?_
  refine a_if_lt (tgt := 22) dX6_image_1 (by decide) (fun h1 => ?_) (fun h1 => ?_)
  · rw [if_pos h1] at hF
    refine a_null dX6_image_22 ?_
    subst hF
    exact a_aret dX6_image_23 rfl (Or.inl rfl) ⟨rfl, rfl⟩
  · rw [if_neg h1] at hF
    refine a_iload_1 dX6_image_4 ?_
    refine a_aload_0 dX6_image_5 ?_
    refine a_getR (q := 15) dX6_image_6 fa_X6_43 (hg.d (by decide)) rfl rfl ?_
    refine a_alenRn (n := 2) dX6_image_9 (hg.d (by decide)) rfl rfl ?_
    refine a_icmp_ge (tgt := 22) dX6_image_10 (by decide) (fun h10 => ?_) (fun h10 => ?_)
    · rw [if_pos h10] at hF
      refine a_null dX6_image_22 ?_
      subst hF
      exact a_aret dX6_image_23 rfl (Or.inl rfl) ⟨rfl, rfl⟩
    · rw [if_neg h10] at hF
      refine a_aload_0 dX6_image_13 ?_
      refine a_getR (q := 15) dX6_image_14 fa_X6_43 (hg.d (by decide)) rfl rfl ?_
      refine a_iload_1 dX6_image_17 ?_
      refine a_aald dX6_image_18 (hg.d (by decide)) rfl (vin_of (by decide) h1 h10) (ra15 (vin_of (by decide) h1 h10)) ?_
      refine a_goto (tgt := 23) dX6_image_19 (by decide) ?_
      subst hF
      exact a_aret dX6_image_23 rfl (Or.inr ⟨_, rfl⟩) ⟨rfl, rfl⟩
set_option maxHeartbeats 4000000 in
set_option maxRecDepth 100000 in
theorem ct_X6_keep {g : GT} (hg : GC g) (p1 : Int32) (μ : MM)  {r : Int32 × MM} (hF : f_X6_keep p1 μ = some r) : Ct g 2 mi_X6_keep [.ref 0, .int p1] μ (QI r.1 r.2) := by
  refine ct_of (k := 1) (by decide +kernel) rfl hg.1 rfl ?_
  show WA g 2 mi_X6_keep 0 [some (.ref 0), some (.int p1), none] [] μ (QI r.1 r.2)
  unfold f_X6_keep at hF
  refine a_aload_0 dX6_keep_0 ?_
  refine a_iload_1 dX6_keep_1 ?_
  rcases ex1 : f_X6_image p1 μ with _ | x1
  · rw [ex1] at hF
    simp only [nr] at hF
    refine a_nV1 dX6_keep_2 cv_X6_274 (ct_X6_image hg p1 μ ex1) (by decide) (hg.d (by decide)) rfl (Nat.le_of_ble_eq_true rfl) ?_
    refine a_nstore_2 dX6_keep_5 (by decide) rfl ?_
    refine a_nload_2 dX6_keep_6 ?_
    refine a_ifnonnullN dX6_keep_7 ?_
    refine a_ldc dX6_keep_10 k_X6_147 ?_
    obtain rfl := Option.some.inj hF
    exact a_iret dX6_keep_12 rfl ⟨rfl, rfl⟩
  · rw [ex1] at hF
    simp only [nr] at hF
    refine a_rV1 dX6_keep_2 cv_X6_274 (ct_X6_image hg p1 μ ex1) (by decide) (hg.d (by decide)) rfl (Nat.le_of_ble_eq_true rfl) ?_
    have hwx1 := wq_X6_image ex1
    refine a_astore_2 dX6_keep_5 (by decide) rfl ?_
    refine a_aload_2 dX6_keep_6 ?_
    refine a_ifnonnull (tgt := 13) dX6_keep_7 (by decide) ?_
    refine a_aload_2 dX6_keep_13 ?_
    refine a_aload_0 dX6_keep_14 ?_
    refine a_getR (q := 24) dX6_keep_15 fa_X6_29 (hg.d (by decide)) rfl rfl ?_
    obtain ⟨x2, ex2, hF⟩ := ob_e hF
    refine a_vV1 dX6_keep_18 cv_X6_244 (ct_X5_copyFrom hg x1 24 μ hwx1 ⟨0, by decide, rfl⟩ ex2) (by decide) (isW_lt hg hwx1) (isW_sh hwx1) (Nat.le_of_ble_eq_true rfl) ?_
    refine a_aload_0 dX6_keep_21 ?_
    refine a_getR (q := 16) dX6_keep_22 fa_X6_47 (hg.d (by decide)) rfl rfl ?_
    refine a_iload_1 dX6_keep_25 ?_
    refine a_aload_0 dX6_keep_26 ?_
    refine a_getI dX6_keep_27 fa_X6_271 (hg.d (by decide)) rfl rfl ?_
    obtain ⟨x3, ex3, hF⟩ := bd_e hF
    refine a_vS3 dX6_keep_30 cs_X6_74 (ct_X6_put hg 16 p1 (x2 0 9) x2 ⟨hg.d (by decide), by decide, rfl⟩ ex3.symm) (by decide) (Nat.le_of_ble_eq_true rfl) ?_
    refine a_aload_0 dX6_keep_33 ?_
    refine a_dup dX6_keep_34 rfl ?_
    refine a_getI dX6_keep_35 fa_X6_95 (hg.d (by decide)) rfl rfl ?_
    refine a_iconst (v := 1) dX6_keep_38 (by decide) ?_
    refine a_iload_1 dX6_keep_39 ?_
    refine a_shl dX6_keep_40 ?_
    refine a_ior dX6_keep_41 ?_
    obtain ⟨μ4, eμ4, hF⟩ := bd_e hF
    refine a_pI eμ4 dX6_keep_42 fp_X6_95 (hg.d (by decide)) rfl rfl ?_
    refine a_aload_0 dX6_keep_45 ?_
    refine a_getR (q := 13) dX6_keep_46 fa_X6_39 (hg.d (by decide)) rfl rfl ?_
    refine a_iconst (v := 0) dX6_keep_49 (by decide) ?_
    obtain ⟨μ5, eμ5, hF⟩ := bd_e hF
    refine a_pI eμ5 dX6_keep_50 fp_X6_98 (hg.d (by decide)) rfl rfl ?_
    refine a_iconst (v := 1) dX6_keep_53 (by decide) ?_
    obtain rfl := Option.some.inj hF
    exact a_iret dX6_keep_54 rfl ⟨rfl, rfl⟩
set_option maxHeartbeats 4000000 in
set_option maxRecDepth 100000 in
theorem ct_X6_goBack {g : GT} (hg : GC g) (p1 : Int32) (μ : MM)  {r : Int32 × MM} (hF : f_X6_goBack p1 μ = some r) : Ct g 2 mi_X6_goBack [.ref 0, .int p1] μ (QI r.1 r.2) := by
  refine ct_of (k := 1) (by decide +kernel) rfl hg.1 rfl ?_
  show WA g 2 mi_X6_goBack 0 [some (.ref 0), some (.int p1), none] [] μ (QI r.1 r.2)
  unfold f_X6_goBack at hF
  refine a_aload_0 dX6_goBack_0 ?_
  refine a_iload_1 dX6_goBack_1 ?_
  rcases ex1 : f_X6_image p1 μ with _ | x1
  · rw [ex1] at hF
    simp only [nr] at hF
    refine a_nV1 dX6_goBack_2 cv_X6_274 (ct_X6_image hg p1 μ ex1) (by decide) (hg.d (by decide)) rfl (Nat.le_of_ble_eq_true rfl) ?_
    refine a_nstore_2 dX6_goBack_5 (by decide) rfl ?_
    refine a_nload_2 dX6_goBack_6 ?_
    refine a_ifnonnullN dX6_goBack_7 ?_
    refine a_ldc dX6_goBack_10 k_X6_147 ?_
    obtain rfl := Option.some.inj hF
    exact a_iret dX6_goBack_12 rfl ⟨rfl, rfl⟩
  · rw [ex1] at hF
    simp only [nr] at hF
    refine a_rV1 dX6_goBack_2 cv_X6_274 (ct_X6_image hg p1 μ ex1) (by decide) (hg.d (by decide)) rfl (Nat.le_of_ble_eq_true rfl) ?_
    have hwx1 := wq_X6_image ex1
    refine a_astore_2 dX6_goBack_5 (by decide) rfl ?_
    refine a_aload_2 dX6_goBack_6 ?_
    refine a_ifnonnull (tgt := 13) dX6_goBack_7 (by decide) ?_
    refine a_aload_0 dX6_goBack_13 ?_
    refine a_getI dX6_goBack_14 fa_X6_95 (hg.d (by decide)) rfl rfl ?_
    refine a_iload_1 dX6_goBack_17 ?_
    obtain ⟨x2, ex2, hF⟩ := bd_e hF
    refine a_iS2 dX6_goBack_18 cs_X6_200 (ct_X6_holds hg (μ 0 8) p1 μ ex2.symm) (by decide) (Nat.le_of_ble_eq_true rfl) ?_
    refine a_if_ne (tgt := 27) dX6_goBack_21 (by decide) (fun h21 => ?_) (fun h21 => ?_)
    · rw [if_neg h21] at hF
      refine a_aload_0 dX6_goBack_27 ?_
      refine a_getR (q := 24) dX6_goBack_28 fa_X6_29 (hg.d (by decide)) rfl rfl ?_
      refine a_aload_2 dX6_goBack_31 ?_
      obtain ⟨x3, ex3, hF⟩ := ob_e hF
      refine a_vV1 dX6_goBack_32 cv_X6_244 (ct_X5_copyFrom hg 24 x1 μ ⟨0, by decide, rfl⟩ hwx1 ex3) (by decide) (hg.d (by decide)) rfl (Nat.le_of_ble_eq_true rfl) ?_
      refine a_aload_0 dX6_goBack_35 ?_
      refine a_aload_0 dX6_goBack_36 ?_
      refine a_getR (q := 16) dX6_goBack_37 fa_X6_47 (hg.d (by decide)) rfl rfl ?_
      refine a_iload_1 dX6_goBack_40 ?_
      obtain ⟨x4, ex4, hF⟩ := bd_e hF
      refine a_iS2 dX6_goBack_41 cs_X6_151 (ct_X6_cell hg 16 p1 x3 ⟨hg.d (by decide), by decide, rfl⟩ ex4.symm) (by decide) (Nat.le_of_ble_eq_true rfl) ?_
      obtain ⟨μ5, eμ5, hF⟩ := bd_e hF
      refine a_pI eμ5 dX6_goBack_44 fp_X6_271 (hg.d (by decide)) rfl rfl ?_
      refine a_aload_0 dX6_goBack_47 ?_
      refine a_getR (q := 13) dX6_goBack_48 fa_X6_39 (hg.d (by decide)) rfl rfl ?_
      refine a_iconst (v := 0) dX6_goBack_51 (by decide) ?_
      obtain ⟨μ6, eμ6, hF⟩ := bd_e hF
      refine a_pI eμ6 dX6_goBack_52 fp_X6_98 (hg.d (by decide)) rfl rfl ?_
      refine a_iconst (v := 1) dX6_goBack_55 (by decide) ?_
      obtain rfl := Option.some.inj hF
      exact a_iret dX6_goBack_56 rfl ⟨rfl, rfl⟩
    · rw [if_pos h21] at hF
      refine a_ldc dX6_goBack_24 k_X6_195 ?_
      obtain rfl := Option.some.inj hF
      exact a_iret dX6_goBack_26 rfl ⟨rfl, rfl⟩
set_option maxHeartbeats 4000000 in
set_option maxRecDepth 100000 in
theorem ct_X7_in {g : GT} (hg : GR g) (p0 : Int64) (p2 : Int64) (p4 : Int64) (μ : MM)  {r : Int32} (hF : f_X7_in p0 p2 p4 μ = r) : Ct g 0 mi_X7_in [.long p0, .long p2, .long p4] μ (QI r μ) := by
  refine ct_of (k := 0) (by decide +kernel) rfl hg.1 rfl ?_
  show WA g 0 mi_X7_in 0 [some (.long p0), none, some (.long p2), none, some (.long p4), none] [] μ (QI r μ)
  unfold f_X7_in at hF
  refine a_lload_0 dX7_in_0 ?_
  refine a_lload_2 dX7_in_1 ?_
  refine a_lcmp dX7_in_2 ?_
  refine a_if_lt (tgt := 17) dX7_in_3 (by decide) (fun h3 => ?_) (fun h3 => ?_)
  · rw [if_pos h3] at hF
    refine a_iconst (v := 0) dX7_in_17 (by decide) ?_
    subst hF
    exact a_zret dX7_in_18 rfl (Or.inl rfl) ⟨rfl, rfl⟩
  · rw [if_neg h3] at hF
    refine a_lload_0 dX7_in_6 ?_
    refine a_lload_4 dX7_in_7 ?_
    refine a_lcmp dX7_in_9 ?_
    refine a_if_gt (tgt := 17) dX7_in_10 (by decide) (fun h10 => ?_) (fun h10 => ?_)
    · rw [if_pos h10] at hF
      refine a_iconst (v := 0) dX7_in_17 (by decide) ?_
      subst hF
      exact a_zret dX7_in_18 rfl (Or.inl rfl) ⟨rfl, rfl⟩
    · rw [if_neg h10] at hF
      refine a_iconst (v := 1) dX7_in_13 (by decide) ?_
      refine a_goto (tgt := 18) dX7_in_14 (by decide) ?_
      subst hF
      exact a_zret dX7_in_18 rfl (Or.inr rfl) ⟨rfl, rfl⟩
set_option maxHeartbeats 4000000 in
set_option maxRecDepth 100000 in
theorem ct_X7_has {g : GT} (hg : GR g) (p0 : Int32) (p1 : Int32) (μ : MM)  {r : Int32} (hF : f_X7_has p0 p1 μ = r) : Ct g 0 mi_X7_has [.int p0, .int p1] μ (QI r μ) := by
  refine ct_of (k := 0) (by decide +kernel) rfl hg.1 rfl ?_
  show WA g 0 mi_X7_has 0 [some (.int p0), some (.int p1)] [] μ (QI r μ)
  unfold f_X7_has at hF
  refine a_iload_0 dX7_has_0 ?_
  refine a_iload_1 dX7_has_1 ?_
  refine a_shr dX7_has_2 ?_
  refine a_iconst (v := 1) dX7_has_3 (by decide) ?_
  refine a_iand dX7_has_4 ?_
  refine a_iconst (v := 1) dX7_has_5 (by decide) ?_
  refine a_icmp_ne (tgt := 13) dX7_has_6 (by decide) (fun h6 => ?_) (fun h6 => ?_)
  · rw [if_neg h6] at hF
    refine a_iconst (v := 0) dX7_has_13 (by decide) ?_
    subst hF
    exact a_zret dX7_has_14 rfl (Or.inl rfl) ⟨rfl, rfl⟩
  · rw [if_pos h6] at hF
    refine a_iconst (v := 1) dX7_has_9 (by decide) ?_
    refine a_goto (tgt := 14) dX7_has_10 (by decide) ?_
    subst hF
    exact a_zret dX7_has_14 rfl (Or.inr rfl) ⟨rfl, rfl⟩
set_option maxHeartbeats 4000000 in
set_option maxRecDepth 100000 in
theorem ct_X7_bits_L4 {g : GT} (hg : GR g) (l0 : Int32) (μ : MM)  {Q : Option Value → MM → Prop} : ∀ (n : Nat) (l1 : Int32) (l2 : Int32) (z : Int32 × Int32), f_X7_bits_L4 l0 μ n l1 l2 = some z → (WA g 0 mi_X7_bits 24 [some (.int l0), some (.int z.1), some (.int z.2)] [] μ Q) → WA g 0 mi_X7_bits 4 [some (.int l0), some (.int l1), some (.int l2)] [] μ Q := by
  intro n
  induction n with
  | zero => intro l1 l2 z hF; exact absurd hF (by simp [f_X7_bits_L4])
  | succ n ih =>
    intro l1 l2 z hF K
    unfold f_X7_bits_L4 at hF
    refine a_iload_2 dX7_bits_4 ?_
    refine a_bipush (v := 9) dX7_bits_5 (by decide) ?_
    refine a_icmp_ge (tgt := 24) dX7_bits_7 (by decide) (fun h7 => ?_) (fun h7 => ?_)
    · rw [if_pos h7] at hF
      obtain rfl := Option.some.inj hF
      exact K
    · rw [if_neg h7] at hF
      refine a_iload_1 dX7_bits_10 ?_
      refine a_iload_0 dX7_bits_11 ?_
      refine a_iload_2 dX7_bits_12 ?_
      refine a_shr dX7_bits_13 ?_
      refine a_iconst (v := 1) dX7_bits_14 (by decide) ?_
      refine a_iand dX7_bits_15 ?_
      refine a_iadd dX7_bits_16 ?_
      obtain ⟨v1, ev1, hF⟩ := bd_e hF
      refine a_nm ev1 ?_
      refine a_istore_1 dX7_bits_17 (by decide) rfl ?_
      refine a_iinc_2 (c0 := 1) dX7_bits_18 (by decide) (by decide) rfl ?_
      refine a_goto (tgt := 4) dX7_bits_21 (by decide) ?_
      exact ih v1 (l2 + 1) _ hF K
set_option maxHeartbeats 4000000 in
set_option maxRecDepth 100000 in
theorem ct_X7_bits {g : GT} (hg : GR g) (p0 : Int32) (μ : MM)  {r : Int32} (hF : f_X7_bits p0 μ = some r) : Ct g 0 mi_X7_bits [.int p0] μ (QI r μ) := by
  refine ct_of (k := 2) (by decide +kernel) rfl hg.1 rfl ?_
  show WA g 0 mi_X7_bits 0 [some (.int p0), none, none] [] μ (QI r μ)
  unfold f_X7_bits at hF
  refine a_iconst (v := 0) dX7_bits_0 (by decide) ?_
  refine a_istore_1 dX7_bits_1 (by decide) rfl ?_
  refine a_iconst (v := 0) dX7_bits_2 (by decide) ?_
  refine a_istore_2 dX7_bits_3 (by decide) rfl ?_
  obtain ⟨z2, ez2, hF⟩ := ob_e hF
  refine ct_X7_bits_L4 hg p0 μ  FU 0 0 z2 ez2 ?_
  refine a_iload_1 dX7_bits_24 ?_
  obtain rfl := Option.some.inj hF
  exact a_iret dX7_bits_25 rfl ⟨rfl, rfl⟩
set_option maxHeartbeats 4000000 in
set_option maxRecDepth 100000 in
theorem ct_X7_isFarm {g : GT} (hg : GR g) (p1 : Int32) (μ : MM)  {r : Int32} (hF : f_X7_isFarm p1 μ = r) : Ct g 1 mi_X7_isFarm [.ref 144, .int p1] μ (QI r μ) := by
  refine ct_of (k := 0) (by decide +kernel) rfl hg.1 rfl ?_
  show WA g 1 mi_X7_isFarm 0 [some (.ref 144), some (.int p1)] [] μ (QI r μ)
  unfold f_X7_isFarm at hF
  refine a_iload_1 dX7_isFarm_0 ?_
  refine a_i2l dX7_isFarm_1 ?_
  refine a_lconst (v := 0) dX7_isFarm_2 (by decide) ?_
  refine a_aload_0 dX7_isFarm_3 ?_
  refine a_getI dX7_isFarm_4 fa_X7_81 (hg.d (by decide)) rfl rfl ?_
  refine a_iconst (v := 1) dX7_isFarm_7 (by decide) ?_
  refine a_isub dX7_isFarm_8 ?_
  refine a_i2l dX7_isFarm_9 ?_
  obtain ⟨x1, ex1, hF⟩ := bd_e hF
  refine a_iS3 dX7_isFarm_10 cs_X7_84 (ct_X7_in hg (Int32.toInt64 p1) 0 (Int32.toInt64 ((μ 144 1) - 1)) μ ex1.symm) (by decide) (Nat.le_of_ble_eq_true rfl) ?_
  subst hF
  exact a_zret dX7_isFarm_13 rfl (by rw [ex1]; exact fb_X7_in _ _ _ _) ⟨rfl, rfl⟩
set_option maxHeartbeats 4000000 in
set_option maxRecDepth 100000 in
theorem ct_X7_isWord {g : GT} (hg : GR g) (p1 : Int32) (μ : MM)  {r : Int32} (hF : f_X7_isWord p1 μ = r) : Ct g 1 mi_X7_isWord [.ref 144, .int p1] μ (QI r μ) := by
  refine ct_of (k := 0) (by decide +kernel) rfl hg.1 rfl ?_
  show WA g 1 mi_X7_isWord 0 [some (.ref 144), some (.int p1)] [] μ (QI r μ)
  unfold f_X7_isWord at hF
  refine a_iload_1 dX7_isWord_0 ?_
  refine a_i2l dX7_isWord_1 ?_
  refine a_lconst (v := 0) dX7_isWord_2 (by decide) ?_
  refine a_aload_0 dX7_isWord_3 ?_
  refine a_getI dX7_isWord_4 fa_X7_88 (hg.d (by decide)) rfl rfl ?_
  refine a_iconst (v := 1) dX7_isWord_7 (by decide) ?_
  refine a_isub dX7_isWord_8 ?_
  refine a_i2l dX7_isWord_9 ?_
  obtain ⟨x1, ex1, hF⟩ := bd_e hF
  refine a_iS3 dX7_isWord_10 cs_X7_84 (ct_X7_in hg (Int32.toInt64 p1) 0 (Int32.toInt64 ((μ 144 0) - 1)) μ ex1.symm) (by decide) (Nat.le_of_ble_eq_true rfl) ?_
  subst hF
  exact a_zret dX7_isWord_13 rfl (by rw [ex1]; exact fb_X7_in _ _ _ _) ⟨rfl, rfl⟩
set_option maxHeartbeats 4000000 in
set_option maxRecDepth 100000 in
theorem ct_X7_emptyAll_L2 {g : GT} (hg : GR g)   {Q : Option Value → MM → Prop} : ∀ (n : Nat) (l1 : Int32) (μ : MM) (z : Int32 × MM), f_X7_emptyAll_L2  n l1 μ = some z → (WA g 0 mi_X7_emptyAll 21 [some (.ref 144), some (.int z.1)] [] z.2 Q) → WA g 0 mi_X7_emptyAll 2 [some (.ref 144), some (.int l1)] [] μ Q := by
  intro n
  induction n with
  | zero => intro l1 μ z hF; exact absurd hF (by simp [f_X7_emptyAll_L2])
  | succ n ih =>
    intro l1 μ z hF K
    unfold f_X7_emptyAll_L2 at hF
    refine a_iload_1 dX7_emptyAll_2 ?_
    refine a_bipush (v := 66) dX7_emptyAll_3 (by decide) ?_
    refine a_icmp_ge (tgt := 21) dX7_emptyAll_5 (by decide) (fun h5 => ?_) (fun h5 => ?_)
    · rw [if_pos h5] at hF
      obtain rfl := Option.some.inj hF
      exact K
    · rw [if_neg h5] at hF
      refine a_aload_0 dX7_emptyAll_8 ?_
      refine a_getR (q := 149) dX7_emptyAll_9 fa_X7_22 (hg.d (by decide)) rfl rfl ?_
      refine a_iload_1 dX7_emptyAll_12 ?_
      refine a_iconst (v := 0) dX7_emptyAll_13 (by decide) ?_
      obtain ⟨hx14, hF⟩ := gd_e hF
      obtain ⟨μ1, eμ1, hF⟩ := bd_e hF
      refine a_sI eμ1 dX7_emptyAll_14 (hg.d (by decide)) rfl hx14 rfl ?_
      refine a_iinc_1 (c0 := 1) dX7_emptyAll_15 (by decide) (by decide) rfl ?_
      refine a_goto (tgt := 2) dX7_emptyAll_18 (by decide) ?_
      exact ih (l1 + 1) μ1 _ hF K
set_option maxHeartbeats 4000000 in
set_option maxRecDepth 100000 in
theorem ct_X7_emptyAll_L23 {g : GT} (hg : GR g)   {Q : Option Value → MM → Prop} : ∀ (n : Nat) (l1 : Int32) (μ : MM) (z : Int32 × MM), f_X7_emptyAll_L23  n l1 μ = some z → (WA g 0 mi_X7_emptyAll 45 [some (.ref 144), some (.int z.1)] [] z.2 Q) → WA g 0 mi_X7_emptyAll 23 [some (.ref 144), some (.int l1)] [] μ Q := by
  intro n
  induction n with
  | zero => intro l1 μ z hF; exact absurd hF (by simp [f_X7_emptyAll_L23])
  | succ n ih =>
    intro l1 μ z hF K
    unfold f_X7_emptyAll_L23 at hF
    refine a_iload_1 dX7_emptyAll_23 ?_
    refine a_bipush (v := 9) dX7_emptyAll_24 (by decide) ?_
    refine a_icmp_ge (tgt := 45) dX7_emptyAll_26 (by decide) (fun h26 => ?_) (fun h26 => ?_)
    · rw [if_pos h26] at hF
      obtain rfl := Option.some.inj hF
      exact K
    · rw [if_neg h26] at hF
      refine a_aload_0 dX7_emptyAll_29 ?_
      refine a_getR (q := 149) dX7_emptyAll_30 fa_X7_22 (hg.d (by decide)) rfl rfl ?_
      refine a_bipush (v := 14) dX7_emptyAll_33 (by decide) ?_
      refine a_iload_1 dX7_emptyAll_35 ?_
      refine a_iadd dX7_emptyAll_36 ?_
      refine a_iconst (v := (-1)) dX7_emptyAll_37 (by decide) ?_
      obtain ⟨hx38, hF⟩ := gd_e hF
      obtain ⟨μ3, eμ3, hF⟩ := bd_e hF
      refine a_sI eμ3 dX7_emptyAll_38 (hg.d (by decide)) rfl hx38 rfl ?_
      refine a_iinc_1 (c0 := 1) dX7_emptyAll_39 (by decide) (by decide) rfl ?_
      refine a_goto (tgt := 23) dX7_emptyAll_42 (by decide) ?_
      exact ih (l1 + 1) μ3 _ hF K
set_option maxHeartbeats 4000000 in
set_option maxRecDepth 100000 in
theorem ct_X7_emptyAll {g : GT} (hg : GR g)  (μ : MM)  {r : MM} (hF : f_X7_emptyAll  μ = some r) : Ct g 0 mi_X7_emptyAll [.ref 144] μ (QV r) := by
  refine ct_of (k := 1) (by decide +kernel) rfl hg.1 rfl ?_
  show WA g 0 mi_X7_emptyAll 0 [some (.ref 144), none] [] μ (QV r)
  unfold f_X7_emptyAll at hF
  refine a_iconst (v := 0) dX7_emptyAll_0 (by decide) ?_
  refine a_istore_1 dX7_emptyAll_1 (by decide) rfl ?_
  obtain ⟨z2, ez2, hF⟩ := ob_e hF
  refine ct_X7_emptyAll_L2 hg   FU 0 μ z2 ez2 ?_
  refine a_iconst (v := 0) dX7_emptyAll_21 (by decide) ?_
  refine a_istore_1 dX7_emptyAll_22 (by decide) rfl ?_
  obtain ⟨z4, ez4, hF⟩ := ob_e hF
  refine ct_X7_emptyAll_L23 hg   FU 0 z2.2 z4 ez4 ?_
  obtain rfl := Option.some.inj hF
  exact a_vret dX7_emptyAll_45 rfl ⟨rfl, rfl⟩
set_option maxHeartbeats 4000000 in
set_option maxRecDepth 100000 in
theorem ct_X7_feed {g : GT} (hg : GR g) (p1 : Int32) (μ : MM)  {r : Int32 × MM} (hF : f_X7_feed p1 μ = some r) : Ct g 1 mi_X7_feed [.ref 144, .int p1] μ (QI r.1 r.2) := by
  refine ct_of (k := 0) (by decide +kernel) rfl hg.1 rfl ?_
  show WA g 1 mi_X7_feed 0 [some (.ref 144), some (.int p1)] [] μ (QI r.1 r.2)
  unfold f_X7_feed at hF
  refine a_iload_1 dX7_feed_0 ?_
  refine a_i2l dX7_feed_1 ?_
  refine a_lconst (v := 0) dX7_feed_2 (by decide) ?_
  refine a_ldc2 dX7_feed_3 k_X7_91 ?_
  obtain ⟨x1, ex1, hF⟩ := bd_e hF
  refine a_iS3 dX7_feed_6 cs_X7_84 (ct_X7_in hg (Int32.toInt64 p1) 0 255 μ ex1.symm) (by decide) (Nat.le_of_ble_eq_true rfl) ?_
  refine a_if_ne (tgt := 15) dX7_feed_9 (by decide) (fun h9 => ?_) (fun h9 => ?_)
  · rw [if_neg h9] at hF
    refine a_aload_0 dX7_feed_15 ?_
    refine a_getI dX7_feed_16 fa_X7_94 (hg.d (by decide)) rfl rfl ?_
    refine a_sipush (v := 240) dX7_feed_19 (by decide) ?_
    refine a_icmp_ne (tgt := 28) dX7_feed_22 (by decide) (fun h22 => ?_) (fun h22 => ?_)
    · rw [if_neg h22] at hF
      refine a_aload_0 dX7_feed_28 ?_
      refine a_getR (q := 150) dX7_feed_29 fa_X7_25 (hg.d (by decide)) rfl rfl ?_
      refine a_aload_0 dX7_feed_32 ?_
      refine a_getI dX7_feed_33 fa_X7_94 (hg.d (by decide)) rfl rfl ?_
      refine a_iload_1 dX7_feed_36 ?_
      obtain ⟨hx37, hF⟩ := gd_e hF
      obtain ⟨μ2, eμ2, hF⟩ := bd_e hF
      refine a_sI eμ2 dX7_feed_37 (hg.d (by decide)) rfl hx37 rfl ?_
      refine a_aload_0 dX7_feed_38 ?_
      refine a_dup dX7_feed_39 rfl ?_
      refine a_getI dX7_feed_40 fa_X7_94 (hg.d (by decide)) rfl rfl ?_
      refine a_iconst (v := 1) dX7_feed_43 (by decide) ?_
      refine a_iadd dX7_feed_44 ?_
      obtain ⟨μ3, eμ3, hF⟩ := bd_e hF
      refine a_pI eμ3 dX7_feed_45 fp_X7_94 (hg.d (by decide)) rfl rfl ?_
      refine a_aload_0 dX7_feed_48 ?_
      refine a_getI dX7_feed_49 fa_X7_94 (hg.d (by decide)) rfl rfl ?_
      obtain rfl := Option.some.inj hF
      exact a_iret dX7_feed_52 rfl ⟨rfl, rfl⟩
    · rw [if_pos h22] at hF
      refine a_ldc dX7_feed_25 k_X7_97 ?_
      obtain rfl := Option.some.inj hF
      exact a_iret dX7_feed_27 rfl ⟨rfl, rfl⟩
  · rw [if_pos h9] at hF
    refine a_ldc dX7_feed_12 k_X7_93 ?_
    obtain rfl := Option.some.inj hF
    exact a_iret dX7_feed_14 rfl ⟨rfl, rfl⟩
set_option maxHeartbeats 4000000 in
set_option maxRecDepth 100000 in
theorem ct_X7_here_L0 {g : GT} (hg : GR g)   {Q : Option Value → MM → Prop} : ∀ (n : Nat) (μ : MM) (z : MM), f_X7_here_L0  n μ = some z → (WA g 0 mi_X7_here 38 [some (.ref 144)] [] z Q) → WA g 0 mi_X7_here 0 [some (.ref 144)] [] μ Q := by
  intro n
  induction n with
  | zero => intro μ z hF; exact absurd hF (by simp [f_X7_here_L0])
  | succ n ih =>
    intro μ z hF K
    unfold f_X7_here_L0 at hF
    refine a_aload_0 dX7_here_0 ?_
    refine a_getI dX7_here_1 fa_X7_98 (hg.d (by decide)) rfl rfl ?_
    refine a_aload_0 dX7_here_4 ?_
    refine a_getI dX7_here_5 fa_X7_94 (hg.d (by decide)) rfl rfl ?_
    refine a_icmp_ge (tgt := 38) dX7_here_8 (by decide) (fun h8 => ?_) (fun h8 => ?_)
    · rw [if_pos h8] at hF
      obtain rfl := Option.some.inj hF
      exact K
    · rw [if_neg h8] at hF
      refine a_aload_0 dX7_here_11 ?_
      refine a_getR (q := 150) dX7_here_12 fa_X7_25 (hg.d (by decide)) rfl rfl ?_
      refine a_aload_0 dX7_here_15 ?_
      refine a_getI dX7_here_16 fa_X7_98 (hg.d (by decide)) rfl rfl ?_
      obtain ⟨hx19, hF⟩ := gd_e hF
      refine a_ldC dX7_here_19 (hg.d (by decide)) rfl hx19 rfl ?_
      refine a_bipush (v := 32) dX7_here_20 (by decide) ?_
      refine a_icmp_ne (tgt := 38) dX7_here_22 (by decide) (fun h22 => ?_) (fun h22 => ?_)
      · rw [if_neg h22] at hF
        obtain rfl := Option.some.inj hF
        exact K
      · rw [if_pos h22] at hF
        refine a_aload_0 dX7_here_25 ?_
        refine a_dup dX7_here_26 rfl ?_
        refine a_getI dX7_here_27 fa_X7_98 (hg.d (by decide)) rfl rfl ?_
        refine a_iconst (v := 1) dX7_here_30 (by decide) ?_
        refine a_iadd dX7_here_31 ?_
        obtain ⟨μ1, eμ1, hF⟩ := bd_e hF
        refine a_pI eμ1 dX7_here_32 fp_X7_98 (hg.d (by decide)) rfl rfl ?_
        refine a_goto (tgt := 0) dX7_here_35 (by decide) ?_
        exact ih μ1 _ hF K
set_option maxHeartbeats 4000000 in
set_option maxRecDepth 100000 in
theorem ct_X7_here {g : GT} (hg : GR g)  (μ : MM)  {r : Int32 × MM} (hF : f_X7_here  μ = some r) : Ct g 0 mi_X7_here [.ref 144] μ (QI r.1 r.2) := by
  refine ct_of (k := 0) (by decide +kernel) rfl hg.1 rfl ?_
  show WA g 0 mi_X7_here 0 [some (.ref 144)] [] μ (QI r.1 r.2)
  unfold f_X7_here at hF
  obtain ⟨z2, ez2, hF⟩ := ob_e hF
  refine ct_X7_here_L0 hg   FU μ z2 ez2 ?_
  refine a_aload_0 dX7_here_38 ?_
  refine a_getI dX7_here_39 fa_X7_98 (hg.d (by decide)) rfl rfl ?_
  refine a_aload_0 dX7_here_42 ?_
  refine a_getI dX7_here_43 fa_X7_94 (hg.d (by decide)) rfl rfl ?_
  refine a_icmp_ge (tgt := 61) dX7_here_46 (by decide) (fun h46 => ?_) (fun h46 => ?_)
  · rw [if_pos h46] at hF
    refine a_iconst (v := (-1)) dX7_here_61 (by decide) ?_
    obtain rfl := Option.some.inj hF
    exact a_iret dX7_here_62 rfl ⟨rfl, rfl⟩
  · rw [if_neg h46] at hF
    refine a_aload_0 dX7_here_49 ?_
    refine a_getR (q := 150) dX7_here_50 fa_X7_25 (hg.d (by decide)) rfl rfl ?_
    refine a_aload_0 dX7_here_53 ?_
    refine a_getI dX7_here_54 fa_X7_98 (hg.d (by decide)) rfl rfl ?_
    obtain ⟨hx57, hF⟩ := gd_e hF
    refine a_ldC dX7_here_57 (hg.d (by decide)) rfl hx57 rfl ?_
    refine a_goto (tgt := 62) dX7_here_58 (by decide) ?_
    obtain rfl := Option.some.inj hF
    exact a_iret dX7_here_62 rfl ⟨rfl, rfl⟩
set_option maxHeartbeats 4000000 in
set_option maxRecDepth 100000 in
theorem ct_X7_fails {g : GT} (hg : GR g) (p1 : Int32) (p2 : Int32) (μ : MM)  {r : Int32 × MM} (hF : f_X7_fails p1 p2 μ = r) : Ct g 0 mi_X7_fails [.ref 144, .int p1, .int p2] μ (QI r.1 r.2) := by
  refine ct_of (k := 0) (by decide +kernel) rfl hg.1 rfl ?_
  show WA g 0 mi_X7_fails 0 [some (.ref 144), some (.int p1), some (.int p2)] [] μ (QI r.1 r.2)
  unfold f_X7_fails at hF
  refine a_aload_0 dX7_fails_0 ?_
  refine a_iload_2 dX7_fails_1 ?_
  obtain ⟨μ1, eμ1, hF⟩ := bd_e hF
  refine a_pI eμ1 dX7_fails_2 fp_X7_28 (hg.d (by decide)) rfl rfl ?_
  refine a_iload_1 dX7_fails_5 ?_
  subst hF
  exact a_iret dX7_fails_6 rfl ⟨rfl, rfl⟩
set_option maxHeartbeats 4000000 in
set_option maxRecDepth 100000 in
theorem ct_X7_takeNumber_L42 {g : GT} (hg : GR g) (l1 : Int32) (l2 : Int32) (l3 : Int32)  {Q : Option Value → MM → Prop} : ∀ (n : Nat) (μ : MM) (z : MM), f_X7_takeNumber_L42 l1 l2 l3 n μ = some z → (WA g 1 mi_X7_takeNumber 129 [some (.ref 144), some (.int l1), some (.int l2), some (.int l3)] [] z Q) → WA g 1 mi_X7_takeNumber 42 [some (.ref 144), some (.int l1), some (.int l2), some (.int l3)] [] μ Q := by
  intro n
  induction n with
  | zero => intro μ z hF; exact absurd hF (by simp [f_X7_takeNumber_L42])
  | succ n ih =>
    intro μ z hF K
    unfold f_X7_takeNumber_L42 at hF
    refine a_aload_0 dX7_takeNumber_42 ?_
    refine a_getI dX7_takeNumber_43 fa_X7_98 (hg.d (by decide)) rfl rfl ?_
    refine a_aload_0 dX7_takeNumber_46 ?_
    refine a_getI dX7_takeNumber_47 fa_X7_94 (hg.d (by decide)) rfl rfl ?_
    refine a_icmp_ge (tgt := 129) dX7_takeNumber_50 (by decide) (fun h50 => ?_) (fun h50 => ?_)
    · rw [if_pos h50] at hF
      obtain rfl := Option.some.inj hF
      exact K
    · rw [if_neg h50] at hF
      refine a_aload_0 dX7_takeNumber_53 ?_
      refine a_getR (q := 150) dX7_takeNumber_54 fa_X7_25 (hg.d (by decide)) rfl rfl ?_
      refine a_aload_0 dX7_takeNumber_57 ?_
      refine a_getI dX7_takeNumber_58 fa_X7_98 (hg.d (by decide)) rfl rfl ?_
      obtain ⟨hx61, hF⟩ := gd_e hF
      refine a_ldC dX7_takeNumber_61 (hg.d (by decide)) rfl hx61 rfl ?_
      refine a_i2l dX7_takeNumber_62 ?_
      refine a_ldc2 dX7_takeNumber_63 k_X7_105 ?_
      refine a_ldc2 dX7_takeNumber_66 k_X7_107 ?_
      obtain ⟨x5, ex5, hF⟩ := bd_e hF
      refine a_iS3 dX7_takeNumber_69 cs_X7_84 (ct_X7_in hg (Int32.toInt64 (μ 150 (Int32.toNatClampNeg (μ 144 12)))) 48 57 μ ex5.symm) (by decide) (Nat.le_of_ble_eq_true rfl) ?_
      refine a_if_eq (tgt := 129) dX7_takeNumber_72 (by decide) (fun h72 => ?_) (fun h72 => ?_)
      · rw [if_pos h72] at hF
        obtain rfl := Option.some.inj hF
        exact K
      · rw [if_neg h72] at hF
        refine a_aload_0 dX7_takeNumber_75 ?_
        refine a_aload_0 dX7_takeNumber_76 ?_
        refine a_getI dX7_takeNumber_77 fa_X7_116 (hg.d (by decide)) rfl rfl ?_
        refine a_sipush (v := 10000) dX7_takeNumber_80 (by decide) ?_
        obtain ⟨j6, ej83, hF⟩ := ob_e hF
        have KJ83 : WA g 1 mi_X7_takeNumber 113 [some (.ref 144), some (.int l1), some (.int l2), some (.int l3)] [.int j6, .ref 144] μ Q := by
          obtain ⟨μ7, eμ7, hF⟩ := bd_e hF
          refine a_pI eμ7 dX7_takeNumber_113 fp_X7_116 (hg.d (by decide)) rfl rfl ?_
          refine a_aload_0 dX7_takeNumber_116 ?_
          refine a_dup dX7_takeNumber_117 rfl ?_
          refine a_getI dX7_takeNumber_118 fa_X7_98 (hg.d (by decide)) rfl rfl ?_
          refine a_iconst (v := 1) dX7_takeNumber_121 (by decide) ?_
          refine a_iadd dX7_takeNumber_122 ?_
          obtain ⟨μ8, eμ8, hF⟩ := bd_e hF
          refine a_pI eμ8 dX7_takeNumber_123 fp_X7_98 (hg.d (by decide)) rfl rfl ?_
          refine a_goto (tgt := 42) dX7_takeNumber_126 (by decide) ?_
          exact ih μ8 _ hF K
        refine a_icmp_le (tgt := 93) dX7_takeNumber_83 (by decide) (fun h83 => ?_) (fun h83 => ?_)
        · rw [if_pos h83] at ej83
          refine a_bipush (v := 10) dX7_takeNumber_93 (by decide) ?_
          refine a_aload_0 dX7_takeNumber_95 ?_
          refine a_getI dX7_takeNumber_96 fa_X7_116 (hg.d (by decide)) rfl rfl ?_
          refine a_imul dX7_takeNumber_99 ?_
          refine a_aload_0 dX7_takeNumber_100 ?_
          refine a_getR (q := 150) dX7_takeNumber_101 fa_X7_25 (hg.d (by decide)) rfl rfl ?_
          refine a_aload_0 dX7_takeNumber_104 ?_
          refine a_getI dX7_takeNumber_105 fa_X7_98 (hg.d (by decide)) rfl rfl ?_
          obtain ⟨hx108, ej83⟩ := gd_e ej83
          refine a_ldC dX7_takeNumber_108 (hg.d (by decide)) rfl hx108 rfl ?_
          refine a_iadd dX7_takeNumber_109 ?_
          refine a_bipush (v := 48) dX7_takeNumber_110 (by decide) ?_
          refine a_isub dX7_takeNumber_112 ?_
          obtain rfl := Option.some.inj ej83
          exact KJ83
        · rw [if_neg h83] at ej83
          refine a_aload_0 dX7_takeNumber_86 ?_
          refine a_getI dX7_takeNumber_87 fa_X7_116 (hg.d (by decide)) rfl rfl ?_
          refine a_goto (tgt := 113) dX7_takeNumber_90 (by decide) ?_
          obtain rfl := Option.some.inj ej83
          exact KJ83
set_option maxHeartbeats 4000000 in
set_option maxRecDepth 100000 in
theorem ct_X7_takeNumber {g : GT} (hg : GR g) (p1 : Int32) (p2 : Int32) (μ : MM)  {r : Int32 × MM} (hF : f_X7_takeNumber p1 p2 μ = some r) : Ct g 1 mi_X7_takeNumber [.ref 144, .int p1, .int p2] μ (QI r.1 r.2) := by
  refine ct_of (k := 1) (by decide +kernel) rfl hg.1 rfl ?_
  show WA g 1 mi_X7_takeNumber 0 [some (.ref 144), some (.int p1), some (.int p2), none] [] μ (QI r.1 r.2)
  unfold f_X7_takeNumber at hF
  refine a_aload_0 dX7_takeNumber_0 ?_
  obtain ⟨x1, ex1, hF⟩ := ob_e hF
  refine a_iV0 dX7_takeNumber_1 cv_X7_101 (ct_X7_here hg μ ex1) (by decide) (hg.d (by decide)) rfl (Nat.le_of_ble_eq_true rfl) ?_
  refine a_istore_3 dX7_takeNumber_4 (by decide) rfl ?_
  refine a_iload_3 dX7_takeNumber_5 ?_
  refine a_i2l dX7_takeNumber_6 ?_
  refine a_ldc2 dX7_takeNumber_7 k_X7_105 ?_
  refine a_ldc2 dX7_takeNumber_10 k_X7_107 ?_
  obtain ⟨x2, ex2, hF⟩ := bd_e hF
  refine a_iS3 dX7_takeNumber_13 cs_X7_84 (ct_X7_in hg (Int32.toInt64 x1.1) 48 57 x1.2 ex2.symm) (by decide) (Nat.le_of_ble_eq_true rfl) ?_
  refine a_if_ne (tgt := 29) dX7_takeNumber_16 (by decide) (fun h16 => ?_) (fun h16 => ?_)
  · rw [if_neg h16] at hF
    refine a_aload_0 dX7_takeNumber_29 ?_
    refine a_aload_0 dX7_takeNumber_30 ?_
    refine a_getI dX7_takeNumber_31 fa_X7_98 (hg.d (by decide)) rfl rfl ?_
    obtain ⟨μ3, eμ3, hF⟩ := bd_e hF
    refine a_pI eμ3 dX7_takeNumber_34 fp_X7_113 (hg.d (by decide)) rfl rfl ?_
    refine a_aload_0 dX7_takeNumber_37 ?_
    refine a_iconst (v := 0) dX7_takeNumber_38 (by decide) ?_
    obtain ⟨μ4, eμ4, hF⟩ := bd_e hF
    refine a_pI eμ4 dX7_takeNumber_39 fp_X7_116 (hg.d (by decide)) rfl rfl ?_
    obtain ⟨z9, ez9, hF⟩ := ob_e hF
    refine ct_X7_takeNumber_L42 hg p1 p2 x1.1  FU μ4 z9 ez9 ?_
    refine a_aload_0 dX7_takeNumber_129 ?_
    refine a_getI dX7_takeNumber_130 fa_X7_98 (hg.d (by decide)) rfl rfl ?_
    refine a_aload_0 dX7_takeNumber_133 ?_
    refine a_getI dX7_takeNumber_134 fa_X7_113 (hg.d (by decide)) rfl rfl ?_
    refine a_isub dX7_takeNumber_137 ?_
    refine a_iconst (v := 3) dX7_takeNumber_138 (by decide) ?_
    refine a_icmp_gt (tgt := 157) dX7_takeNumber_139 (by decide) (fun h139 => ?_) (fun h139 => ?_)
    · rw [if_pos h139] at hF
      refine a_aload_0 dX7_takeNumber_157 ?_
      refine a_iconst (v := 2) dX7_takeNumber_158 (by decide) ?_
      refine a_aload_0 dX7_takeNumber_159 ?_
      refine a_getI dX7_takeNumber_160 fa_X7_113 (hg.d (by decide)) rfl rfl ?_
      obtain ⟨x10, ex10, hF⟩ := bd_e hF
      refine a_iV2 dX7_takeNumber_163 cv_X7_109 (ct_X7_fails hg 2 (z9 144 14) z9 ex10.symm) (by decide) (hg.d (by decide)) rfl (Nat.le_of_ble_eq_true rfl) ?_
      refine a_goto (tgt := 170) dX7_takeNumber_166 (by decide) ?_
      obtain rfl := Option.some.inj hF
      exact a_iret dX7_takeNumber_170 rfl ⟨rfl, rfl⟩
    · rw [if_neg h139] at hF
      refine a_aload_0 dX7_takeNumber_142 ?_
      refine a_getI dX7_takeNumber_143 fa_X7_116 (hg.d (by decide)) rfl rfl ?_
      refine a_i2l dX7_takeNumber_146 ?_
      refine a_iload_1 dX7_takeNumber_147 ?_
      refine a_i2l dX7_takeNumber_148 ?_
      refine a_iload_2 dX7_takeNumber_149 ?_
      refine a_i2l dX7_takeNumber_150 ?_
      obtain ⟨x11, ex11, hF⟩ := bd_e hF
      refine a_iS3 dX7_takeNumber_151 cs_X7_84 (ct_X7_in hg (Int32.toInt64 (z9 144 13)) (Int32.toInt64 p1) (Int32.toInt64 p2) z9 ex11.symm) (by decide) (Nat.le_of_ble_eq_true rfl) ?_
      refine a_if_ne (tgt := 169) dX7_takeNumber_154 (by decide) (fun h154 => ?_) (fun h154 => ?_)
      · rw [if_neg h154] at hF
        refine a_iconst (v := 0) dX7_takeNumber_169 (by decide) ?_
        obtain rfl := Option.some.inj hF
        exact a_iret dX7_takeNumber_170 rfl ⟨rfl, rfl⟩
      · rw [if_pos h154] at hF
        refine a_aload_0 dX7_takeNumber_157 ?_
        refine a_iconst (v := 2) dX7_takeNumber_158 (by decide) ?_
        refine a_aload_0 dX7_takeNumber_159 ?_
        refine a_getI dX7_takeNumber_160 fa_X7_113 (hg.d (by decide)) rfl rfl ?_
        obtain ⟨x12, ex12, hF⟩ := bd_e hF
        refine a_iV2 dX7_takeNumber_163 cv_X7_109 (ct_X7_fails hg 2 (z9 144 14) z9 ex12.symm) (by decide) (hg.d (by decide)) rfl (Nat.le_of_ble_eq_true rfl) ?_
        refine a_goto (tgt := 170) dX7_takeNumber_166 (by decide) ?_
        obtain rfl := Option.some.inj hF
        exact a_iret dX7_takeNumber_170 rfl ⟨rfl, rfl⟩
  · rw [if_pos h16] at hF
    refine a_aload_0 dX7_takeNumber_19 ?_
    refine a_iconst (v := 1) dX7_takeNumber_20 (by decide) ?_
    refine a_aload_0 dX7_takeNumber_21 ?_
    refine a_getI dX7_takeNumber_22 fa_X7_98 (hg.d (by decide)) rfl rfl ?_
    obtain ⟨x13, ex13, hF⟩ := bd_e hF
    refine a_iV2 dX7_takeNumber_25 cv_X7_109 (ct_X7_fails hg 1 (x1.2 144 12) x1.2 ex13.symm) (by decide) (hg.d (by decide)) rfl (Nat.le_of_ble_eq_true rfl) ?_
    obtain rfl := Option.some.inj hF
    exact a_iret dX7_takeNumber_28 rfl ⟨rfl, rfl⟩
set_option maxHeartbeats 4000000 in
set_option maxRecDepth 100000 in
theorem ct_X7_into {g : GT} (hg : GR g) (p1 : Nat) (p2 : Int32) (p3 : Int32) (p4 : Int32) (μ : MM) (hp1 : isI g p1) {r : Int32 × MM} (hF : f_X7_into p1 p2 p3 p4 μ = some r) : Ct g 2 mi_X7_into [.ref 144, .ref p1, .int p2, .int p3, .int p4] μ (QI r.1 r.2) := by
  refine ct_of (k := 1) (by decide +kernel) rfl hg.1 rfl ?_
  show WA g 2 mi_X7_into 0 [some (.ref 144), some (.ref p1), some (.int p2), some (.int p3), some (.int p4), none] [] μ (QI r.1 r.2)
  unfold f_X7_into at hF
  refine a_aload_0 dX7_into_0 ?_
  refine a_iload_3 dX7_into_1 ?_
  refine a_iload_4 dX7_into_2 ?_
  obtain ⟨x1, ex1, hF⟩ := ob_e hF
  refine a_iV2 dX7_into_4 cv_X7_119 (ct_X7_takeNumber hg p3 p4 μ ex1) (by decide) (hg.d (by decide)) rfl (Nat.le_of_ble_eq_true rfl) ?_
  refine a_istore_5 dX7_into_7 (by decide) rfl ?_
  refine a_aload_1 dX7_into_9 ?_
  refine a_iload_2 dX7_into_10 ?_
  refine a_aload_0 dX7_into_11 ?_
  refine a_getI dX7_into_12 fa_X7_116 (hg.d (by decide)) rfl rfl ?_
  obtain ⟨hx15, hF⟩ := gd_e hF
  obtain ⟨μ2, eμ2, hF⟩ := bd_e hF
  refine a_sI eμ2 dX7_into_15 hp1.1 hp1.2.2 hx15 rfl ?_
  refine a_iload_5 dX7_into_16 ?_
  obtain rfl := Option.some.inj hF
  exact a_iret dX7_into_18 rfl ⟨rfl, rfl⟩
set_option maxHeartbeats 4000000 in
set_option maxRecDepth 100000 in
theorem ct_X7_takeBeck {g : GT} (hg : GR g)  (μ : MM)  {r : Int32 × MM} (hF : f_X7_takeBeck  μ = some r) : Ct g 2 mi_X7_takeBeck [.ref 144] μ (QI r.1 r.2) := by
  refine ct_of (k := 1) (by decide +kernel) rfl hg.1 rfl ?_
  show WA g 2 mi_X7_takeBeck 0 [some (.ref 144), none] [] μ (QI r.1 r.2)
  unfold f_X7_takeBeck at hF
  refine a_aload_0 dX7_takeBeck_0 ?_
  refine a_iconst (v := 2) dX7_takeBeck_1 (by decide) ?_
  refine a_bipush (v := 9) dX7_takeBeck_2 (by decide) ?_
  obtain ⟨x1, ex1, hF⟩ := ob_e hF
  refine a_iV2 dX7_takeBeck_4 cv_X7_119 (ct_X7_takeNumber hg 2 9 μ ex1) (by decide) (hg.d (by decide)) rfl (Nat.le_of_ble_eq_true rfl) ?_
  refine a_istore_1 dX7_takeBeck_7 (by decide) rfl ?_
  refine a_aload_0 dX7_takeBeck_8 ?_
  refine a_aload_0 dX7_takeBeck_9 ?_
  refine a_getI dX7_takeBeck_10 fa_X7_116 (hg.d (by decide)) rfl rfl ?_
  obtain ⟨μ2, eμ2, hF⟩ := bd_e hF
  refine a_pI eμ2 dX7_takeBeck_13 fp_X7_122 (hg.d (by decide)) rfl rfl ?_
  refine a_aload_0 dX7_takeBeck_16 ?_
  refine a_iconst (v := 1) dX7_takeBeck_17 (by decide) ?_
  obtain ⟨μ3, eμ3, hF⟩ := bd_e hF
  refine a_pI eμ3 dX7_takeBeck_18 fp_X7_125 (hg.d (by decide)) rfl rfl ?_
  refine a_iload_1 dX7_takeBeck_21 ?_
  obtain ⟨j4, ej22, hF⟩ := ob_e hF
  have KJ22 : WA g 2 mi_X7_takeBeck 36 [some (.ref 144), some (.int x1.1)] [.int j4.1] j4.2 (QI r.1 r.2) := by
    obtain ⟨v6, ev6, hF⟩ := bd_e hF
    refine a_nm ev6 ?_
    refine a_istore_1 dX7_takeBeck_36 (by decide) rfl ?_
    refine a_aload_0 dX7_takeBeck_37 ?_
    refine a_aload_0 dX7_takeBeck_38 ?_
    refine a_getI dX7_takeBeck_39 fa_X7_116 (hg.d (by decide)) rfl rfl ?_
    obtain ⟨μ7, eμ7, hF⟩ := bd_e hF
    refine a_pI eμ7 dX7_takeBeck_42 fp_X7_128 (hg.d (by decide)) rfl rfl ?_
    refine a_iload_1 dX7_takeBeck_45 ?_
    obtain rfl := Option.some.inj hF
    exact a_iret dX7_takeBeck_46 rfl ⟨rfl, rfl⟩
  refine a_if_le (tgt := 29) dX7_takeBeck_22 (by decide) (fun h22 => ?_) (fun h22 => ?_)
  · rw [if_pos h22] at ej22
    refine a_aload_0 dX7_takeBeck_29 ?_
    refine a_iconst (v := 0) dX7_takeBeck_30 (by decide) ?_
    refine a_bipush (v := 9) dX7_takeBeck_31 (by decide) ?_
    obtain ⟨x5, ex5, ej22⟩ := ob_e ej22
    refine a_iV2 dX7_takeBeck_33 cv_X7_119 (ct_X7_takeNumber hg 0 9 μ3 ex5) (by decide) (hg.d (by decide)) rfl (Nat.le_of_ble_eq_true rfl) ?_
    obtain rfl := Option.some.inj ej22
    exact KJ22
  · rw [if_neg h22] at ej22
    refine a_iload_1 dX7_takeBeck_25 ?_
    refine a_goto (tgt := 36) dX7_takeBeck_26 (by decide) ?_
    obtain rfl := Option.some.inj ej22
    exact KJ22
set_option maxHeartbeats 4000000 in
set_option maxRecDepth 100000 in
theorem ct_X7_takeFarm {g : GT} (hg : GR g)  (μ : MM)  {r : Int32 × MM} (hF : f_X7_takeFarm  μ = some r) : Ct g 3 mi_X7_takeFarm [.ref 144] μ (QI r.1 r.2) := by
  refine ct_of (k := 2) (by decide +kernel) rfl hg.1 rfl ?_
  show WA g 3 mi_X7_takeFarm 0 [some (.ref 144), none, none] [] μ (QI r.1 r.2)
  unfold f_X7_takeFarm at hF
  refine a_aload_0 dX7_takeFarm_0 ?_
  refine a_getI dX7_takeFarm_1 fa_X7_125 (hg.d (by decide)) rfl rfl ?_
  obtain ⟨v1, ev1, hF⟩ := bd_e hF
  refine a_nm ev1 ?_
  refine a_istore_1 dX7_takeFarm_4 (by decide) rfl ?_
  refine a_aload_0 dX7_takeFarm_5 ?_
  refine a_aload_0 dX7_takeFarm_6 ?_
  refine a_getR (q := 151) dX7_takeFarm_7 fa_X7_32 (hg.d (by decide)) rfl rfl ?_
  refine a_iload_1 dX7_takeFarm_10 ?_
  refine a_iconst (v := 0) dX7_takeFarm_11 (by decide) ?_
  refine a_iload_1 dX7_takeFarm_12 ?_
  refine a_iconst (v := 1) dX7_takeFarm_13 (by decide) ?_
  refine a_isub dX7_takeFarm_14 ?_
  obtain ⟨x2, ex2, hF⟩ := ob_e hF
  refine a_iV4 dX7_takeFarm_15 cv_X7_131 (ct_X7_into hg 151 v1 0 (v1 - 1) μ ⟨hg.d (by decide), by decide, rfl⟩ ex2) (by decide) (hg.d (by decide)) rfl (Nat.le_of_ble_eq_true rfl) ?_
  refine a_istore_2 dX7_takeFarm_18 (by decide) rfl ?_
  refine a_aload_0 dX7_takeFarm_19 ?_
  refine a_dup dX7_takeFarm_20 rfl ?_
  refine a_getI dX7_takeFarm_21 fa_X7_125 (hg.d (by decide)) rfl rfl ?_
  refine a_iconst (v := 1) dX7_takeFarm_24 (by decide) ?_
  refine a_iadd dX7_takeFarm_25 ?_
  obtain ⟨μ3, eμ3, hF⟩ := bd_e hF
  refine a_pI eμ3 dX7_takeFarm_26 fp_X7_125 (hg.d (by decide)) rfl rfl ?_
  refine a_iload_2 dX7_takeFarm_29 ?_
  obtain ⟨j4, ej30, hF⟩ := ob_e hF
  have KJ30 : WA g 3 mi_X7_takeFarm 49 [some (.ref 144), some (.int v1), some (.int x2.1)] [.int j4.1] j4.2 (QI r.1 r.2) := by
    obtain ⟨v6, ev6, hF⟩ := bd_e hF
    refine a_nm ev6 ?_
    refine a_istore_2 dX7_takeFarm_49 (by decide) rfl ?_
    refine a_iload_2 dX7_takeFarm_50 ?_
    obtain ⟨j7, ej51, hF⟩ := ob_e hF
    have KJ51 : WA g 3 mi_X7_takeFarm 69 [some (.ref 144), some (.int v1), some (.int v6)] [.int j7.1] j7.2 (QI r.1 r.2) := by
      obtain ⟨v9, ev9, hF⟩ := bd_e hF
      refine a_nm ev9 ?_
      refine a_istore_2 dX7_takeFarm_69 (by decide) rfl ?_
      refine a_iload_2 dX7_takeFarm_70 ?_
      refine a_if_le (tgt := 78) dX7_takeFarm_71 (by decide) (fun h71 => ?_) (fun h71 => ?_)
      · rw [if_pos h71] at hF
        refine a_aload_0 dX7_takeFarm_78 ?_
        refine a_aload_0 dX7_takeFarm_79 ?_
        refine a_getR (q := 154) dX7_takeFarm_80 fa_X7_41 (hg.d (by decide)) rfl rfl ?_
        refine a_iload_1 dX7_takeFarm_83 ?_
        refine a_iconst (v := 0) dX7_takeFarm_84 (by decide) ?_
        refine a_aload_0 dX7_takeFarm_85 ?_
        refine a_getI dX7_takeFarm_86 fa_X7_122 (hg.d (by decide)) rfl rfl ?_
        refine a_iconst (v := 1) dX7_takeFarm_89 (by decide) ?_
        refine a_isub dX7_takeFarm_90 ?_
        obtain ⟨x10, ex10, hF⟩ := ob_e hF
        refine a_iV4 dX7_takeFarm_91 cv_X7_131 (ct_X7_into hg 154 v1 0 ((j7.2 144 15) - 1) j7.2 ⟨hg.d (by decide), by decide, rfl⟩ ex10) (by decide) (hg.d (by decide)) rfl (Nat.le_of_ble_eq_true rfl) ?_
        obtain rfl := Option.some.inj hF
        exact a_iret dX7_takeFarm_94 rfl ⟨rfl, rfl⟩
      · rw [if_neg h71] at hF
        refine a_iload_2 dX7_takeFarm_74 ?_
        refine a_goto (tgt := 94) dX7_takeFarm_75 (by decide) ?_
        obtain rfl := Option.some.inj hF
        exact a_iret dX7_takeFarm_94 rfl ⟨rfl, rfl⟩
    refine a_if_le (tgt := 58) dX7_takeFarm_51 (by decide) (fun h51 => ?_) (fun h51 => ?_)
    · rw [if_pos h51] at ej51
      refine a_aload_0 dX7_takeFarm_58 ?_
      refine a_aload_0 dX7_takeFarm_59 ?_
      refine a_getR (q := 153) dX7_takeFarm_60 fa_X7_38 (hg.d (by decide)) rfl rfl ?_
      refine a_iload_1 dX7_takeFarm_63 ?_
      refine a_iconst (v := 0) dX7_takeFarm_64 (by decide) ?_
      refine a_iconst (v := 4) dX7_takeFarm_65 (by decide) ?_
      obtain ⟨x8, ex8, ej51⟩ := ob_e ej51
      refine a_iV4 dX7_takeFarm_66 cv_X7_131 (ct_X7_into hg 153 v1 0 4 j4.2 ⟨hg.d (by decide), by decide, rfl⟩ ex8) (by decide) (hg.d (by decide)) rfl (Nat.le_of_ble_eq_true rfl) ?_
      obtain rfl := Option.some.inj ej51
      exact KJ51
    · rw [if_neg h51] at ej51
      refine a_iload_2 dX7_takeFarm_54 ?_
      refine a_goto (tgt := 69) dX7_takeFarm_55 (by decide) ?_
      obtain rfl := Option.some.inj ej51
      exact KJ51
  refine a_if_le (tgt := 37) dX7_takeFarm_30 (by decide) (fun h30 => ?_) (fun h30 => ?_)
  · rw [if_pos h30] at ej30
    refine a_aload_0 dX7_takeFarm_37 ?_
    refine a_aload_0 dX7_takeFarm_38 ?_
    refine a_getR (q := 152) dX7_takeFarm_39 fa_X7_35 (hg.d (by decide)) rfl rfl ?_
    refine a_iload_1 dX7_takeFarm_42 ?_
    refine a_iconst (v := 1) dX7_takeFarm_43 (by decide) ?_
    refine a_bipush (v := 9) dX7_takeFarm_44 (by decide) ?_
    obtain ⟨x5, ex5, ej30⟩ := ob_e ej30
    refine a_iV4 dX7_takeFarm_46 cv_X7_131 (ct_X7_into hg 152 v1 1 9 μ3 ⟨hg.d (by decide), by decide, rfl⟩ ex5) (by decide) (hg.d (by decide)) rfl (Nat.le_of_ble_eq_true rfl) ?_
    obtain rfl := Option.some.inj ej30
    exact KJ30
  · rw [if_neg h30] at ej30
    refine a_iload_2 dX7_takeFarm_33 ?_
    refine a_goto (tgt := 49) dX7_takeFarm_34 (by decide) ?_
    obtain rfl := Option.some.inj ej30
    exact KJ30
set_option maxHeartbeats 4000000 in
set_option maxRecDepth 100000 in
theorem ct_X7_takeClause {g : GT} (hg : GR g)  (μ : MM)  {r : Int32 × MM} (hF : f_X7_takeClause  μ = some r) : Ct g 4 mi_X7_takeClause [.ref 144] μ (QI r.1 r.2) := by
  refine ct_of (k := 4) (by decide +kernel) rfl hg.1 rfl ?_
  show WA g 4 mi_X7_takeClause 0 [some (.ref 144), none, none, none, none] [] μ (QI r.1 r.2)
  unfold f_X7_takeClause at hF
  refine a_aload_0 dX7_takeClause_0 ?_
  obtain ⟨x1, ex1, hF⟩ := ob_e hF
  refine a_iV0 dX7_takeClause_1 cv_X7_101 (ct_X7_here hg μ ex1) (by decide) (hg.d (by decide)) rfl (Nat.le_of_ble_eq_true rfl) ?_
  refine a_istore_1 dX7_takeClause_4 (by decide) rfl ?_
  refine a_iload_1 dX7_takeClause_5 ?_
  refine a_bipush (v := 98) dX7_takeClause_6 (by decide) ?_
  obtain ⟨j2, ej8, hF⟩ := bd_e hF
  replace ej8 := ej8.symm
  have KJ8 : WA g 4 mi_X7_takeClause 26 [some (.ref 144), some (.int x1.1), none, none, none] [.int j2] x1.2 (QI r.1 r.2) := by
    refine a_istore_2 dX7_takeClause_26 (by decide) rfl ?_
    refine a_iload_2 dX7_takeClause_27 ?_
    refine a_if_lt (tgt := 43) dX7_takeClause_28 (by decide) (fun h28 => ?_) (fun h28 => ?_)
    · rw [if_pos h28] at hF
      refine a_aload_0 dX7_takeClause_43 ?_
      refine a_iconst (v := 1) dX7_takeClause_44 (by decide) ?_
      refine a_aload_0 dX7_takeClause_45 ?_
      refine a_getI dX7_takeClause_46 fa_X7_98 (hg.d (by decide)) rfl rfl ?_
      obtain ⟨x3, ex3, hF⟩ := bd_e hF
      refine a_iV2 dX7_takeClause_49 cv_X7_109 (ct_X7_fails hg 1 (x1.2 144 12) x1.2 ex3.symm) (by decide) (hg.d (by decide)) rfl (Nat.le_of_ble_eq_true rfl) ?_
      obtain rfl := Option.some.inj hF
      exact a_iret dX7_takeClause_52 rfl ⟨rfl, rfl⟩
    · rw [if_neg h28] at hF
      refine a_iload_2 dX7_takeClause_31 ?_
      refine a_iconst (v := 1) dX7_takeClause_32 (by decide) ?_
      refine a_icmp_ne (tgt := 53) dX7_takeClause_33 (by decide) (fun h33 => ?_) (fun h33 => ?_)
      · rw [if_neg h33] at hF
        refine a_iload_2 dX7_takeClause_53 ?_
        obtain ⟨j4, ej54, hF⟩ := bd_e hF
        replace ej54 := ej54.symm
        have KJ54 : WA g 4 mi_X7_takeClause 86 [some (.ref 144), some (.int x1.1), some (.int j2), none, none] [.int j4] x1.2 (QI r.1 r.2) := by
          refine a_istore_3 dX7_takeClause_86 (by decide) rfl ?_
          refine a_iload_3 dX7_takeClause_87 ?_
          refine a_if_eq (tgt := 101) dX7_takeClause_88 (by decide) (fun h88 => ?_) (fun h88 => ?_)
          · rw [if_pos h88] at hF
            refine a_aload_0 dX7_takeClause_101 ?_
            refine a_dup dX7_takeClause_102 rfl ?_
            refine a_getI dX7_takeClause_103 fa_X7_98 (hg.d (by decide)) rfl rfl ?_
            refine a_iconst (v := 1) dX7_takeClause_106 (by decide) ?_
            refine a_iadd dX7_takeClause_107 ?_
            obtain ⟨μ5, eμ5, hF⟩ := bd_e hF
            refine a_pI eμ5 dX7_takeClause_108 fp_X7_98 (hg.d (by decide)) rfl rfl ?_
            refine a_iload_2 dX7_takeClause_111 ?_
            obtain ⟨j6, ej112, hF⟩ := ob_e hF
            have KJ112 : WA g 4 mi_X7_takeClause 126 [some (.ref 144), some (.int x1.1), some (.int j2), some (.int j4), none] [.int j6.1] j6.2 (QI r.1 r.2) := by
              obtain ⟨v9, ev9, hF⟩ := bd_e hF
              refine a_nm ev9 ?_
              refine a_istore_4 dX7_takeClause_126 (by decide) rfl ?_
              refine a_iload_4 dX7_takeClause_128 ?_
              refine a_if_ne (tgt := 152) dX7_takeClause_130 (by decide) (fun h130 => ?_) (fun h130 => ?_)
              · rw [if_neg h130] at hF
                refine a_aload_0 dX7_takeClause_152 ?_
                refine a_dup dX7_takeClause_153 rfl ?_
                refine a_getI dX7_takeClause_154 fa_X7_98 (hg.d (by decide)) rfl rfl ?_
                refine a_iconst (v := 1) dX7_takeClause_157 (by decide) ?_
                refine a_iadd dX7_takeClause_158 ?_
                obtain ⟨μ10, eμ10, hF⟩ := bd_e hF
                refine a_pI eμ10 dX7_takeClause_159 fp_X7_98 (hg.d (by decide)) rfl rfl ?_
                refine a_iload_4 dX7_takeClause_162 ?_
                obtain rfl := Option.some.inj hF
                exact a_iret dX7_takeClause_164 rfl ⟨rfl, rfl⟩
              · rw [if_pos h130] at hF
                refine a_aload_0 dX7_takeClause_133 ?_
                obtain ⟨x11, ex11, hF⟩ := ob_e hF
                refine a_iV0 dX7_takeClause_134 cv_X7_101 (ct_X7_here hg j6.2 ex11) (by decide) (hg.d (by decide)) rfl (Nat.le_of_ble_eq_true rfl) ?_
                refine a_bipush (v := 59) dX7_takeClause_137 (by decide) ?_
                refine a_icmp_eq (tgt := 152) dX7_takeClause_139 (by decide) (fun h139 => ?_) (fun h139 => ?_)
                · rw [if_pos h139] at hF
                  refine a_aload_0 dX7_takeClause_152 ?_
                  refine a_dup dX7_takeClause_153 rfl ?_
                  refine a_getI dX7_takeClause_154 fa_X7_98 (hg.d (by decide)) rfl rfl ?_
                  refine a_iconst (v := 1) dX7_takeClause_157 (by decide) ?_
                  refine a_iadd dX7_takeClause_158 ?_
                  obtain ⟨μ12, eμ12, hF⟩ := bd_e hF
                  refine a_pI eμ12 dX7_takeClause_159 fp_X7_98 (hg.d (by decide)) rfl rfl ?_
                  refine a_iload_4 dX7_takeClause_162 ?_
                  obtain rfl := Option.some.inj hF
                  exact a_iret dX7_takeClause_164 rfl ⟨rfl, rfl⟩
                · rw [if_neg h139] at hF
                  refine a_aload_0 dX7_takeClause_142 ?_
                  refine a_iconst (v := 1) dX7_takeClause_143 (by decide) ?_
                  refine a_aload_0 dX7_takeClause_144 ?_
                  refine a_getI dX7_takeClause_145 fa_X7_98 (hg.d (by decide)) rfl rfl ?_
                  obtain ⟨x13, ex13, hF⟩ := bd_e hF
                  refine a_iV2 dX7_takeClause_148 cv_X7_109 (ct_X7_fails hg 1 (x11.2 144 12) x11.2 ex13.symm) (by decide) (hg.d (by decide)) rfl (Nat.le_of_ble_eq_true rfl) ?_
                  obtain rfl := Option.some.inj hF
                  exact a_iret dX7_takeClause_151 rfl ⟨rfl, rfl⟩
            refine a_if_ne (tgt := 122) dX7_takeClause_112 (by decide) (fun h112 => ?_) (fun h112 => ?_)
            · rw [if_neg h112] at ej112
              refine a_aload_0 dX7_takeClause_122 ?_
              obtain ⟨x7, ex7, ej112⟩ := ob_e ej112
              refine a_iV0 dX7_takeClause_123 cv_X7_138 (ct_X7_takeFarm hg μ5 ex7) (by decide) (hg.d (by decide)) rfl (Nat.le_of_ble_eq_true rfl) ?_
              obtain rfl := Option.some.inj ej112
              exact KJ112
            · rw [if_pos h112] at ej112
              refine a_aload_0 dX7_takeClause_115 ?_
              obtain ⟨x8, ex8, ej112⟩ := ob_e ej112
              refine a_iV0 dX7_takeClause_116 cv_X7_135 (ct_X7_takeBeck hg μ5 ex8) (by decide) (hg.d (by decide)) rfl (Nat.le_of_ble_eq_true rfl) ?_
              refine a_goto (tgt := 126) dX7_takeClause_119 (by decide) ?_
              obtain rfl := Option.some.inj ej112
              exact KJ112
          · rw [if_neg h88] at hF
            refine a_aload_0 dX7_takeClause_91 ?_
            refine a_iconst (v := 3) dX7_takeClause_92 (by decide) ?_
            refine a_aload_0 dX7_takeClause_93 ?_
            refine a_getI dX7_takeClause_94 fa_X7_98 (hg.d (by decide)) rfl rfl ?_
            obtain ⟨x14, ex14, hF⟩ := bd_e hF
            refine a_iV2 dX7_takeClause_97 cv_X7_109 (ct_X7_fails hg 3 (x1.2 144 12) x1.2 ex14.symm) (by decide) (hg.d (by decide)) rfl (Nat.le_of_ble_eq_true rfl) ?_
            obtain rfl := Option.some.inj hF
            exact a_iret dX7_takeClause_100 rfl ⟨rfl, rfl⟩
        refine a_if_ne (tgt := 72) dX7_takeClause_54 (by decide) (fun h54 => ?_) (fun h54 => ?_)
        · rw [if_neg h54] at ej54
          refine a_aload_0 dX7_takeClause_72 ?_
          refine a_getI dX7_takeClause_73 fa_X7_125 (hg.d (by decide)) rfl rfl ?_
          refine a_bipush (v := 9) dX7_takeClause_76 (by decide) ?_
          refine a_icmp_ne (tgt := 85) dX7_takeClause_78 (by decide) (fun h78 => ?_) (fun h78 => ?_)
          · rw [if_neg h78] at ej54
            refine a_iconst (v := 0) dX7_takeClause_85 (by decide) ?_
            subst ej54
            exact KJ54
          · rw [if_pos h78] at ej54
            refine a_iconst (v := 1) dX7_takeClause_81 (by decide) ?_
            refine a_goto (tgt := 86) dX7_takeClause_82 (by decide) ?_
            subst ej54
            exact KJ54
        · rw [if_pos h54] at ej54
          refine a_aload_0 dX7_takeClause_57 ?_
          refine a_getI dX7_takeClause_58 fa_X7_125 (hg.d (by decide)) rfl rfl ?_
          refine a_if_le (tgt := 68) dX7_takeClause_61 (by decide) (fun h61 => ?_) (fun h61 => ?_)
          · rw [if_pos h61] at ej54
            refine a_iconst (v := 0) dX7_takeClause_68 (by decide) ?_
            refine a_goto (tgt := 86) dX7_takeClause_69 (by decide) ?_
            subst ej54
            exact KJ54
          · rw [if_neg h61] at ej54
            refine a_iconst (v := 1) dX7_takeClause_64 (by decide) ?_
            refine a_goto (tgt := 86) dX7_takeClause_65 (by decide) ?_
            subst ej54
            exact KJ54
      · rw [if_pos h33] at hF
        refine a_aload_0 dX7_takeClause_36 ?_
        refine a_getI dX7_takeClause_37 fa_X7_125 (hg.d (by decide)) rfl rfl ?_
        refine a_if_ne (tgt := 53) dX7_takeClause_40 (by decide) (fun h40 => ?_) (fun h40 => ?_)
        · rw [if_neg h40] at hF
          refine a_iload_2 dX7_takeClause_53 ?_
          obtain ⟨j15, ej54, hF⟩ := bd_e hF
          replace ej54 := ej54.symm
          have KJ54 : WA g 4 mi_X7_takeClause 86 [some (.ref 144), some (.int x1.1), some (.int j2), none, none] [.int j15] x1.2 (QI r.1 r.2) := by
            refine a_istore_3 dX7_takeClause_86 (by decide) rfl ?_
            refine a_iload_3 dX7_takeClause_87 ?_
            refine a_if_eq (tgt := 101) dX7_takeClause_88 (by decide) (fun h88 => ?_) (fun h88 => ?_)
            · rw [if_pos h88] at hF
              refine a_aload_0 dX7_takeClause_101 ?_
              refine a_dup dX7_takeClause_102 rfl ?_
              refine a_getI dX7_takeClause_103 fa_X7_98 (hg.d (by decide)) rfl rfl ?_
              refine a_iconst (v := 1) dX7_takeClause_106 (by decide) ?_
              refine a_iadd dX7_takeClause_107 ?_
              obtain ⟨μ16, eμ16, hF⟩ := bd_e hF
              refine a_pI eμ16 dX7_takeClause_108 fp_X7_98 (hg.d (by decide)) rfl rfl ?_
              refine a_iload_2 dX7_takeClause_111 ?_
              obtain ⟨j17, ej112, hF⟩ := ob_e hF
              have KJ112 : WA g 4 mi_X7_takeClause 126 [some (.ref 144), some (.int x1.1), some (.int j2), some (.int j15), none] [.int j17.1] j17.2 (QI r.1 r.2) := by
                obtain ⟨v20, ev20, hF⟩ := bd_e hF
                refine a_nm ev20 ?_
                refine a_istore_4 dX7_takeClause_126 (by decide) rfl ?_
                refine a_iload_4 dX7_takeClause_128 ?_
                refine a_if_ne (tgt := 152) dX7_takeClause_130 (by decide) (fun h130 => ?_) (fun h130 => ?_)
                · rw [if_neg h130] at hF
                  refine a_aload_0 dX7_takeClause_152 ?_
                  refine a_dup dX7_takeClause_153 rfl ?_
                  refine a_getI dX7_takeClause_154 fa_X7_98 (hg.d (by decide)) rfl rfl ?_
                  refine a_iconst (v := 1) dX7_takeClause_157 (by decide) ?_
                  refine a_iadd dX7_takeClause_158 ?_
                  obtain ⟨μ21, eμ21, hF⟩ := bd_e hF
                  refine a_pI eμ21 dX7_takeClause_159 fp_X7_98 (hg.d (by decide)) rfl rfl ?_
                  refine a_iload_4 dX7_takeClause_162 ?_
                  obtain rfl := Option.some.inj hF
                  exact a_iret dX7_takeClause_164 rfl ⟨rfl, rfl⟩
                · rw [if_pos h130] at hF
                  refine a_aload_0 dX7_takeClause_133 ?_
                  obtain ⟨x22, ex22, hF⟩ := ob_e hF
                  refine a_iV0 dX7_takeClause_134 cv_X7_101 (ct_X7_here hg j17.2 ex22) (by decide) (hg.d (by decide)) rfl (Nat.le_of_ble_eq_true rfl) ?_
                  refine a_bipush (v := 59) dX7_takeClause_137 (by decide) ?_
                  refine a_icmp_eq (tgt := 152) dX7_takeClause_139 (by decide) (fun h139 => ?_) (fun h139 => ?_)
                  · rw [if_pos h139] at hF
                    refine a_aload_0 dX7_takeClause_152 ?_
                    refine a_dup dX7_takeClause_153 rfl ?_
                    refine a_getI dX7_takeClause_154 fa_X7_98 (hg.d (by decide)) rfl rfl ?_
                    refine a_iconst (v := 1) dX7_takeClause_157 (by decide) ?_
                    refine a_iadd dX7_takeClause_158 ?_
                    obtain ⟨μ23, eμ23, hF⟩ := bd_e hF
                    refine a_pI eμ23 dX7_takeClause_159 fp_X7_98 (hg.d (by decide)) rfl rfl ?_
                    refine a_iload_4 dX7_takeClause_162 ?_
                    obtain rfl := Option.some.inj hF
                    exact a_iret dX7_takeClause_164 rfl ⟨rfl, rfl⟩
                  · rw [if_neg h139] at hF
                    refine a_aload_0 dX7_takeClause_142 ?_
                    refine a_iconst (v := 1) dX7_takeClause_143 (by decide) ?_
                    refine a_aload_0 dX7_takeClause_144 ?_
                    refine a_getI dX7_takeClause_145 fa_X7_98 (hg.d (by decide)) rfl rfl ?_
                    obtain ⟨x24, ex24, hF⟩ := bd_e hF
                    refine a_iV2 dX7_takeClause_148 cv_X7_109 (ct_X7_fails hg 1 (x22.2 144 12) x22.2 ex24.symm) (by decide) (hg.d (by decide)) rfl (Nat.le_of_ble_eq_true rfl) ?_
                    obtain rfl := Option.some.inj hF
                    exact a_iret dX7_takeClause_151 rfl ⟨rfl, rfl⟩
              refine a_if_ne (tgt := 122) dX7_takeClause_112 (by decide) (fun h112 => ?_) (fun h112 => ?_)
              · rw [if_neg h112] at ej112
                refine a_aload_0 dX7_takeClause_122 ?_
                obtain ⟨x18, ex18, ej112⟩ := ob_e ej112
                refine a_iV0 dX7_takeClause_123 cv_X7_138 (ct_X7_takeFarm hg μ16 ex18) (by decide) (hg.d (by decide)) rfl (Nat.le_of_ble_eq_true rfl) ?_
                obtain rfl := Option.some.inj ej112
                exact KJ112
              · rw [if_pos h112] at ej112
                refine a_aload_0 dX7_takeClause_115 ?_
                obtain ⟨x19, ex19, ej112⟩ := ob_e ej112
                refine a_iV0 dX7_takeClause_116 cv_X7_135 (ct_X7_takeBeck hg μ16 ex19) (by decide) (hg.d (by decide)) rfl (Nat.le_of_ble_eq_true rfl) ?_
                refine a_goto (tgt := 126) dX7_takeClause_119 (by decide) ?_
                obtain rfl := Option.some.inj ej112
                exact KJ112
            · rw [if_neg h88] at hF
              refine a_aload_0 dX7_takeClause_91 ?_
              refine a_iconst (v := 3) dX7_takeClause_92 (by decide) ?_
              refine a_aload_0 dX7_takeClause_93 ?_
              refine a_getI dX7_takeClause_94 fa_X7_98 (hg.d (by decide)) rfl rfl ?_
              obtain ⟨x25, ex25, hF⟩ := bd_e hF
              refine a_iV2 dX7_takeClause_97 cv_X7_109 (ct_X7_fails hg 3 (x1.2 144 12) x1.2 ex25.symm) (by decide) (hg.d (by decide)) rfl (Nat.le_of_ble_eq_true rfl) ?_
              obtain rfl := Option.some.inj hF
              exact a_iret dX7_takeClause_100 rfl ⟨rfl, rfl⟩
          refine a_if_ne (tgt := 72) dX7_takeClause_54 (by decide) (fun h54 => ?_) (fun h54 => ?_)
          · rw [if_neg h54] at ej54
            refine a_aload_0 dX7_takeClause_72 ?_
            refine a_getI dX7_takeClause_73 fa_X7_125 (hg.d (by decide)) rfl rfl ?_
            refine a_bipush (v := 9) dX7_takeClause_76 (by decide) ?_
            refine a_icmp_ne (tgt := 85) dX7_takeClause_78 (by decide) (fun h78 => ?_) (fun h78 => ?_)
            · rw [if_neg h78] at ej54
              refine a_iconst (v := 0) dX7_takeClause_85 (by decide) ?_
              subst ej54
              exact KJ54
            · rw [if_pos h78] at ej54
              refine a_iconst (v := 1) dX7_takeClause_81 (by decide) ?_
              refine a_goto (tgt := 86) dX7_takeClause_82 (by decide) ?_
              subst ej54
              exact KJ54
          · rw [if_pos h54] at ej54
            refine a_aload_0 dX7_takeClause_57 ?_
            refine a_getI dX7_takeClause_58 fa_X7_125 (hg.d (by decide)) rfl rfl ?_
            refine a_if_le (tgt := 68) dX7_takeClause_61 (by decide) (fun h61 => ?_) (fun h61 => ?_)
            · rw [if_pos h61] at ej54
              refine a_iconst (v := 0) dX7_takeClause_68 (by decide) ?_
              refine a_goto (tgt := 86) dX7_takeClause_69 (by decide) ?_
              subst ej54
              exact KJ54
            · rw [if_neg h61] at ej54
              refine a_iconst (v := 1) dX7_takeClause_64 (by decide) ?_
              refine a_goto (tgt := 86) dX7_takeClause_65 (by decide) ?_
              subst ej54
              exact KJ54
        · rw [if_pos h40] at hF
          refine a_aload_0 dX7_takeClause_43 ?_
          refine a_iconst (v := 1) dX7_takeClause_44 (by decide) ?_
          refine a_aload_0 dX7_takeClause_45 ?_
          refine a_getI dX7_takeClause_46 fa_X7_98 (hg.d (by decide)) rfl rfl ?_
          obtain ⟨x26, ex26, hF⟩ := bd_e hF
          refine a_iV2 dX7_takeClause_49 cv_X7_109 (ct_X7_fails hg 1 (x1.2 144 12) x1.2 ex26.symm) (by decide) (hg.d (by decide)) rfl (Nat.le_of_ble_eq_true rfl) ?_
          obtain rfl := Option.some.inj hF
          exact a_iret dX7_takeClause_52 rfl ⟨rfl, rfl⟩
  refine a_icmp_ne (tgt := 15) dX7_takeClause_8 (by decide) (fun h8 => ?_) (fun h8 => ?_)
  · rw [if_neg h8] at ej8
    refine a_iload_1 dX7_takeClause_15 ?_
    refine a_bipush (v := 102) dX7_takeClause_16 (by decide) ?_
    refine a_icmp_ne (tgt := 25) dX7_takeClause_18 (by decide) (fun h18 => ?_) (fun h18 => ?_)
    · rw [if_neg h18] at ej8
      refine a_iconst (v := (-1)) dX7_takeClause_25 (by decide) ?_
      subst ej8
      exact KJ8
    · rw [if_pos h18] at ej8
      refine a_iconst (v := 1) dX7_takeClause_21 (by decide) ?_
      refine a_goto (tgt := 26) dX7_takeClause_22 (by decide) ?_
      subst ej8
      exact KJ8
  · rw [if_pos h8] at ej8
    refine a_iconst (v := 0) dX7_takeClause_11 (by decide) ?_
    refine a_goto (tgt := 26) dX7_takeClause_12 (by decide) ?_
    subst ej8
    exact KJ8
set_option maxHeartbeats 4000000 in
set_option maxRecDepth 100000 in
theorem ct_X7_takeRead_L52 {g : GT} (hg : GR g)   {Q : Option Value → MM → Prop} : ∀ (n : Nat) (l1 : Int32) (μ : MM) (z : Int32 × MM), f_X7_takeRead_L52  n l1 μ = some z → (WA g 1 mi_X7_takeRead 128 [some (.ref 144), some (.int z.1)] [] z.2 Q) → WA g 1 mi_X7_takeRead 52 [some (.ref 144), some (.int l1)] [] μ Q := by
  intro n
  induction n with
  | zero => intro l1 μ z hF; exact absurd hF (by simp [f_X7_takeRead_L52])
  | succ n ih =>
    intro l1 μ z hF K
    unfold f_X7_takeRead_L52 at hF
    refine a_iload_1 dX7_takeRead_52 ?_
    refine a_aload_0 dX7_takeRead_53 ?_
    refine a_getI dX7_takeRead_54 fa_X7_81 (hg.d (by decide)) rfl rfl ?_
    refine a_icmp_ge (tgt := 128) dX7_takeRead_57 (by decide) (fun h57 => ?_) (fun h57 => ?_)
    · rw [if_pos h57] at hF
      obtain rfl := Option.some.inj hF
      exact K
    · rw [if_neg h57] at hF
      refine a_aload_0 dX7_takeRead_60 ?_
      refine a_getR (q := 145) dX7_takeRead_61 fa_X7_7 (hg.d (by decide)) rfl rfl ?_
      refine a_iload_1 dX7_takeRead_64 ?_
      refine a_aload_0 dX7_takeRead_65 ?_
      refine a_getR (q := 151) dX7_takeRead_66 fa_X7_32 (hg.d (by decide)) rfl rfl ?_
      refine a_iload_1 dX7_takeRead_69 ?_
      obtain ⟨hx70, hF⟩ := gd_e hF
      refine a_ldC dX7_takeRead_70 (hg.d (by decide)) rfl hx70 rfl ?_
      obtain ⟨hx71, hF⟩ := gd_e hF
      obtain ⟨μ7, eμ7, hF⟩ := bd_e hF
      refine a_sI eμ7 dX7_takeRead_71 (hg.d (by decide)) rfl hx71 rfl ?_
      refine a_aload_0 dX7_takeRead_72 ?_
      refine a_getR (q := 146) dX7_takeRead_73 fa_X7_13 (hg.d (by decide)) rfl rfl ?_
      refine a_iload_1 dX7_takeRead_76 ?_
      refine a_aload_0 dX7_takeRead_77 ?_
      refine a_getR (q := 152) dX7_takeRead_78 fa_X7_35 (hg.d (by decide)) rfl rfl ?_
      refine a_iload_1 dX7_takeRead_81 ?_
      obtain ⟨hx82, hF⟩ := gd_e hF
      refine a_ldC dX7_takeRead_82 (hg.d (by decide)) rfl hx82 rfl ?_
      obtain ⟨hx83, hF⟩ := gd_e hF
      obtain ⟨μ8, eμ8, hF⟩ := bd_e hF
      refine a_sI eμ8 dX7_takeRead_83 (hg.d (by decide)) rfl hx83 rfl ?_
      refine a_aload_0 dX7_takeRead_84 ?_
      refine a_getR (q := 147) dX7_takeRead_85 fa_X7_16 (hg.d (by decide)) rfl rfl ?_
      refine a_iload_1 dX7_takeRead_88 ?_
      refine a_aload_0 dX7_takeRead_89 ?_
      refine a_getR (q := 153) dX7_takeRead_90 fa_X7_38 (hg.d (by decide)) rfl rfl ?_
      refine a_iload_1 dX7_takeRead_93 ?_
      obtain ⟨hx94, hF⟩ := gd_e hF
      refine a_ldC dX7_takeRead_94 (hg.d (by decide)) rfl hx94 rfl ?_
      obtain ⟨hx95, hF⟩ := gd_e hF
      obtain ⟨μ9, eμ9, hF⟩ := bd_e hF
      refine a_sI eμ9 dX7_takeRead_95 (hg.d (by decide)) rfl hx95 rfl ?_
      refine a_aload_0 dX7_takeRead_96 ?_
      refine a_getR (q := 148) dX7_takeRead_97 fa_X7_19 (hg.d (by decide)) rfl rfl ?_
      refine a_iload_1 dX7_takeRead_100 ?_
      refine a_aload_0 dX7_takeRead_101 ?_
      refine a_getR (q := 154) dX7_takeRead_102 fa_X7_41 (hg.d (by decide)) rfl rfl ?_
      refine a_iload_1 dX7_takeRead_105 ?_
      obtain ⟨hx106, hF⟩ := gd_e hF
      refine a_ldC dX7_takeRead_106 (hg.d (by decide)) rfl hx106 rfl ?_
      obtain ⟨hx107, hF⟩ := gd_e hF
      obtain ⟨μ10, eμ10, hF⟩ := bd_e hF
      refine a_sI eμ10 dX7_takeRead_107 (hg.d (by decide)) rfl hx107 rfl ?_
      refine a_aload_0 dX7_takeRead_108 ?_
      refine a_getR (q := 149) dX7_takeRead_109 fa_X7_22 (hg.d (by decide)) rfl rfl ?_
      refine a_iconst (v := 0) dX7_takeRead_112 (by decide) ?_
      refine a_iload_1 dX7_takeRead_113 ?_
      refine a_iadd dX7_takeRead_114 ?_
      refine a_aload_0 dX7_takeRead_115 ?_
      refine a_getR (q := 147) dX7_takeRead_116 fa_X7_16 (hg.d (by decide)) rfl rfl ?_
      refine a_iload_1 dX7_takeRead_119 ?_
      obtain ⟨hx120, hF⟩ := gd_e hF
      refine a_ldC dX7_takeRead_120 (hg.d (by decide)) rfl hx120 rfl ?_
      obtain ⟨hx121, hF⟩ := gd_e hF
      obtain ⟨μ11, eμ11, hF⟩ := bd_e hF
      refine a_sI eμ11 dX7_takeRead_121 (hg.d (by decide)) rfl hx121 rfl ?_
      refine a_iinc_1 (c0 := 1) dX7_takeRead_122 (by decide) (by decide) rfl ?_
      refine a_goto (tgt := 52) dX7_takeRead_125 (by decide) ?_
      exact ih (l1 + 1) μ11 _ hF K
set_option maxHeartbeats 4000000 in
set_option maxRecDepth 100000 in
theorem ct_X7_takeRead {g : GT} (hg : GR g)  (μ : MM)  {r : MM} (hF : f_X7_takeRead  μ = some r) : Ct g 1 mi_X7_takeRead [.ref 144] μ (QV r) := by
  refine ct_of (k := 1) (by decide +kernel) rfl hg.1 rfl ?_
  show WA g 1 mi_X7_takeRead 0 [some (.ref 144), none] [] μ (QV r)
  unfold f_X7_takeRead at hF
  refine a_aload_0 dX7_takeRead_0 ?_
  refine a_aload_0 dX7_takeRead_1 ?_
  refine a_getI dX7_takeRead_2 fa_X7_125 (hg.d (by decide)) rfl rfl ?_
  obtain ⟨j1, ej5, hF⟩ := bd_e hF
  replace ej5 := ej5.symm
  have KJ5 : WA g 1 mi_X7_takeRead 16 [some (.ref 144), none] [.int j1, .ref 144] μ (QV r) := by
    obtain ⟨μ2, eμ2, hF⟩ := bd_e hF
    refine a_pI eμ2 dX7_takeRead_16 fp_X7_88 (hg.d (by decide)) rfl rfl ?_
    refine a_aload_0 dX7_takeRead_19 ?_
    refine a_aload_0 dX7_takeRead_20 ?_
    refine a_getI dX7_takeRead_21 fa_X7_125 (hg.d (by decide)) rfl rfl ?_
    obtain ⟨μ3, eμ3, hF⟩ := bd_e hF
    refine a_pI eμ3 dX7_takeRead_24 fp_X7_81 (hg.d (by decide)) rfl rfl ?_
    refine a_aload_0 dX7_takeRead_27 ?_
    refine a_aload_0 dX7_takeRead_28 ?_
    refine a_getI dX7_takeRead_29 fa_X7_125 (hg.d (by decide)) rfl rfl ?_
    obtain ⟨j4, ej32, hF⟩ := bd_e hF
    replace ej32 := ej32.symm
    have KJ32 : WA g 1 mi_X7_takeRead 43 [some (.ref 144), none] [.int j4, .ref 144] μ3 (QV r) := by
      obtain ⟨μ5, eμ5, hF⟩ := bd_e hF
      refine a_pI eμ5 dX7_takeRead_43 fp_X7_141 (hg.d (by decide)) rfl rfl ?_
      refine a_aload_0 dX7_takeRead_46 ?_
      obtain ⟨x6, ex6, hF⟩ := ob_e hF
      refine a_vV0 dX7_takeRead_47 cv_X7_78 (ct_X7_emptyAll hg μ5 ex6) (by decide) (hg.d (by decide)) rfl (Nat.le_of_ble_eq_true rfl) ?_
      refine a_iconst (v := 1) dX7_takeRead_50 (by decide) ?_
      refine a_istore_1 dX7_takeRead_51 (by decide) rfl ?_
      obtain ⟨z12, ez12, hF⟩ := ob_e hF
      refine ct_X7_takeRead_L52 hg   FU 1 x6 z12 ez12 ?_
      refine a_aload_0 dX7_takeRead_128 ?_
      refine a_getR (q := 149) dX7_takeRead_129 fa_X7_22 (hg.d (by decide)) rfl rfl ?_
      refine a_bipush (v := 10) dX7_takeRead_132 (by decide) ?_
      refine a_aload_0 dX7_takeRead_134 ?_
      refine a_getI dX7_takeRead_135 fa_X7_141 (hg.d (by decide)) rfl rfl ?_
      obtain ⟨μ13, eμ13, hF⟩ := bd_e hF
      refine a_sI eμ13 dX7_takeRead_138 (hg.d (by decide)) rfl (vi (by decide)) (by decide) ?_
      obtain rfl := Option.some.inj hF
      exact a_vret dX7_takeRead_139 rfl ⟨rfl, rfl⟩
    refine a_if_ne (tgt := 39) dX7_takeRead_32 (by decide) (fun h32 => ?_) (fun h32 => ?_)
    · rw [if_neg h32] at ej32
      refine a_aload_0 dX7_takeRead_39 ?_
      refine a_getI dX7_takeRead_40 fa_X7_128 (hg.d (by decide)) rfl rfl ?_
      subst ej32
      exact KJ32
    · rw [if_pos h32] at ej32
      refine a_iconst (v := 0) dX7_takeRead_35 (by decide) ?_
      refine a_goto (tgt := 43) dX7_takeRead_36 (by decide) ?_
      subst ej32
      exact KJ32
  refine a_if_ne (tgt := 12) dX7_takeRead_5 (by decide) (fun h5 => ?_) (fun h5 => ?_)
  · rw [if_neg h5] at ej5
    refine a_aload_0 dX7_takeRead_12 ?_
    refine a_getI dX7_takeRead_13 fa_X7_122 (hg.d (by decide)) rfl rfl ?_
    subst ej5
    exact KJ5
  · rw [if_pos h5] at ej5
    refine a_iconst (v := 0) dX7_takeRead_8 (by decide) ?_
    refine a_goto (tgt := 16) dX7_takeRead_9 (by decide) ?_
    subst ej5
    exact KJ5
set_option maxHeartbeats 4000000 in
set_option maxRecDepth 100000 in
theorem ct_X7_dale_L17 {g : GT} (hg : GR g)   {Q : Option Value → MM → Prop} : ∀ (n : Nat) (l1 : Int32) (μ : MM) (z : Int32 × MM), f_X7_dale_L17  n l1 μ = some z → (WA g 5 mi_X7_dale 36 [some (.ref 144), some (.int z.1)] [] z.2 Q) → WA g 5 mi_X7_dale 17 [some (.ref 144), some (.int l1)] [] μ Q := by
  intro n
  induction n with
  | zero => intro l1 μ z hF; exact absurd hF (by simp [f_X7_dale_L17])
  | succ n ih =>
    intro l1 μ z hF K
    unfold f_X7_dale_L17 at hF
    refine a_iload_1 dX7_dale_17 ?_
    refine a_if_ne (tgt := 36) dX7_dale_18 (by decide) (fun h18 => ?_) (fun h18 => ?_)
    · rw [if_neg h18] at hF
      obtain rfl := Option.some.inj hF
      exact K
    · rw [if_pos h18] at hF
      refine a_aload_0 dX7_dale_21 ?_
      obtain ⟨x4, ex4, hF⟩ := ob_e hF
      refine a_iV0 dX7_dale_22 cv_X7_101 (ct_X7_here hg μ ex4) (by decide) (hg.d (by decide)) rfl (Nat.le_of_ble_eq_true rfl) ?_
      refine a_if_lt (tgt := 36) dX7_dale_25 (by decide) (fun h25 => ?_) (fun h25 => ?_)
      · rw [if_pos h25] at hF
        obtain rfl := Option.some.inj hF
        exact K
      · rw [if_neg h25] at hF
        refine a_aload_0 dX7_dale_28 ?_
        obtain ⟨x5, ex5, hF⟩ := ob_e hF
        refine a_iV0 dX7_dale_29 cv_X7_144 (ct_X7_takeClause hg x4.2 ex5) (by decide) (hg.d (by decide)) rfl (Nat.le_of_ble_eq_true rfl) ?_
        refine a_istore_1 dX7_dale_32 (by decide) rfl ?_
        refine a_goto (tgt := 17) dX7_dale_33 (by decide) ?_
        exact ih x5.1 x5.2 _ hF K
set_option maxHeartbeats 4000000 in
set_option maxRecDepth 100000 in
theorem ct_X7_dale {g : GT} (hg : GR g)  (μ : MM)  {r : Int32 × MM} (hF : f_X7_dale  μ = some r) : Ct g 5 mi_X7_dale [.ref 144] μ (QI r.1 r.2) := by
  refine ct_of (k := 1) (by decide +kernel) rfl hg.1 rfl ?_
  show WA g 5 mi_X7_dale 0 [some (.ref 144), none] [] μ (QI r.1 r.2)
  unfold f_X7_dale at hF
  refine a_aload_0 dX7_dale_0 ?_
  refine a_iconst (v := (-1)) dX7_dale_1 (by decide) ?_
  obtain ⟨μ1, eμ1, hF⟩ := bd_e hF
  refine a_pI eμ1 dX7_dale_2 fp_X7_28 (hg.d (by decide)) rfl rfl ?_
  refine a_aload_0 dX7_dale_5 ?_
  refine a_iconst (v := 0) dX7_dale_6 (by decide) ?_
  obtain ⟨μ2, eμ2, hF⟩ := bd_e hF
  refine a_pI eμ2 dX7_dale_7 fp_X7_98 (hg.d (by decide)) rfl rfl ?_
  refine a_aload_0 dX7_dale_10 ?_
  refine a_iconst (v := 0) dX7_dale_11 (by decide) ?_
  obtain ⟨μ3, eμ3, hF⟩ := bd_e hF
  refine a_pI eμ3 dX7_dale_12 fp_X7_125 (hg.d (by decide)) rfl rfl ?_
  refine a_iconst (v := 0) dX7_dale_15 (by decide) ?_
  refine a_istore_1 dX7_dale_16 (by decide) rfl ?_
  obtain ⟨z6, ez6, hF⟩ := ob_e hF
  refine ct_X7_dale_L17 hg   FU 0 μ3 z6 ez6 ?_
  refine a_aload_0 dX7_dale_36 ?_
  refine a_iconst (v := 0) dX7_dale_37 (by decide) ?_
  obtain ⟨μ7, eμ7, hF⟩ := bd_e hF
  refine a_pI eμ7 dX7_dale_38 fp_X7_94 (hg.d (by decide)) rfl rfl ?_
  refine a_iload_1 dX7_dale_41 ?_
  refine a_if_le (tgt := 50) dX7_dale_42 (by decide) (fun h42 => ?_) (fun h42 => ?_)
  · rw [if_pos h42] at hF
    refine a_aload_0 dX7_dale_50 ?_
    obtain ⟨x8, ex8, hF⟩ := ob_e hF
    refine a_vV0 dX7_dale_51 cv_X7_147 (ct_X7_takeRead hg μ7 ex8) (by decide) (hg.d (by decide)) rfl (Nat.le_of_ble_eq_true rfl) ?_
    refine a_aload_0 dX7_dale_54 ?_
    refine a_iconst (v := 0) dX7_dale_55 (by decide) ?_
    obtain ⟨μ9, eμ9, hF⟩ := bd_e hF
    refine a_pI eμ9 dX7_dale_56 fp_X7_150 (hg.d (by decide)) rfl rfl ?_
    refine a_aload_0 dX7_dale_59 ?_
    refine a_iconst (v := 0) dX7_dale_60 (by decide) ?_
    obtain ⟨μ10, eμ10, hF⟩ := bd_e hF
    refine a_pI eμ10 dX7_dale_61 fp_X7_153 (hg.d (by decide)) rfl rfl ?_
    refine a_aload_0 dX7_dale_64 ?_
    refine a_iconst (v := 0) dX7_dale_65 (by decide) ?_
    obtain ⟨μ11, eμ11, hF⟩ := bd_e hF
    refine a_pI eμ11 dX7_dale_66 fp_X7_156 (hg.d (by decide)) rfl rfl ?_
    refine a_aload_0 dX7_dale_69 ?_
    refine a_getR (q := 165) dX7_dale_70 fa_X7_75 (hg.d (by decide)) rfl rfl ?_
    refine a_iconst (v := 0) dX7_dale_73 (by decide) ?_
    refine a_iconst (v := 0) dX7_dale_74 (by decide) ?_
    obtain ⟨μ12, eμ12, hF⟩ := bd_e hF
    refine a_sZ eμ12 dX7_dale_75 (hg.d (by decide)) rfl (vi (by decide)) (by decide) ?_
    refine a_aload_0 dX7_dale_76 ?_
    refine a_getR (q := 165) dX7_dale_77 fa_X7_75 (hg.d (by decide)) rfl rfl ?_
    refine a_iconst (v := 1) dX7_dale_80 (by decide) ?_
    refine a_iconst (v := 0) dX7_dale_81 (by decide) ?_
    obtain ⟨μ13, eμ13, hF⟩ := bd_e hF
    refine a_sZ eμ13 dX7_dale_82 (hg.d (by decide)) rfl (vi (by decide)) (by decide) ?_
    refine a_aload_0 dX7_dale_83 ?_
    refine a_getI dX7_dale_84 fa_X7_81 (hg.d (by decide)) rfl rfl ?_
    obtain rfl := Option.some.inj hF
    exact a_iret dX7_dale_87 rfl ⟨rfl, rfl⟩
  · rw [if_neg h42] at hF
    refine a_bipush (v := (-10)) dX7_dale_45 (by decide) ?_
    refine a_iload_1 dX7_dale_47 ?_
    refine a_isub dX7_dale_48 ?_
    obtain rfl := Option.some.inj hF
    exact a_iret dX7_dale_49 rfl ⟨rfl, rfl⟩
set_option maxHeartbeats 4000000 in
set_option maxRecDepth 100000 in
theorem ct_X7_fault {g : GT} (hg : GR g)  (μ : MM)  {r : Int32} (hF : f_X7_fault  μ = r) : Ct g 0 mi_X7_fault [.ref 144] μ (QI r μ) := by
  refine ct_of (k := 0) (by decide +kernel) rfl hg.1 rfl ?_
  show WA g 0 mi_X7_fault 0 [some (.ref 144)] [] μ (QI r μ)
  unfold f_X7_fault at hF
  refine a_aload_0 dX7_fault_0 ?_
  refine a_getI dX7_fault_1 fa_X7_28 (hg.d (by decide)) rfl rfl ?_
  subst hF
  exact a_iret dX7_fault_4 rfl ⟨rfl, rfl⟩
set_option maxHeartbeats 4000000 in
set_option maxRecDepth 100000 in
theorem ct_X7_garbleBy {g : GT} (hg : GR g) (p1 : Int32) (p2 : Int32) (p3 : Int32) (μ : MM)  {r : Int32} (hF : f_X7_garbleBy p1 p2 p3 μ = some r) : Ct g 0 mi_X7_garbleBy [.ref 144, .int p1, .int p2, .int p3] μ (QI r μ) := by
  refine ct_of (k := 0) (by decide +kernel) rfl hg.1 rfl ?_
  show WA g 0 mi_X7_garbleBy 0 [some (.ref 144), some (.int p1), some (.int p2), some (.int p3)] [] μ (QI r μ)
  unfold f_X7_garbleBy at hF
  refine a_iload_1 dX7_garbleBy_0 ?_
  by_cases h1_0 : p1 = 1
  · rw [if_pos h1_0] at hF
    refine a_tsIn (tgt := 32) dX7_garbleBy_1 h1_0 (by decide) (by decide) rfl (by decide) ?_
    refine a_iload_3 dX7_garbleBy_32 ?_
    refine a_iload_2 dX7_garbleBy_33 ?_
    refine a_iadd dX7_garbleBy_34 ?_
    refine a_aload_0 dX7_garbleBy_35 ?_
    refine a_getI dX7_garbleBy_36 fa_X7_88 (hg.d (by decide)) rfl rfl ?_
    obtain ⟨hz39, hF⟩ := gd_e hF
    refine a_rem dX7_garbleBy_39 hz39 ?_
    obtain rfl := Option.some.inj hF
    exact a_iret dX7_garbleBy_40 rfl ⟨rfl, rfl⟩
  · rw [if_neg h1_0] at hF
    by_cases h1_1 : p1 = 2
    · rw [if_pos h1_1] at hF
      refine a_tsIn (tgt := 41) dX7_garbleBy_1 h1_1 (by decide) (by decide) rfl (by decide) ?_
      refine a_iload_3 dX7_garbleBy_41 ?_
      refine a_iload_2 dX7_garbleBy_42 ?_
      refine a_icmp_le (tgt := 50) dX7_garbleBy_43 (by decide) (fun h43 => ?_) (fun h43 => ?_)
      · rw [if_pos h43] at hF
        refine a_iload_3 dX7_garbleBy_50 ?_
        obtain rfl := Option.some.inj hF
        exact a_iret dX7_garbleBy_51 rfl ⟨rfl, rfl⟩
      · rw [if_neg h43] at hF
        refine a_iload_2 dX7_garbleBy_46 ?_
        refine a_goto (tgt := 51) dX7_garbleBy_47 (by decide) ?_
        obtain rfl := Option.some.inj hF
        exact a_iret dX7_garbleBy_51 rfl ⟨rfl, rfl⟩
    · rw [if_neg h1_1] at hF
      by_cases h1_2 : p1 = 3
      · rw [if_pos h1_2] at hF
        refine a_tsIn (tgt := 52) dX7_garbleBy_1 h1_2 (by decide) (by decide) rfl (by decide) ?_
        refine a_aload_0 dX7_garbleBy_52 ?_
        refine a_getI dX7_garbleBy_53 fa_X7_88 (hg.d (by decide)) rfl rfl ?_
        refine a_iconst (v := 1) dX7_garbleBy_56 (by decide) ?_
        refine a_isub dX7_garbleBy_57 ?_
        refine a_iload_3 dX7_garbleBy_58 ?_
        refine a_isub dX7_garbleBy_59 ?_
        obtain rfl := Option.some.inj hF
        exact a_iret dX7_garbleBy_60 rfl ⟨rfl, rfl⟩
      · rw [if_neg h1_2] at hF
        by_cases h1_3 : p1 = 4
        · rw [if_pos h1_3] at hF
          refine a_tsIn (tgt := 61) dX7_garbleBy_1 h1_3 (by decide) (by decide) rfl (by decide) ?_
          refine a_iload_3 dX7_garbleBy_61 ?_
          refine a_iload_2 dX7_garbleBy_62 ?_
          refine a_icmp_ge (tgt := 70) dX7_garbleBy_63 (by decide) (fun h63 => ?_) (fun h63 => ?_)
          · rw [if_pos h63] at hF
            refine a_iload_3 dX7_garbleBy_70 ?_
            obtain rfl := Option.some.inj hF
            exact a_iret dX7_garbleBy_71 rfl ⟨rfl, rfl⟩
          · rw [if_neg h63] at hF
            refine a_iload_2 dX7_garbleBy_66 ?_
            refine a_goto (tgt := 71) dX7_garbleBy_67 (by decide) ?_
            obtain rfl := Option.some.inj hF
            exact a_iret dX7_garbleBy_71 rfl ⟨rfl, rfl⟩
        · rw [if_neg h1_3] at hF
          refine a_tsOut (tgt := 72) dX7_garbleBy_1 (by have q0 := lv_neT h1_0 (show Int32.toInt 1 = 1 by decide); have q1 := lv_neT h1_1 (show Int32.toInt 2 = 2 by decide); have q2 := lv_neT h1_2 (show Int32.toInt 3 = 3 by decide); have q3 := lv_neT h1_3 (show Int32.toInt 4 = 4 by decide); omega) (by decide) ?_
          refine a_iload_3 dX7_garbleBy_72 ?_
          obtain rfl := Option.some.inj hF
          exact a_iret dX7_garbleBy_73 rfl ⟨rfl, rfl⟩
set_option maxHeartbeats 4000000 in
set_option maxRecDepth 100000 in
theorem ct_X7_overFall {g : GT} (hg : GR g) (p1 : Int32) (p2 : Int32) (μ : MM)  {r : Int32} (hF : f_X7_overFall p1 p2 μ = some r) : Ct g 1 mi_X7_overFall [.ref 144, .int p1, .int p2] μ (QI r μ) := by
  refine ct_of (k := 1) (by decide +kernel) rfl hg.1 rfl ?_
  show WA g 1 mi_X7_overFall 0 [some (.ref 144), some (.int p1), some (.int p2), none] [] μ (QI r μ)
  unfold f_X7_overFall at hF
  refine a_aload_0 dX7_overFall_0 ?_
  refine a_aload_0 dX7_overFall_1 ?_
  refine a_getR (q := 149) dX7_overFall_2 fa_X7_22 (hg.d (by decide)) rfl rfl ?_
  refine a_iconst (v := 0) dX7_overFall_5 (by decide) ?_
  refine a_iload_1 dX7_overFall_6 ?_
  refine a_iadd dX7_overFall_7 ?_
  obtain ⟨hx8, hF⟩ := gd_e hF
  refine a_ldC dX7_overFall_8 (hg.d (by decide)) rfl hx8 rfl ?_
  refine a_aload_0 dX7_overFall_9 ?_
  refine a_getR (q := 148) dX7_overFall_10 fa_X7_19 (hg.d (by decide)) rfl rfl ?_
  refine a_iload_1 dX7_overFall_13 ?_
  obtain ⟨hx14, hF⟩ := gd_e hF
  refine a_ldC dX7_overFall_14 (hg.d (by decide)) rfl hx14 rfl ?_
  refine a_iload_2 dX7_overFall_15 ?_
  obtain ⟨x1, ex1, hF⟩ := ob_e hF
  refine a_iV3 dX7_overFall_16 cv_X7_159 (ct_X7_garbleBy hg (μ 149 (Int32.toNatClampNeg (0 + p1))) (μ 148 (Int32.toNatClampNeg p1)) p2 μ ex1) (by decide) (hg.d (by decide)) rfl (Nat.le_of_ble_eq_true rfl) ?_
  refine a_istore_3 dX7_overFall_19 (by decide) rfl ?_
  refine a_aload_0 dX7_overFall_20 ?_
  refine a_getR (q := 149) dX7_overFall_21 fa_X7_22 (hg.d (by decide)) rfl rfl ?_
  refine a_bipush (v := 10) dX7_overFall_24 (by decide) ?_
  refine a_ldC (j := 10) dX7_overFall_26 (hg.d (by decide)) rfl (vi (by decide)) (by decide) ?_
  refine a_bipush (v := 7) dX7_overFall_27 (by decide) ?_
  refine a_icmp_lt (tgt := 54) dX7_overFall_29 (by decide) (fun h29 => ?_) (fun h29 => ?_)
  · rw [if_pos h29] at hF
    refine a_iload_3 dX7_overFall_54 ?_
    obtain rfl := Option.some.inj hF
    exact a_iret dX7_overFall_55 rfl ⟨rfl, rfl⟩
  · rw [if_neg h29] at hF
    refine a_aload_0 dX7_overFall_32 ?_
    refine a_aload_0 dX7_overFall_33 ?_
    refine a_getR (q := 149) dX7_overFall_34 fa_X7_22 (hg.d (by decide)) rfl rfl ?_
    refine a_iconst (v := 0) dX7_overFall_37 (by decide) ?_
    refine a_iload_1 dX7_overFall_38 ?_
    refine a_iadd dX7_overFall_39 ?_
    obtain ⟨hx40, hF⟩ := gd_e hF
    refine a_ldC dX7_overFall_40 (hg.d (by decide)) rfl hx40 rfl ?_
    refine a_aload_0 dX7_overFall_41 ?_
    refine a_getR (q := 148) dX7_overFall_42 fa_X7_19 (hg.d (by decide)) rfl rfl ?_
    refine a_iload_1 dX7_overFall_45 ?_
    obtain ⟨hx46, hF⟩ := gd_e hF
    refine a_ldC dX7_overFall_46 (hg.d (by decide)) rfl hx46 rfl ?_
    refine a_iload_3 dX7_overFall_47 ?_
    obtain ⟨x2, ex2, hF⟩ := ob_e hF
    refine a_iV3 dX7_overFall_48 cv_X7_159 (ct_X7_garbleBy hg (μ 149 (Int32.toNatClampNeg (0 + p1))) (μ 148 (Int32.toNatClampNeg p1)) x1 μ ex2) (by decide) (hg.d (by decide)) rfl (Nat.le_of_ble_eq_true rfl) ?_
    refine a_goto (tgt := 55) dX7_overFall_51 (by decide) ?_
    obtain rfl := Option.some.inj hF
    exact a_iret dX7_overFall_55 rfl ⟨rfl, rfl⟩
set_option maxHeartbeats 4000000 in
set_option maxRecDepth 100000 in
theorem ct_X7_stopsAt {g : GT} (hg : GR g) (p1 : Int32) (μ : MM)  {r : Int32} (hF : f_X7_stopsAt p1 μ = r) : Ct g 1 mi_X7_stopsAt [.ref 144, .int p1] μ (QI r μ) := by
  refine ct_of (k := 0) (by decide +kernel) rfl hg.1 rfl ?_
  show WA g 1 mi_X7_stopsAt 0 [some (.ref 144), some (.int p1)] [] μ (QI r μ)
  unfold f_X7_stopsAt at hF
  refine a_iload_1 dX7_stopsAt_0 ?_
  refine a_if_eq (tgt := 18) dX7_stopsAt_1 (by decide) (fun h1 => ?_) (fun h1 => ?_)
  · rw [if_pos h1] at hF
    refine a_iconst (v := 1) dX7_stopsAt_18 (by decide) ?_
    refine a_goto (tgt := 23) dX7_stopsAt_19 (by decide) ?_
    subst hF
    exact a_zret dX7_stopsAt_23 rfl (Or.inr rfl) ⟨rfl, rfl⟩
  · rw [if_neg h1] at hF
    refine a_aload_0 dX7_stopsAt_4 ?_
    refine a_getR (q := 149) dX7_stopsAt_5 fa_X7_22 (hg.d (by decide)) rfl rfl ?_
    refine a_bipush (v := 9) dX7_stopsAt_8 (by decide) ?_
    refine a_ldC (j := 9) dX7_stopsAt_10 (hg.d (by decide)) rfl (vi (by decide)) (by decide) ?_
    refine a_iload_1 dX7_stopsAt_11 ?_
    obtain ⟨x1, ex1, hF⟩ := bd_e hF
    refine a_iS2 dX7_stopsAt_12 cs_X7_163 (ct_X7_has hg (μ 149 9) p1 μ ex1.symm) (by decide) (Nat.le_of_ble_eq_true rfl) ?_
    refine a_if_eq (tgt := 22) dX7_stopsAt_15 (by decide) (fun h15 => ?_) (fun h15 => ?_)
    · rw [if_pos h15] at hF
      refine a_iconst (v := 0) dX7_stopsAt_22 (by decide) ?_
      subst hF
      exact a_zret dX7_stopsAt_23 rfl (Or.inl rfl) ⟨rfl, rfl⟩
    · rw [if_neg h15] at hF
      refine a_iconst (v := 1) dX7_stopsAt_18 (by decide) ?_
      refine a_goto (tgt := 23) dX7_stopsAt_19 (by decide) ?_
      subst hF
      exact a_zret dX7_stopsAt_23 rfl (Or.inr rfl) ⟨rfl, rfl⟩
set_option maxHeartbeats 4000000 in
set_option maxRecDepth 100000 in
theorem ct_X7_toGo {g : GT} (hg : GR g) (p1 : Int32) (μ : MM)  {r : Int32} (hF : f_X7_toGo p1 μ = some r) : Ct g 0 mi_X7_toGo [.ref 144, .int p1] μ (QI r μ) := by
  refine ct_of (k := 0) (by decide +kernel) rfl hg.1 rfl ?_
  show WA g 0 mi_X7_toGo 0 [some (.ref 144), some (.int p1)] [] μ (QI r μ)
  unfold f_X7_toGo at hF
  refine a_aload_0 dX7_toGo_0 ?_
  refine a_getR (q := 149) dX7_toGo_1 fa_X7_22 (hg.d (by decide)) rfl rfl ?_
  refine a_bipush (v := 33) dX7_toGo_4 (by decide) ?_
  refine a_iload_1 dX7_toGo_6 ?_
  refine a_iadd dX7_toGo_7 ?_
  obtain ⟨hx8, hF⟩ := gd_e hF
  refine a_ldC dX7_toGo_8 (hg.d (by decide)) rfl hx8 rfl ?_
  refine a_sipush (v := 1000) dX7_toGo_9 (by decide) ?_
  refine a_idiv dX7_toGo_12 (by decide) ?_
  obtain rfl := Option.some.inj hF
  exact a_iret dX7_toGo_13 rfl ⟨rfl, rfl⟩
set_option maxHeartbeats 4000000 in
set_option maxRecDepth 100000 in
theorem ct_X7_goesFrom {g : GT} (hg : GR g) (p1 : Int32) (μ : MM)  {r : Int32} (hF : f_X7_goesFrom p1 μ = some r) : Ct g 0 mi_X7_goesFrom [.ref 144, .int p1] μ (QI r μ) := by
  refine ct_of (k := 0) (by decide +kernel) rfl hg.1 rfl ?_
  show WA g 0 mi_X7_goesFrom 0 [some (.ref 144), some (.int p1)] [] μ (QI r μ)
  unfold f_X7_goesFrom at hF
  refine a_aload_0 dX7_goesFrom_0 ?_
  refine a_getR (q := 149) dX7_goesFrom_1 fa_X7_22 (hg.d (by decide)) rfl rfl ?_
  refine a_bipush (v := 33) dX7_goesFrom_4 (by decide) ?_
  refine a_iload_1 dX7_goesFrom_6 ?_
  refine a_iadd dX7_goesFrom_7 ?_
  obtain ⟨hx8, hF⟩ := gd_e hF
  refine a_ldC dX7_goesFrom_8 (hg.d (by decide)) rfl hx8 rfl ?_
  refine a_bipush (v := 100) dX7_goesFrom_9 (by decide) ?_
  refine a_idiv dX7_goesFrom_11 (by decide) ?_
  refine a_bipush (v := 10) dX7_goesFrom_12 (by decide) ?_
  refine a_rem dX7_goesFrom_14 (by decide) ?_
  obtain rfl := Option.some.inj hF
  exact a_iret dX7_goesFrom_15 rfl ⟨rfl, rfl⟩
set_option maxHeartbeats 4000000 in
set_option maxRecDepth 100000 in
theorem ct_X7_wordOf {g : GT} (hg : GR g) (p1 : Int32) (μ : MM)  {r : Int32} (hF : f_X7_wordOf p1 μ = some r) : Ct g 0 mi_X7_wordOf [.ref 144, .int p1] μ (QI r μ) := by
  refine ct_of (k := 0) (by decide +kernel) rfl hg.1 rfl ?_
  show WA g 0 mi_X7_wordOf 0 [some (.ref 144), some (.int p1)] [] μ (QI r μ)
  unfold f_X7_wordOf at hF
  refine a_aload_0 dX7_wordOf_0 ?_
  refine a_getR (q := 149) dX7_wordOf_1 fa_X7_22 (hg.d (by decide)) rfl rfl ?_
  refine a_bipush (v := 33) dX7_wordOf_4 (by decide) ?_
  refine a_iload_1 dX7_wordOf_6 ?_
  refine a_iadd dX7_wordOf_7 ?_
  obtain ⟨hx8, hF⟩ := gd_e hF
  refine a_ldC dX7_wordOf_8 (hg.d (by decide)) rfl hx8 rfl ?_
  refine a_bipush (v := 10) dX7_wordOf_9 (by decide) ?_
  refine a_idiv dX7_wordOf_11 (by decide) ?_
  refine a_bipush (v := 10) dX7_wordOf_12 (by decide) ?_
  refine a_rem dX7_wordOf_14 (by decide) ?_
  obtain rfl := Option.some.inj hF
  exact a_iret dX7_wordOf_15 rfl ⟨rfl, rfl⟩
set_option maxHeartbeats 4000000 in
set_option maxRecDepth 100000 in
theorem ct_X7_saidAt {g : GT} (hg : GR g) (p1 : Int32) (μ : MM)  {r : Int32} (hF : f_X7_saidAt p1 μ = some r) : Ct g 0 mi_X7_saidAt [.ref 144, .int p1] μ (QI r μ) := by
  refine ct_of (k := 0) (by decide +kernel) rfl hg.1 rfl ?_
  show WA g 0 mi_X7_saidAt 0 [some (.ref 144), some (.int p1)] [] μ (QI r μ)
  unfold f_X7_saidAt at hF
  refine a_aload_0 dX7_saidAt_0 ?_
  refine a_getR (q := 149) dX7_saidAt_1 fa_X7_22 (hg.d (by decide)) rfl rfl ?_
  refine a_bipush (v := 33) dX7_saidAt_4 (by decide) ?_
  refine a_iload_1 dX7_saidAt_6 ?_
  refine a_iadd dX7_saidAt_7 ?_
  obtain ⟨hx8, hF⟩ := gd_e hF
  refine a_ldC dX7_saidAt_8 (hg.d (by decide)) rfl hx8 rfl ?_
  refine a_bipush (v := 10) dX7_saidAt_9 (by decide) ?_
  refine a_rem dX7_saidAt_11 (by decide) ?_
  obtain rfl := Option.some.inj hF
  exact a_iret dX7_saidAt_12 rfl ⟨rfl, rfl⟩
set_option maxHeartbeats 4000000 in
set_option maxRecDepth 100000 in
theorem ct_X7_packed {g : GT} (hg : GR g) (p0 : Int32) (p1 : Int32) (p2 : Int32) (p3 : Int32) (μ : MM)  {r : Int32} (hF : f_X7_packed p0 p1 p2 p3 μ = r) : Ct g 0 mi_X7_packed [.int p0, .int p1, .int p2, .int p3] μ (QI r μ) := by
  refine ct_of (k := 0) (by decide +kernel) rfl hg.1 rfl ?_
  show WA g 0 mi_X7_packed 0 [some (.int p0), some (.int p1), some (.int p2), some (.int p3)] [] μ (QI r μ)
  unfold f_X7_packed at hF
  refine a_sipush (v := 1000) dX7_packed_0 (by decide) ?_
  refine a_iload_0 dX7_packed_3 ?_
  refine a_imul dX7_packed_4 ?_
  refine a_bipush (v := 100) dX7_packed_5 (by decide) ?_
  refine a_iload_1 dX7_packed_7 ?_
  refine a_imul dX7_packed_8 ?_
  refine a_iadd dX7_packed_9 ?_
  refine a_bipush (v := 10) dX7_packed_10 (by decide) ?_
  refine a_iload_2 dX7_packed_12 ?_
  refine a_imul dX7_packed_13 ?_
  refine a_iadd dX7_packed_14 ?_
  refine a_iload_3 dX7_packed_15 ?_
  refine a_iadd dX7_packed_16 ?_
  subst hF
  exact a_iret dX7_packed_17 rfl ⟨rfl, rfl⟩
set_option maxHeartbeats 4000000 in
set_option maxRecDepth 100000 in
theorem ct_X7_takeOff_L13 {g : GT} (hg : GR g) (l1 : Int32)  {Q : Option Value → MM → Prop} : ∀ (n : Nat) (l2 : Int32) (μ : MM) (z : Int32 × MM), f_X7_takeOff_L13 l1 n l2 μ = some z → (WA g 0 mi_X7_takeOff 50 [some (.ref 144), some (.int l1), some (.int z.1)] [] z.2 Q) → WA g 0 mi_X7_takeOff 13 [some (.ref 144), some (.int l1), some (.int l2)] [] μ Q := by
  intro n
  induction n with
  | zero => intro l2 μ z hF; exact absurd hF (by simp [f_X7_takeOff_L13])
  | succ n ih =>
    intro l2 μ z hF K
    unfold f_X7_takeOff_L13 at hF
    refine a_iload_2 dX7_takeOff_13 ?_
    refine a_aload_0 dX7_takeOff_14 ?_
    refine a_getR (q := 149) dX7_takeOff_15 fa_X7_22 (hg.d (by decide)) rfl rfl ?_
    refine a_bipush (v := 32) dX7_takeOff_18 (by decide) ?_
    refine a_ldC (j := 32) dX7_takeOff_20 (hg.d (by decide)) rfl (vi (by decide)) (by decide) ?_
    refine a_icmp_ge (tgt := 50) dX7_takeOff_21 (by decide) (fun h21 => ?_) (fun h21 => ?_)
    · rw [if_pos h21] at hF
      obtain rfl := Option.some.inj hF
      exact K
    · rw [if_neg h21] at hF
      refine a_aload_0 dX7_takeOff_24 ?_
      refine a_getR (q := 149) dX7_takeOff_25 fa_X7_22 (hg.d (by decide)) rfl rfl ?_
      refine a_bipush (v := 33) dX7_takeOff_28 (by decide) ?_
      refine a_iload_2 dX7_takeOff_30 ?_
      refine a_iadd dX7_takeOff_31 ?_
      refine a_aload_0 dX7_takeOff_32 ?_
      refine a_getR (q := 149) dX7_takeOff_33 fa_X7_22 (hg.d (by decide)) rfl rfl ?_
      refine a_bipush (v := 33) dX7_takeOff_36 (by decide) ?_
      refine a_iload_2 dX7_takeOff_38 ?_
      refine a_iadd dX7_takeOff_39 ?_
      refine a_iconst (v := 1) dX7_takeOff_40 (by decide) ?_
      refine a_iadd dX7_takeOff_41 ?_
      obtain ⟨hx42, hF⟩ := gd_e hF
      refine a_ldC dX7_takeOff_42 (hg.d (by decide)) rfl hx42 rfl ?_
      obtain ⟨hx43, hF⟩ := gd_e hF
      obtain ⟨μ2, eμ2, hF⟩ := bd_e hF
      refine a_sI eμ2 dX7_takeOff_43 (hg.d (by decide)) rfl hx43 rfl ?_
      refine a_iinc_2 (c0 := 1) dX7_takeOff_44 (by decide) (by decide) rfl ?_
      refine a_goto (tgt := 13) dX7_takeOff_47 (by decide) ?_
      exact ih (l2 + 1) μ2 _ hF K
set_option maxHeartbeats 4000000 in
set_option maxRecDepth 100000 in
theorem ct_X7_takeOff {g : GT} (hg : GR g) (p1 : Int32) (μ : MM)  {r : MM} (hF : f_X7_takeOff p1 μ = some r) : Ct g 0 mi_X7_takeOff [.ref 144, .int p1] μ (QV r) := by
  refine ct_of (k := 1) (by decide +kernel) rfl hg.1 rfl ?_
  show WA g 0 mi_X7_takeOff 0 [some (.ref 144), some (.int p1), none] [] μ (QV r)
  unfold f_X7_takeOff at hF
  refine a_aload_0 dX7_takeOff_0 ?_
  refine a_getR (q := 149) dX7_takeOff_1 fa_X7_22 (hg.d (by decide)) rfl rfl ?_
  refine a_bipush (v := 32) dX7_takeOff_4 (by decide) ?_
  refine a_dup2 dX7_takeOff_6 rfl rfl ?_
  refine a_ldC (j := 32) dX7_takeOff_7 (hg.d (by decide)) rfl (vi (by decide)) (by decide) ?_
  refine a_iconst (v := 1) dX7_takeOff_8 (by decide) ?_
  refine a_isub dX7_takeOff_9 ?_
  obtain ⟨μ1, eμ1, hF⟩ := bd_e hF
  refine a_sI eμ1 dX7_takeOff_10 (hg.d (by decide)) rfl (vi (by decide)) (by decide) ?_
  refine a_iload_1 dX7_takeOff_11 ?_
  refine a_istore_2 dX7_takeOff_12 (by decide) rfl ?_
  obtain ⟨z3, ez3, hF⟩ := ob_e hF
  refine ct_X7_takeOff_L13 hg p1  FU p1 μ1 z3 ez3 ?_
  refine a_aload_0 dX7_takeOff_50 ?_
  refine a_getR (q := 149) dX7_takeOff_51 fa_X7_22 (hg.d (by decide)) rfl rfl ?_
  refine a_bipush (v := 33) dX7_takeOff_54 (by decide) ?_
  refine a_aload_0 dX7_takeOff_56 ?_
  refine a_getR (q := 149) dX7_takeOff_57 fa_X7_22 (hg.d (by decide)) rfl rfl ?_
  refine a_bipush (v := 32) dX7_takeOff_60 (by decide) ?_
  refine a_ldC (j := 32) dX7_takeOff_62 (hg.d (by decide)) rfl (vi (by decide)) (by decide) ?_
  refine a_iadd dX7_takeOff_63 ?_
  refine a_iconst (v := 0) dX7_takeOff_64 (by decide) ?_
  obtain ⟨hx65, hF⟩ := gd_e hF
  obtain ⟨μ4, eμ4, hF⟩ := bd_e hF
  refine a_sI eμ4 dX7_takeOff_65 (hg.d (by decide)) rfl hx65 rfl ?_
  obtain rfl := Option.some.inj hF
  exact a_vret dX7_takeOff_66 rfl ⟨rfl, rfl⟩
set_option maxHeartbeats 4000000 in
set_option maxRecDepth 100000 in
theorem ct_X7_hears_L102 {g : GT} (hg : GR g) (l1 : Int32) (l2 : Int32) (l3 : Int32)  {Q : Option Value → MM → Prop} : ∀ (n : Nat) (l4 : Int32) (μ : MM) (z : Int32 × MM), f_X7_hears_L102 l1 l2 l3 n l4 μ = some z → (WA g 0 mi_X7_hears 137 [some (.ref 144), some (.int l1), some (.int l2), some (.int l3), some (.int z.1)] [] z.2 Q) → WA g 0 mi_X7_hears 102 [some (.ref 144), some (.int l1), some (.int l2), some (.int l3), some (.int l4)] [] μ Q := by
  intro n
  induction n with
  | zero => intro l4 μ z hF; exact absurd hF (by simp [f_X7_hears_L102])
  | succ n ih =>
    intro l4 μ z hF K
    unfold f_X7_hears_L102 at hF
    refine a_iload_4 dX7_hears_102 ?_
    refine a_bipush (v := 20) dX7_hears_104 (by decide) ?_
    refine a_icmp_ge (tgt := 137) dX7_hears_106 (by decide) (fun h106 => ?_) (fun h106 => ?_)
    · rw [if_pos h106] at hF
      obtain rfl := Option.some.inj hF
      exact K
    · rw [if_neg h106] at hF
      refine a_aload_0 dX7_hears_109 ?_
      refine a_getR (q := 149) dX7_hears_110 fa_X7_22 (hg.d (by decide)) rfl rfl ?_
      refine a_bipush (v := 46) dX7_hears_113 (by decide) ?_
      refine a_iload_4 dX7_hears_115 ?_
      refine a_iadd dX7_hears_117 ?_
      refine a_iconst (v := 1) dX7_hears_118 (by decide) ?_
      refine a_isub dX7_hears_119 ?_
      refine a_aload_0 dX7_hears_120 ?_
      refine a_getR (q := 149) dX7_hears_121 fa_X7_22 (hg.d (by decide)) rfl rfl ?_
      refine a_bipush (v := 46) dX7_hears_124 (by decide) ?_
      refine a_iload_4 dX7_hears_126 ?_
      refine a_iadd dX7_hears_128 ?_
      obtain ⟨hx129, hF⟩ := gd_e hF
      refine a_ldC dX7_hears_129 (hg.d (by decide)) rfl hx129 rfl ?_
      obtain ⟨hx130, hF⟩ := gd_e hF
      obtain ⟨μ8, eμ8, hF⟩ := bd_e hF
      refine a_sI eμ8 dX7_hears_130 (hg.d (by decide)) rfl hx130 rfl ?_
      refine a_iinc_4 (c0 := 1) dX7_hears_131 (by decide) (by decide) rfl ?_
      refine a_goto (tgt := 102) dX7_hears_134 (by decide) ?_
      exact ih (l4 + 1) μ8 _ hF K
set_option maxHeartbeats 4000000 in
set_option maxRecDepth 100000 in
theorem ct_X7_hears {g : GT} (hg : GR g) (p1 : Int32) (p2 : Int32) (p3 : Int32) (μ : MM)  {r : MM} (hF : f_X7_hears p1 p2 p3 μ = some r) : Ct g 0 mi_X7_hears [.ref 144, .int p1, .int p2, .int p3] μ (QV r) := by
  refine ct_of (k := 1) (by decide +kernel) rfl hg.1 rfl ?_
  show WA g 0 mi_X7_hears 0 [some (.ref 144), some (.int p1), some (.int p2), some (.int p3), none] [] μ (QV r)
  unfold f_X7_hears at hF
  refine a_aload_0 dX7_hears_0 ?_
  refine a_getR (q := 149) dX7_hears_1 fa_X7_22 (hg.d (by decide)) rfl rfl ?_
  refine a_bipush (v := 14) dX7_hears_4 (by decide) ?_
  refine a_iload_1 dX7_hears_6 ?_
  refine a_iadd dX7_hears_7 ?_
  refine a_iload_2 dX7_hears_8 ?_
  obtain ⟨hx9, hF⟩ := gd_e hF
  obtain ⟨μ1, eμ1, hF⟩ := bd_e hF
  refine a_sI eμ1 dX7_hears_9 (hg.d (by decide)) rfl hx9 rfl ?_
  refine a_aload_0 dX7_hears_10 ?_
  refine a_getR (q := 149) dX7_hears_11 fa_X7_22 (hg.d (by decide)) rfl rfl ?_
  refine a_bipush (v := 23) dX7_hears_14 (by decide) ?_
  refine a_iload_1 dX7_hears_16 ?_
  refine a_iadd dX7_hears_17 ?_
  refine a_dup2 dX7_hears_18 rfl rfl ?_
  obtain ⟨hx19, hF⟩ := gd_e hF
  refine a_ldC dX7_hears_19 (hg.d (by decide)) rfl hx19 rfl ?_
  refine a_aload_0 dX7_hears_20 ?_
  refine a_getR (q := 149) dX7_hears_21 fa_X7_22 (hg.d (by decide)) rfl rfl ?_
  refine a_bipush (v := 23) dX7_hears_24 (by decide) ?_
  refine a_iload_1 dX7_hears_26 ?_
  refine a_iadd dX7_hears_27 ?_
  obtain ⟨hx28, hF⟩ := gd_e hF
  refine a_ldC dX7_hears_28 (hg.d (by decide)) rfl hx28 rfl ?_
  refine a_ldc dX7_hears_29 k_X7_167 ?_
  obtain ⟨j2, ej31, hF⟩ := bd_e hF
  replace ej31 := ej31.symm
  have KJ31 : WA g 0 mi_X7_hears 39 [some (.ref 144), some (.int p1), some (.int p2), some (.int p3), none] [.int j2, .int (μ1 149 (Int32.toNatClampNeg (23 + p1))), .int (23 + p1), .ref 149] μ1 (QV r) := by
    refine a_iadd dX7_hears_39 ?_
    obtain ⟨hx40, hF⟩ := gd_e hF
    obtain ⟨μ3, eμ3, hF⟩ := bd_e hF
    refine a_sI eμ3 dX7_hears_40 (hg.d (by decide)) rfl hx40 rfl ?_
    refine a_aload_0 dX7_hears_41 ?_
    refine a_getR (q := 156) dX7_hears_42 fa_X7_47 (hg.d (by decide)) rfl rfl ?_
    refine a_iload_1 dX7_hears_45 ?_
    refine a_aload_0 dX7_hears_46 ?_
    refine a_getR (q := 156) dX7_hears_47 fa_X7_47 (hg.d (by decide)) rfl rfl ?_
    refine a_iload_1 dX7_hears_50 ?_
    obtain ⟨hx51, hF⟩ := gd_e hF
    refine a_zldC dX7_hears_51 (hg.d (by decide)) rfl hx51 rfl ?_
    obtain ⟨j4, ej52, hF⟩ := ob_e hF
    have KJ52 : WA g 0 mi_X7_hears 79 [some (.ref 144), some (.int p1), some (.int p2), some (.int p3), none] [.int j4, .int p1, .ref 156] μ3 (QV r) := by
      obtain ⟨hx79, hF⟩ := gd_e hF
      obtain ⟨μ5, eμ5, hF⟩ := bd_e hF
      refine a_sZ eμ5 dX7_hears_79 (hg.d (by decide)) rfl hx79 rfl ?_
      refine a_aload_0 dX7_hears_80 ?_
      refine a_getR (q := 155) dX7_hears_81 fa_X7_44 (hg.d (by decide)) rfl rfl ?_
      refine a_iload_1 dX7_hears_84 ?_
      refine a_iload_2 dX7_hears_85 ?_
      obtain ⟨hx86, hF⟩ := gd_e hF
      obtain ⟨μ6, eμ6, hF⟩ := bd_e hF
      refine a_sI eμ6 dX7_hears_86 (hg.d (by decide)) rfl hx86 rfl ?_
      refine a_aload_0 dX7_hears_87 ?_
      refine a_getR (q := 149) dX7_hears_88 fa_X7_22 (hg.d (by decide)) rfl rfl ?_
      refine a_bipush (v := 45) dX7_hears_91 (by decide) ?_
      refine a_ldC (j := 45) dX7_hears_93 (hg.d (by decide)) rfl (vi (by decide)) (by decide) ?_
      refine a_bipush (v := 20) dX7_hears_94 (by decide) ?_
      obtain ⟨j7, ej96, hF⟩ := ob_e hF
      have KJ96 : WA g 0 mi_X7_hears 148 [some (.ref 144), some (.int p1), some (.int p2), some (.int p3), none] [] j7 (QV r) := by
        refine a_aload_0 dX7_hears_148 ?_
        refine a_getR (q := 149) dX7_hears_149 fa_X7_22 (hg.d (by decide)) rfl rfl ?_
        refine a_bipush (v := 46) dX7_hears_152 (by decide) ?_
        refine a_aload_0 dX7_hears_154 ?_
        refine a_getR (q := 149) dX7_hears_155 fa_X7_22 (hg.d (by decide)) rfl rfl ?_
        refine a_bipush (v := 45) dX7_hears_158 (by decide) ?_
        refine a_ldC (j := 45) dX7_hears_160 (hg.d (by decide)) rfl (vi (by decide)) (by decide) ?_
        refine a_iadd dX7_hears_161 ?_
        refine a_sipush (v := 1000) dX7_hears_162 (by decide) ?_
        refine a_aload_0 dX7_hears_165 ?_
        refine a_getR (q := 149) dX7_hears_166 fa_X7_22 (hg.d (by decide)) rfl rfl ?_
        refine a_bipush (v := 12) dX7_hears_169 (by decide) ?_
        refine a_ldC (j := 12) dX7_hears_171 (hg.d (by decide)) rfl (vi (by decide)) (by decide) ?_
        refine a_imul dX7_hears_172 ?_
        refine a_bipush (v := 100) dX7_hears_173 (by decide) ?_
        refine a_iload_1 dX7_hears_175 ?_
        refine a_imul dX7_hears_176 ?_
        refine a_iadd dX7_hears_177 ?_
        refine a_bipush (v := 10) dX7_hears_178 (by decide) ?_
        refine a_iload_2 dX7_hears_180 ?_
        refine a_imul dX7_hears_181 ?_
        refine a_iadd dX7_hears_182 ?_
        refine a_iload_3 dX7_hears_183 ?_
        refine a_iadd dX7_hears_184 ?_
        obtain ⟨hx185, hF⟩ := gd_e hF
        obtain ⟨μ11, eμ11, hF⟩ := bd_e hF
        refine a_sI eμ11 dX7_hears_185 (hg.d (by decide)) rfl hx185 rfl ?_
        refine a_aload_0 dX7_hears_186 ?_
        refine a_getR (q := 149) dX7_hears_187 fa_X7_22 (hg.d (by decide)) rfl rfl ?_
        refine a_bipush (v := 45) dX7_hears_190 (by decide) ?_
        refine a_dup2 dX7_hears_192 rfl rfl ?_
        refine a_ldC (j := 45) dX7_hears_193 (hg.d (by decide)) rfl (vi (by decide)) (by decide) ?_
        refine a_iconst (v := 1) dX7_hears_194 (by decide) ?_
        refine a_iadd dX7_hears_195 ?_
        obtain ⟨μ12, eμ12, hF⟩ := bd_e hF
        refine a_sI eμ12 dX7_hears_196 (hg.d (by decide)) rfl (vi (by decide)) (by decide) ?_
        obtain rfl := Option.some.inj hF
        exact a_vret dX7_hears_197 rfl ⟨rfl, rfl⟩
      refine a_icmp_ne (tgt := 148) dX7_hears_96 (by decide) (fun h96 => ?_) (fun h96 => ?_)
      · rw [if_neg h96] at ej96
        obtain rfl := Option.some.inj ej96
        exact KJ96
      · rw [if_pos h96] at ej96
        refine a_iconst (v := 1) dX7_hears_99 (by decide) ?_
        refine a_istore_4 dX7_hears_100 (by decide) rfl ?_
        obtain ⟨z9, ez9, ej96⟩ := ob_e ej96
        refine ct_X7_hears_L102 hg p1 p2 p3  FU 1 μ6 z9 ez9 ?_
        refine a_aload_0 dX7_hears_137 ?_
        refine a_getR (q := 149) dX7_hears_138 fa_X7_22 (hg.d (by decide)) rfl rfl ?_
        refine a_bipush (v := 45) dX7_hears_141 (by decide) ?_
        refine a_dup2 dX7_hears_143 rfl rfl ?_
        refine a_ldC (j := 45) dX7_hears_144 (hg.d (by decide)) rfl (vi (by decide)) (by decide) ?_
        refine a_iconst (v := 1) dX7_hears_145 (by decide) ?_
        refine a_isub dX7_hears_146 ?_
        obtain ⟨μ10, eμ10, ej96⟩ := bd_e ej96
        refine a_sI eμ10 dX7_hears_147 (hg.d (by decide)) rfl (vi (by decide)) (by decide) ?_
        obtain rfl := Option.some.inj ej96
        exact a_wk2 KJ96 (by simp [wk])
    refine a_if_ne (tgt := 74) dX7_hears_52 (by decide) (fun h52 => ?_) (fun h52 => ?_)
    · rw [if_neg h52] at ej52
      refine a_iconst (v := 1) dX7_hears_74 (by decide) ?_
      refine a_goto (tgt := 79) dX7_hears_75 (by decide) ?_
      obtain rfl := Option.some.inj ej52
      exact KJ52
    · rw [if_pos h52] at ej52
      refine a_aload_0 dX7_hears_55 ?_
      refine a_getR (q := 155) dX7_hears_56 fa_X7_44 (hg.d (by decide)) rfl rfl ?_
      refine a_iload_1 dX7_hears_59 ?_
      obtain ⟨hx60, ej52⟩ := gd_e ej52
      refine a_ldC dX7_hears_60 (hg.d (by decide)) rfl hx60 rfl ?_
      refine a_if_lt (tgt := 78) dX7_hears_61 (by decide) (fun h61 => ?_) (fun h61 => ?_)
      · rw [if_pos h61] at ej52
        refine a_iconst (v := 0) dX7_hears_78 (by decide) ?_
        obtain rfl := Option.some.inj ej52
        exact KJ52
      · rw [if_neg h61] at ej52
        refine a_aload_0 dX7_hears_64 ?_
        refine a_getR (q := 155) dX7_hears_65 fa_X7_44 (hg.d (by decide)) rfl rfl ?_
        refine a_iload_1 dX7_hears_68 ?_
        obtain ⟨hx69, ej52⟩ := gd_e ej52
        refine a_ldC dX7_hears_69 (hg.d (by decide)) rfl hx69 rfl ?_
        refine a_iload_2 dX7_hears_70 ?_
        refine a_icmp_eq (tgt := 78) dX7_hears_71 (by decide) (fun h71 => ?_) (fun h71 => ?_)
        · rw [if_pos h71] at ej52
          refine a_iconst (v := 0) dX7_hears_78 (by decide) ?_
          obtain rfl := Option.some.inj ej52
          exact KJ52
        · rw [if_neg h71] at ej52
          refine a_iconst (v := 1) dX7_hears_74 (by decide) ?_
          refine a_goto (tgt := 79) dX7_hears_75 (by decide) ?_
          obtain rfl := Option.some.inj ej52
          exact KJ52
  refine a_icmp_ge (tgt := 38) dX7_hears_31 (by decide) (fun h31 => ?_) (fun h31 => ?_)
  · rw [if_pos h31] at ej31
    refine a_iconst (v := 0) dX7_hears_38 (by decide) ?_
    subst ej31
    exact KJ31
  · rw [if_neg h31] at ej31
    refine a_iconst (v := 1) dX7_hears_34 (by decide) ?_
    refine a_goto (tgt := 39) dX7_hears_35 (by decide) ?_
    subst ej31
    exact KJ31
set_option maxHeartbeats 4000000 in
set_option maxRecDepth 100000 in
theorem ct_X7_go {g : GT} (hg : GR g) (p1 : Int32) (μ : MM)  {r : Int32 × MM} (hF : f_X7_go p1 μ = some r) : Ct g 2 mi_X7_go [.ref 144, .int p1] μ (QI r.1 r.2) := by
  refine ct_of (k := 4) (by decide +kernel) rfl hg.1 rfl ?_
  show WA g 2 mi_X7_go 0 [some (.ref 144), some (.int p1), none, none, none, none] [] μ (QI r.1 r.2)
  unfold f_X7_go at hF
  refine a_aload_0 dX7_go_0 ?_
  refine a_iload_1 dX7_go_1 ?_
  obtain ⟨x1, ex1, hF⟩ := ob_e hF
  refine a_iV1 dX7_go_2 cv_X7_168 (ct_X7_toGo hg p1 μ ex1) (by decide) (hg.d (by decide)) rfl (Nat.le_of_ble_eq_true rfl) ?_
  refine a_aload_0 dX7_go_5 ?_
  refine a_getR (q := 149) dX7_go_6 fa_X7_22 (hg.d (by decide)) rfl rfl ?_
  refine a_bipush (v := 10) dX7_go_9 (by decide) ?_
  refine a_ldC (j := 10) dX7_go_11 (hg.d (by decide)) rfl (vi (by decide)) (by decide) ?_
  refine a_isub dX7_go_12 ?_
  obtain ⟨v2, ev2, hF⟩ := bd_e hF
  refine a_nm ev2 ?_
  refine a_istore_2 dX7_go_13 (by decide) rfl ?_
  refine a_aload_0 dX7_go_14 ?_
  refine a_iload_1 dX7_go_15 ?_
  obtain ⟨x3, ex3, hF⟩ := ob_e hF
  refine a_iV1 dX7_go_16 cv_X7_172 (ct_X7_goesFrom hg p1 μ ex3) (by decide) (hg.d (by decide)) rfl (Nat.le_of_ble_eq_true rfl) ?_
  refine a_istore_3 dX7_go_19 (by decide) rfl ?_
  refine a_iload_2 dX7_go_20 ?_
  refine a_if_le (tgt := 50) dX7_go_21 (by decide) (fun h21 => ?_) (fun h21 => ?_)
  · rw [if_pos h21] at hF
    refine a_aload_0 dX7_go_50 ?_
    refine a_getR (q := 145) dX7_go_51 fa_X7_7 (hg.d (by decide)) rfl rfl ?_
    refine a_iload_3 dX7_go_54 ?_
    obtain ⟨hx55, hF⟩ := gd_e hF
    refine a_ldC dX7_go_55 (hg.d (by decide)) rfl hx55 rfl ?_
    obtain ⟨v4, ev4, hF⟩ := bd_e hF
    refine a_nm ev4 ?_
    refine a_istore_4 dX7_go_56 (by decide) rfl ?_
    refine a_aload_0 dX7_go_58 ?_
    refine a_iload_3 dX7_go_59 ?_
    refine a_aload_0 dX7_go_60 ?_
    refine a_iload_1 dX7_go_61 ?_
    obtain ⟨x5, ex5, hF⟩ := ob_e hF
    refine a_iV1 dX7_go_62 cv_X7_175 (ct_X7_wordOf hg p1 μ ex5) (by decide) (hg.d (by decide)) rfl (Nat.le_of_ble_eq_true rfl) ?_
    obtain ⟨x6, ex6, hF⟩ := ob_e hF
    refine a_iV2 dX7_go_65 cv_X7_185 (ct_X7_overFall hg x3 x5 μ ex6) (by decide) (hg.d (by decide)) rfl (Nat.le_of_ble_eq_true rfl) ?_
    refine a_istore_5 dX7_go_68 (by decide) rfl ?_
    refine a_aload_0 dX7_go_70 ?_
    refine a_iload_4 dX7_go_71 ?_
    refine a_iload_5 dX7_go_73 ?_
    refine a_aload_0 dX7_go_75 ?_
    refine a_iload_1 dX7_go_76 ?_
    obtain ⟨x7, ex7, hF⟩ := ob_e hF
    refine a_iV1 dX7_go_77 cv_X7_178 (ct_X7_saidAt hg p1 μ ex7) (by decide) (hg.d (by decide)) rfl (Nat.le_of_ble_eq_true rfl) ?_
    obtain ⟨x8, ex8, hF⟩ := ob_e hF
    refine a_vV3 dX7_go_80 cv_X7_188 (ct_X7_hears hg v4 x6 x7 μ ex8) (by decide) (hg.d (by decide)) rfl (Nat.le_of_ble_eq_true rfl) ?_
    refine a_aload_0 dX7_go_83 ?_
    refine a_getR (q := 149) dX7_go_84 fa_X7_22 (hg.d (by decide)) rfl rfl ?_
    refine a_bipush (v := 33) dX7_go_87 (by decide) ?_
    refine a_iload_1 dX7_go_89 ?_
    refine a_iadd dX7_go_90 ?_
    refine a_iconst (v := 4) dX7_go_91 (by decide) ?_
    refine a_aload_0 dX7_go_92 ?_
    refine a_getR (q := 146) dX7_go_93 fa_X7_13 (hg.d (by decide)) rfl rfl ?_
    refine a_iload_4 dX7_go_96 ?_
    obtain ⟨hx98, hF⟩ := gd_e hF
    refine a_ldC dX7_go_98 (hg.d (by decide)) rfl hx98 rfl ?_
    refine a_imul dX7_go_99 ?_
    refine a_iload_4 dX7_go_100 ?_
    refine a_iload_5 dX7_go_102 ?_
    refine a_aload_0 dX7_go_104 ?_
    refine a_iload_1 dX7_go_105 ?_
    obtain ⟨x9, ex9, hF⟩ := ob_e hF
    refine a_iV1 dX7_go_106 cv_X7_178 (ct_X7_saidAt hg p1 x8 ex9) (by decide) (hg.d (by decide)) rfl (Nat.le_of_ble_eq_true rfl) ?_
    obtain ⟨x10, ex10, hF⟩ := bd_e hF
    refine a_iS4 dX7_go_109 cs_X7_181 (ct_X7_packed hg (4 * (x8 146 (Int32.toNatClampNeg v4))) v4 x6 x9 x8 ex10.symm) (by decide) (Nat.le_of_ble_eq_true rfl) ?_
    obtain ⟨hx112, hF⟩ := gd_e hF
    obtain ⟨μ11, eμ11, hF⟩ := bd_e hF
    refine a_sI eμ11 dX7_go_112 (hg.d (by decide)) rfl hx112 rfl ?_
    refine a_aload_0 dX7_go_113 ?_
    refine a_iload_4 dX7_go_114 ?_
    obtain ⟨x12, ex12, hF⟩ := bd_e hF
    refine a_iV1 dX7_go_116 cv_X7_192 (ct_X7_stopsAt hg v4 μ11 ex12.symm) (by decide) (hg.d (by decide)) rfl (Nat.le_of_ble_eq_true rfl) ?_
    refine a_if_ne (tgt := 126) dX7_go_119 (by decide) (fun h119 => ?_) (fun h119 => ?_)
    · rw [if_neg h119] at hF
      refine a_iconst (v := 0) dX7_go_126 (by decide) ?_
      obtain rfl := Option.some.inj hF
      exact a_zret dX7_go_127 rfl (Or.inl rfl) ⟨rfl, rfl⟩
    · rw [if_pos h119] at hF
      refine a_iconst (v := 1) dX7_go_122 (by decide) ?_
      refine a_goto (tgt := 127) dX7_go_123 (by decide) ?_
      obtain rfl := Option.some.inj hF
      exact a_zret dX7_go_127 rfl (Or.inr rfl) ⟨rfl, rfl⟩
  · rw [if_neg h21] at hF
    refine a_aload_0 dX7_go_24 ?_
    refine a_getR (q := 149) dX7_go_25 fa_X7_22 (hg.d (by decide)) rfl rfl ?_
    refine a_bipush (v := 33) dX7_go_28 (by decide) ?_
    refine a_iload_1 dX7_go_30 ?_
    refine a_iadd dX7_go_31 ?_
    refine a_iload_2 dX7_go_32 ?_
    refine a_iload_3 dX7_go_33 ?_
    refine a_aload_0 dX7_go_34 ?_
    refine a_iload_1 dX7_go_35 ?_
    obtain ⟨x13, ex13, hF⟩ := ob_e hF
    refine a_iV1 dX7_go_36 cv_X7_175 (ct_X7_wordOf hg p1 μ ex13) (by decide) (hg.d (by decide)) rfl (Nat.le_of_ble_eq_true rfl) ?_
    refine a_aload_0 dX7_go_39 ?_
    refine a_iload_1 dX7_go_40 ?_
    obtain ⟨x14, ex14, hF⟩ := ob_e hF
    refine a_iV1 dX7_go_41 cv_X7_178 (ct_X7_saidAt hg p1 μ ex14) (by decide) (hg.d (by decide)) rfl (Nat.le_of_ble_eq_true rfl) ?_
    obtain ⟨x15, ex15, hF⟩ := bd_e hF
    refine a_iS4 dX7_go_44 cs_X7_181 (ct_X7_packed hg v2 x3 x13 x14 μ ex15.symm) (by decide) (Nat.le_of_ble_eq_true rfl) ?_
    obtain ⟨hx47, hF⟩ := gd_e hF
    obtain ⟨μ16, eμ16, hF⟩ := bd_e hF
    refine a_sI eμ16 dX7_go_47 (hg.d (by decide)) rfl hx47 rfl ?_
    refine a_iconst (v := 1) dX7_go_48 (by decide) ?_
    obtain rfl := Option.some.inj hF
    exact a_zret dX7_go_49 rfl (Or.inr rfl) ⟨rfl, rfl⟩
set_option maxHeartbeats 4000000 in
set_option maxRecDepth 100000 in
theorem ct_X7_goAll_L2 {g : GT} (hg : GR g)   {Q : Option Value → MM → Prop} : ∀ (n : Nat) (l1 : Int32) (μ : MM) (z : Int32 × MM), f_X7_goAll_L2  n l1 μ = some z → (WA g 3 mi_X7_goAll 28 [some (.ref 144), some (.int z.1), none] [] z.2 Q) → WA g 3 mi_X7_goAll 2 [some (.ref 144), some (.int l1), none] [] μ Q := by
  intro n
  induction n with
  | zero => intro l1 μ z hF; exact absurd hF (by simp [f_X7_goAll_L2])
  | succ n ih =>
    intro l1 μ z hF K
    unfold f_X7_goAll_L2 at hF
    refine a_iload_1 dX7_goAll_2 ?_
    refine a_bipush (v := 9) dX7_goAll_3 (by decide) ?_
    refine a_icmp_ge (tgt := 28) dX7_goAll_5 (by decide) (fun h5 => ?_) (fun h5 => ?_)
    · rw [if_pos h5] at hF
      obtain rfl := Option.some.inj hF
      exact K
    · rw [if_neg h5] at hF
      refine a_aload_0 dX7_goAll_8 ?_
      refine a_getR (q := 155) dX7_goAll_9 fa_X7_44 (hg.d (by decide)) rfl rfl ?_
      refine a_iload_1 dX7_goAll_12 ?_
      refine a_iconst (v := (-1)) dX7_goAll_13 (by decide) ?_
      obtain ⟨hx14, hF⟩ := gd_e hF
      obtain ⟨μ1, eμ1, hF⟩ := bd_e hF
      refine a_sI eμ1 dX7_goAll_14 (hg.d (by decide)) rfl hx14 rfl ?_
      refine a_aload_0 dX7_goAll_15 ?_
      refine a_getR (q := 156) dX7_goAll_16 fa_X7_47 (hg.d (by decide)) rfl rfl ?_
      refine a_iload_1 dX7_goAll_19 ?_
      refine a_iconst (v := 0) dX7_goAll_20 (by decide) ?_
      obtain ⟨hx21, hF⟩ := gd_e hF
      obtain ⟨μ2, eμ2, hF⟩ := bd_e hF
      refine a_sZ eμ2 dX7_goAll_21 (hg.d (by decide)) rfl hx21 rfl ?_
      refine a_iinc_1 (c0 := 1) dX7_goAll_22 (by decide) (by decide) rfl ?_
      refine a_goto (tgt := 2) dX7_goAll_25 (by decide) ?_
      exact ih (l1 + 1) μ2 _ hF K
set_option maxHeartbeats 4000000 in
set_option maxRecDepth 100000 in
theorem ct_X7_goAll_L30 {g : GT} (hg : GR g)   {Q : Option Value → MM → Prop} : ∀ (n : Nat) (l1 : Int32) (μ : MM) (z : Int32 × MM), f_X7_goAll_L30  n l1 μ = some z → (WA g 3 mi_X7_goAll 63 [some (.ref 144), some (.int z.1), none] [] z.2 Q) → WA g 3 mi_X7_goAll 30 [some (.ref 144), some (.int l1), none] [] μ Q := by
  intro n
  induction n with
  | zero => intro l1 μ z hF; exact absurd hF (by simp [f_X7_goAll_L30])
  | succ n ih =>
    intro l1 μ z hF K
    unfold f_X7_goAll_L30 at hF
    refine a_iload_1 dX7_goAll_30 ?_
    refine a_aload_0 dX7_goAll_31 ?_
    refine a_getR (q := 149) dX7_goAll_32 fa_X7_22 (hg.d (by decide)) rfl rfl ?_
    refine a_bipush (v := 32) dX7_goAll_35 (by decide) ?_
    refine a_ldC (j := 32) dX7_goAll_37 (hg.d (by decide)) rfl (vi (by decide)) (by decide) ?_
    refine a_icmp_ge (tgt := 63) dX7_goAll_38 (by decide) (fun h38 => ?_) (fun h38 => ?_)
    · rw [if_pos h38] at hF
      obtain rfl := Option.some.inj hF
      exact K
    · rw [if_neg h38] at hF
      refine a_aload_0 dX7_goAll_41 ?_
      refine a_iload_1 dX7_goAll_42 ?_
      obtain ⟨x4, ex4, hF⟩ := ob_e hF
      refine a_iV1 dX7_goAll_43 cv_X7_196 (ct_X7_go hg l1 μ ex4) (by decide) (hg.d (by decide)) rfl (Nat.le_of_ble_eq_true rfl) ?_
      refine a_if_eq (tgt := 55) dX7_goAll_46 (by decide) (fun h46 => ?_) (fun h46 => ?_)
      · rw [if_pos h46] at hF
        refine a_aload_0 dX7_goAll_55 ?_
        refine a_iload_1 dX7_goAll_56 ?_
        obtain ⟨x5, ex5, hF⟩ := ob_e hF
        refine a_vV1 dX7_goAll_57 cv_X7_199 (ct_X7_takeOff hg l1 x4.2 ex5) (by decide) (hg.d (by decide)) rfl (Nat.le_of_ble_eq_true rfl) ?_
        refine a_goto (tgt := 30) dX7_goAll_60 (by decide) ?_
        exact ih l1 x5 _ hF K
      · rw [if_neg h46] at hF
        refine a_iinc_1 (c0 := 1) dX7_goAll_49 (by decide) (by decide) rfl ?_
        refine a_goto (tgt := 30) dX7_goAll_52 (by decide) ?_
        exact ih (l1 + 1) x4.2 _ hF K
set_option maxHeartbeats 4000000 in
set_option maxRecDepth 100000 in
theorem ct_X7_goAll_L65 {g : GT} (hg : GR g) (l1 : Int32)  {Q : Option Value → MM → Prop} : ∀ (n : Nat) (l2 : Int32) (μ : MM) (z : Int32 × MM), f_X7_goAll_L65 l1 n l2 μ = some z → (WA g 3 mi_X7_goAll 113 [some (.ref 144), some (.int l1), some (.int z.1)] [] z.2 Q) → WA g 3 mi_X7_goAll 65 [some (.ref 144), some (.int l1), some (.int l2)] [] μ Q := by
  intro n
  induction n with
  | zero => intro l2 μ z hF; exact absurd hF (by simp [f_X7_goAll_L65])
  | succ n ih =>
    intro l2 μ z hF K
    unfold f_X7_goAll_L65 at hF
    refine a_iload_2 dX7_goAll_65 ?_
    refine a_bipush (v := 9) dX7_goAll_66 (by decide) ?_
    refine a_icmp_ge (tgt := 113) dX7_goAll_68 (by decide) (fun h68 => ?_) (fun h68 => ?_)
    · rw [if_pos h68] at hF
      obtain rfl := Option.some.inj hF
      exact K
    · rw [if_neg h68] at hF
      refine a_aload_0 dX7_goAll_71 ?_
      refine a_getR (q := 149) dX7_goAll_72 fa_X7_22 (hg.d (by decide)) rfl rfl ?_
      refine a_bipush (v := 13) dX7_goAll_75 (by decide) ?_
      refine a_dup2 dX7_goAll_77 rfl rfl ?_
      refine a_ldC (j := 13) dX7_goAll_78 (hg.d (by decide)) rfl (vi (by decide)) (by decide) ?_
      refine a_aload_0 dX7_goAll_79 ?_
      refine a_getR (q := 156) dX7_goAll_80 fa_X7_47 (hg.d (by decide)) rfl rfl ?_
      refine a_iload_2 dX7_goAll_83 ?_
      obtain ⟨hx84, hF⟩ := gd_e hF
      refine a_zldC dX7_goAll_84 (hg.d (by decide)) rfl hx84 rfl ?_
      refine a_if_eq (tgt := 104) dX7_goAll_85 (by decide) (fun h85 => ?_) (fun h85 => ?_)
      · rw [if_pos h85] at hF
        refine a_iconst (v := 0) dX7_goAll_104 (by decide) ?_
        refine a_iadd dX7_goAll_105 ?_
        obtain ⟨μ7, eμ7, hF⟩ := bd_e hF
        refine a_sI eμ7 dX7_goAll_106 (hg.d (by decide)) rfl (vi (by decide)) (by decide) ?_
        refine a_iinc_2 (c0 := 1) dX7_goAll_107 (by decide) (by decide) rfl ?_
        refine a_goto (tgt := 65) dX7_goAll_110 (by decide) ?_
        exact ih (l2 + 1) μ7 _ hF K
      · rw [if_neg h85] at hF
        refine a_aload_0 dX7_goAll_88 ?_
        refine a_getR (q := 149) dX7_goAll_89 fa_X7_22 (hg.d (by decide)) rfl rfl ?_
        refine a_bipush (v := 13) dX7_goAll_92 (by decide) ?_
        refine a_ldC (j := 13) dX7_goAll_94 (hg.d (by decide)) rfl (vi (by decide)) (by decide) ?_
        refine a_ldc dX7_goAll_95 k_X7_167 ?_
        refine a_icmp_ge (tgt := 104) dX7_goAll_97 (by decide) (fun h97 => ?_) (fun h97 => ?_)
        · rw [if_pos h97] at hF
          refine a_iconst (v := 0) dX7_goAll_104 (by decide) ?_
          refine a_iadd dX7_goAll_105 ?_
          obtain ⟨μ8, eμ8, hF⟩ := bd_e hF
          refine a_sI eμ8 dX7_goAll_106 (hg.d (by decide)) rfl (vi (by decide)) (by decide) ?_
          refine a_iinc_2 (c0 := 1) dX7_goAll_107 (by decide) (by decide) rfl ?_
          refine a_goto (tgt := 65) dX7_goAll_110 (by decide) ?_
          exact ih (l2 + 1) μ8 _ hF K
        · rw [if_neg h97] at hF
          refine a_iconst (v := 1) dX7_goAll_100 (by decide) ?_
          refine a_goto (tgt := 105) dX7_goAll_101 (by decide) ?_
          refine a_iadd dX7_goAll_105 ?_
          obtain ⟨μ9, eμ9, hF⟩ := bd_e hF
          refine a_sI eμ9 dX7_goAll_106 (hg.d (by decide)) rfl (vi (by decide)) (by decide) ?_
          refine a_iinc_2 (c0 := 1) dX7_goAll_107 (by decide) (by decide) rfl ?_
          refine a_goto (tgt := 65) dX7_goAll_110 (by decide) ?_
          exact ih (l2 + 1) μ9 _ hF K
set_option maxHeartbeats 4000000 in
set_option maxRecDepth 100000 in
theorem ct_X7_goAll {g : GT} (hg : GR g)  (μ : MM)  {r : MM} (hF : f_X7_goAll  μ = some r) : Ct g 3 mi_X7_goAll [.ref 144] μ (QV r) := by
  refine ct_of (k := 2) (by decide +kernel) rfl hg.1 rfl ?_
  show WA g 3 mi_X7_goAll 0 [some (.ref 144), none, none] [] μ (QV r)
  unfold f_X7_goAll at hF
  refine a_iconst (v := 0) dX7_goAll_0 (by decide) ?_
  refine a_istore_1 dX7_goAll_1 (by decide) rfl ?_
  obtain ⟨z3, ez3, hF⟩ := ob_e hF
  refine ct_X7_goAll_L2 hg   FU 0 μ z3 ez3 ?_
  refine a_iconst (v := 0) dX7_goAll_28 (by decide) ?_
  refine a_istore_1 dX7_goAll_29 (by decide) rfl ?_
  obtain ⟨z6, ez6, hF⟩ := ob_e hF
  refine ct_X7_goAll_L30 hg   FU 0 z3.2 z6 ez6 ?_
  refine a_iconst (v := 0) dX7_goAll_63 (by decide) ?_
  refine a_istore_2 dX7_goAll_64 (by decide) rfl ?_
  obtain ⟨z10, ez10, hF⟩ := ob_e hF
  refine ct_X7_goAll_L65 hg z6.1  FU 0 z6.2 z10 ez10 ?_
  obtain rfl := Option.some.inj hF
  exact a_vret dX7_goAll_113 rfl ⟨rfl, rfl⟩
