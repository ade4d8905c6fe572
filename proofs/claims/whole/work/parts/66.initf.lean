/-! the constructors: what the tables say, and the leaves, by program (wip/whole/mk_init.py) -/
abbrev mi_X0_init : MI := (RX0, cX0_init, 1, none, yX0_init)
theorem co_X0_init : Cond.code yX0_init cX0_init 1 none ∈ wG := in_ix 265 (by decide +kernel) rfl
theorem im_X0_init : Cond.instanceMethod yX0_init ∈ wG := in_ix 264 (by decide +kernel) rfl
theorem oi_X0 : OI RX0 3 := in_ix 266 (by decide +kernel) rfl
theorem ff_X0_9 : FF RX0 9 0 0 := ⟨RX0, TX0, 3, tyX0, cls_X0, by decide, in_ix 267 (by decide +kernel) rfl, rfl, rfl, fun _ => rfl, fun _ => rfl⟩
theorem ff_X0_15 : FF RX0 15 0 1 := ⟨RX0, TX0, 3, tyX0, cls_X0, by decide, in_ix 268 (by decide +kernel) rfl, rfl, rfl, fun _ => rfl, fun _ => rfl⟩
abbrev mi_X1_init : MI := (RX1, cX1_init, 1, none, yX1_init)
theorem co_X1_init : Cond.code yX1_init cX1_init 1 none ∈ wG := in_ix 128 (by decide +kernel) rfl
theorem im_X1_init : Cond.instanceMethod yX1_init ∈ wG := in_ix 127 (by decide +kernel) rfl
theorem oi_X1 : OI RX1 3 := in_ix 129 (by decide +kernel) rfl
theorem ff_X1_9 : FF RX1 9 1 3 := ⟨RX1, TX1, 7, tyX1, cls_X1, by decide, in_ix 140 (by decide +kernel) rfl, rfl, rfl, fun _ => rfl, fun _ => rfl⟩
theorem ff_X1_15 : FF RX1 15 1 4 := ⟨RX1, TX1, 7, tyX1, cls_X1, by decide, in_ix 143 (by decide +kernel) rfl, rfl, rfl, fun _ => rfl, fun _ => rfl⟩
theorem ff_X1_18 : FF RX1 18 1 5 := ⟨RX1, TX1, 7, tyX1, cls_X1, by decide, in_ix 145 (by decide +kernel) rfl, rfl, rfl, fun _ => rfl, fun _ => rfl⟩
theorem ff_X1_21 : FF RX1 21 1 6 := ⟨RX1, TX1, 7, tyX1, cls_X1, by decide, in_ix 147 (by decide +kernel) rfl, rfl, rfl, fun _ => rfl, fun _ => rfl⟩
abbrev mi_X2_init : MI := (RX2, cX2_init, 1, none, yX2_init)
theorem co_X2_init : Cond.code yX2_init cX2_init 1 none ∈ wG := in_ix 245 (by decide +kernel) rfl
theorem im_X2_init : Cond.instanceMethod yX2_init ∈ wG := in_ix 244 (by decide +kernel) rfl
theorem oi_X2 : OI RX2 3 := in_ix 246 (by decide +kernel) rfl
theorem ff_X2_9 : FF RX2 9 2 0 := ⟨RX2, TX2, 4, tyX2, cls_X2, by decide, in_ix 247 (by decide +kernel) rfl, rfl, rfl, fun _ => rfl, fun _ => rfl⟩
theorem ff_X2_15 : FF RX2 15 2 1 := ⟨RX2, TX2, 4, tyX2, cls_X2, by decide, in_ix 248 (by decide +kernel) rfl, rfl, rfl, fun _ => rfl, fun _ => rfl⟩
theorem ff_X2_18 : FF RX2 18 2 2 := ⟨RX2, TX2, 4, tyX2, cls_X2, by decide, in_ix 249 (by decide +kernel) rfl, rfl, rfl, fun _ => rfl, fun _ => rfl⟩
abbrev mi_X3_init : MI := (RX3, cX3_init, 2, none, yX3_init)
theorem co_X3_init : Cond.code yX3_init cX3_init 2 none ∈ wG := in_ix 225 (by decide +kernel) rfl
theorem im_X3_init : Cond.instanceMethod yX3_init ∈ wG := in_ix 224 (by decide +kernel) rfl
theorem oi_X3 : OI RX3 3 := in_ix 226 (by decide +kernel) rfl
theorem ff_X3_11 : FF RX3 11 3 0 := ⟨RX3, TX3, 3, tyX3, cls_X3, by decide, in_ix 230 (by decide +kernel) rfl, rfl, rfl, fun _ => rfl, fun _ => rfl⟩
abbrev mi_X4_init : MI := (RX4, cX4_init, 1, none, yX4_init)
theorem co_X4_init : Cond.code yX4_init cX4_init 1 none ∈ wG := in_ix 101 (by decide +kernel) rfl
theorem im_X4_init : Cond.instanceMethod yX4_init ∈ wG := in_ix 100 (by decide +kernel) rfl
theorem oi_X4 : OI RX4 3 := in_ix 102 (by decide +kernel) rfl
theorem ff_X4_9 : FF RX4 9 4 0 := ⟨RX4, TX4, 5, tyX4, cls_X4, by decide, in_ix 103 (by decide +kernel) rfl, rfl, rfl, fun _ => rfl, fun _ => rfl⟩
theorem fpi_X4_15 : FP RX4 15 4 4 .int := ⟨RX4, TX4, 5, tyX4, cls_X4, by decide, in_ix 110 (by decide +kernel) rfl, rfl, rfl⟩
abbrev mi_X5_init : MI := (RX5, cX5_init, 1, none, yX5_init)
theorem co_X5_init : Cond.code yX5_init cX5_init 1 none ∈ wG := in_ix 169 (by decide +kernel) rfl
theorem im_X5_init : Cond.instanceMethod yX5_init ∈ wG := in_ix 168 (by decide +kernel) rfl
theorem oi_X5 : OI RX5 3 := in_ix 170 (by decide +kernel) rfl
theorem ff_X5_9 : FF RX5 9 5 8 := ⟨RX5, TX5, 13, tyX5, cls_X5, by decide, in_ix 186 (by decide +kernel) rfl, rfl, rfl, fun _ => rfl, fun _ => rfl⟩
theorem ff_X5_15 : FF RX5 15 5 9 := ⟨RX5, TX5, 13, tyX5, cls_X5, by decide, in_ix 187 (by decide +kernel) rfl, rfl, rfl, fun _ => rfl, fun _ => rfl⟩
theorem ff_X5_18 : FF RX5 18 5 10 := ⟨RX5, TX5, 13, tyX5, cls_X5, by decide, in_ix 188 (by decide +kernel) rfl, rfl, rfl, fun _ => rfl, fun _ => rfl⟩
theorem ff_X5_21 : FF RX5 21 5 11 := ⟨RX5, TX5, 13, tyX5, cls_X5, by decide, in_ix 190 (by decide +kernel) rfl, rfl, rfl, fun _ => rfl, fun _ => rfl⟩
theorem ff_X5_24 : FF RX5 24 5 12 := ⟨RX5, TX5, 13, tyX5, cls_X5, by decide, in_ix 192 (by decide +kernel) rfl, rfl, rfl, fun _ => rfl, fun _ => rfl⟩
abbrev mi_X6_init : MI := (RX6, cX6_init, 2, none, yX6_init)
theorem co_X6_init : Cond.code yX6_init cX6_init 2 none ∈ wG := in_ix 93 (by decide +kernel) rfl
theorem im_X6_init : Cond.instanceMethod yX6_init ∈ wG := in_ix 92 (by decide +kernel) rfl
theorem oi_X6 : OI RX6 1 := in_ix 94 (by decide +kernel) rfl
theorem ff_X6_10 : FF RX6 10 6 0 := ⟨RX6, TX6, 12, tyX6, cls_X6, by decide, in_ix 278 (by decide +kernel) rfl, rfl, rfl, fun _ => rfl, fun _ => rfl⟩
theorem ff_X6_19 : FF RX6 19 6 1 := ⟨RX6, TX6, 12, tyX6, cls_X6, by decide, in_ix 279 (by decide +kernel) rfl, rfl, rfl, fun _ => rfl, fun _ => rfl⟩
theorem ff_X6_23 : FF RX6 23 6 2 := ⟨RX6, TX6, 12, tyX6, cls_X6, by decide, in_ix 280 (by decide +kernel) rfl, rfl, rfl, fun _ => rfl, fun _ => rfl⟩
theorem ff_X6_29 : FF RX6 29 6 3 := ⟨RX6, TX6, 12, tyX6, cls_X6, by decide, in_ix 281 (by decide +kernel) rfl, rfl, rfl, fun _ => rfl, fun _ => rfl⟩
theorem ff_X6_33 : FF RX6 33 6 4 := ⟨RX6, TX6, 12, tyX6, cls_X6, by decide, in_ix 282 (by decide +kernel) rfl, rfl, rfl, fun _ => rfl, fun _ => rfl⟩
theorem ff_X6_39 : FF RX6 39 6 5 := ⟨RX6, TX6, 12, tyX6, cls_X6, by decide, in_ix 283 (by decide +kernel) rfl, rfl, rfl, fun _ => rfl, fun _ => rfl⟩
theorem ff_X6_43 : FF RX6 43 6 6 := ⟨RX6, TX6, 12, tyX6, cls_X6, by decide, in_ix 284 (by decide +kernel) rfl, rfl, rfl, fun _ => rfl, fun _ => rfl⟩
theorem ff_X6_47 : FF RX6 47 6 7 := ⟨RX6, TX6, 12, tyX6, cls_X6, by decide, in_ix 285 (by decide +kernel) rfl, rfl, rfl, fun _ => rfl, fun _ => rfl⟩
theorem ff_X6_54 : FF RX6 54 6 10 := ⟨RX6, TX6, 12, tyX6, cls_X6, by decide, in_ix 288 (by decide +kernel) rfl, rfl, rfl, fun _ => rfl, fun _ => rfl⟩
theorem ff_X6_61 : FF RX6 61 6 11 := ⟨RX6, TX6, 12, tyX6, cls_X6, by decide, in_ix 289 (by decide +kernel) rfl, rfl, rfl, fun _ => rfl, fun _ => rfl⟩
abbrev mi_X7_init : MI := (RX7, cX7_init, 1, none, yX7_init)
theorem co_X7_init : Cond.code yX7_init cX7_init 1 none ∈ wG := in_ix 764 (by decide +kernel) rfl
theorem im_X7_init : Cond.instanceMethod yX7_init ∈ wG := in_ix 763 (by decide +kernel) rfl
theorem oi_X7 : OI RX7 1 := in_ix 765 (by decide +kernel) rfl
theorem ff_X7_7 : FF RX7 7 7 3 := ⟨RX7, TX7, 36, tyX7, cls_X7, by decide, in_ix 773 (by decide +kernel) rfl, rfl, rfl, fun _ => rfl, fun _ => rfl⟩
theorem ff_X7_13 : FF RX7 13 7 4 := ⟨RX7, TX7, 36, tyX7, cls_X7, by decide, in_ix 774 (by decide +kernel) rfl, rfl, rfl, fun _ => rfl, fun _ => rfl⟩
theorem ff_X7_16 : FF RX7 16 7 5 := ⟨RX7, TX7, 36, tyX7, cls_X7, by decide, in_ix 775 (by decide +kernel) rfl, rfl, rfl, fun _ => rfl, fun _ => rfl⟩
theorem ff_X7_19 : FF RX7 19 7 6 := ⟨RX7, TX7, 36, tyX7, cls_X7, by decide, in_ix 776 (by decide +kernel) rfl, rfl, rfl, fun _ => rfl, fun _ => rfl⟩
theorem ff_X7_22 : FF RX7 22 7 7 := ⟨RX7, TX7, 36, tyX7, cls_X7, by decide, in_ix 777 (by decide +kernel) rfl, rfl, rfl, fun _ => rfl, fun _ => rfl⟩
theorem ff_X7_25 : FF RX7 25 7 9 := ⟨RX7, TX7, 36, tyX7, cls_X7, by decide, in_ix 779 (by decide +kernel) rfl, rfl, rfl, fun _ => rfl, fun _ => rfl⟩
theorem fpi_X7_28 : FP RX7 28 7 11 .int := ⟨RX7, TX7, 36, tyX7, cls_X7, by decide, in_ix 781 (by decide +kernel) rfl, rfl, rfl⟩
theorem ff_X7_32 : FF RX7 32 7 18 := ⟨RX7, TX7, 36, tyX7, cls_X7, by decide, in_ix 788 (by decide +kernel) rfl, rfl, rfl, fun _ => rfl, fun _ => rfl⟩
theorem ff_X7_35 : FF RX7 35 7 19 := ⟨RX7, TX7, 36, tyX7, cls_X7, by decide, in_ix 789 (by decide +kernel) rfl, rfl, rfl, fun _ => rfl, fun _ => rfl⟩
theorem ff_X7_38 : FF RX7 38 7 20 := ⟨RX7, TX7, 36, tyX7, cls_X7, by decide, in_ix 790 (by decide +kernel) rfl, rfl, rfl, fun _ => rfl, fun _ => rfl⟩
theorem ff_X7_41 : FF RX7 41 7 21 := ⟨RX7, TX7, 36, tyX7, cls_X7, by decide, in_ix 791 (by decide +kernel) rfl, rfl, rfl, fun _ => rfl, fun _ => rfl⟩
theorem ff_X7_44 : FF RX7 44 7 22 := ⟨RX7, TX7, 36, tyX7, cls_X7, by decide, in_ix 792 (by decide +kernel) rfl, rfl, rfl, fun _ => rfl, fun _ => rfl⟩
theorem ff_X7_47 : FF RX7 47 7 23 := ⟨RX7, TX7, 36, tyX7, cls_X7, by decide, in_ix 793 (by decide +kernel) rfl, rfl, rfl, fun _ => rfl, fun _ => rfl⟩
theorem ff_X7_51 : FF RX7 51 7 25 := ⟨RX7, TX7, 36, tyX7, cls_X7, by decide, in_ix 795 (by decide +kernel) rfl, rfl, rfl, fun _ => rfl, fun _ => rfl⟩
theorem ff_X7_54 : FF RX7 54 7 26 := ⟨RX7, TX7, 36, tyX7, cls_X7, by decide, in_ix 796 (by decide +kernel) rfl, rfl, rfl, fun _ => rfl, fun _ => rfl⟩
theorem ff_X7_57 : FF RX7 57 7 28 := ⟨RX7, TX7, 36, tyX7, cls_X7, by decide, in_ix 798 (by decide +kernel) rfl, rfl, rfl, fun _ => rfl, fun _ => rfl⟩
theorem ff_X7_60 : FF RX7 60 7 29 := ⟨RX7, TX7, 36, tyX7, cls_X7, by decide, in_ix 799 (by decide +kernel) rfl, rfl, rfl, fun _ => rfl, fun _ => rfl⟩
theorem ff_X7_63 : FF RX7 63 7 30 := ⟨RX7, TX7, 36, tyX7, cls_X7, by decide, in_ix 800 (by decide +kernel) rfl, rfl, rfl, fun _ => rfl, fun _ => rfl⟩
theorem ff_X7_66 : FF RX7 66 7 32 := ⟨RX7, TX7, 36, tyX7, cls_X7, by decide, in_ix 802 (by decide +kernel) rfl, rfl, rfl, fun _ => rfl, fun _ => rfl⟩
theorem ff_X7_69 : FF RX7 69 7 33 := ⟨RX7, TX7, 36, tyX7, cls_X7, by decide, in_ix 803 (by decide +kernel) rfl, rfl, rfl, fun _ => rfl, fun _ => rfl⟩
theorem ff_X7_72 : FF RX7 72 7 34 := ⟨RX7, TX7, 36, tyX7, cls_X7, by decide, in_ix 804 (by decide +kernel) rfl, rfl, rfl, fun _ => rfl, fun _ => rfl⟩
theorem ff_X7_75 : FF RX7 75 7 35 := ⟨RX7, TX7, 36, tyX7, cls_X7, by decide, in_ix 805 (by decide +kernel) rfl, rfl, rfl, fun _ => rfl, fun _ => rfl⟩
theorem nw_X3_9 : NW RX3 9 5 13 [.int 0, .int 0, .int 0, .int 0, .int 0, .int 0, .int 0, .int 0, .null, .null, .null, .null, .null] := ⟨RX5, TX5, tyX5, cls_X5, in_ix 227 (by decide +kernel) rfl, in_ix 166 (by decide +kernel) rfl, ini_X5, fun j hj => by rcases (show j = 0 ∨ j = 1 ∨ j = 2 ∨ j = 3 ∨ j = 4 ∨ j = 5 ∨ j = 6 ∨ j = 7 ∨ j = 8 ∨ j = 9 ∨ j = 10 ∨ j = 11 ∨ j = 12 by omega) with rfl | rfl | rfl | rfl | rfl | rfl | rfl | rfl | rfl | rfl | rfl | rfl | rfl <;> rfl⟩
theorem in_X3_17 : IN RX3 17 mi_X5_init := ⟨⟨"BeckTalk", List.mem_filter.mpr ⟨List.mem_of_getElem? (i := 153) (by decide +kernel), rfl⟩⟩, im_X5_init, ini_X5, co_X5_init, rfl, rfl, ⟨by decide +kernel, by decide +kernel, by decide +kernel⟩⟩
theorem nw_X6_7 : NW RX6 7 4 5 [.null, .int 0, .int 0, .int 0, .int 0] := ⟨RX4, TX4, tyX4, cls_X4, in_ix 97 (by decide +kernel) rfl, in_ix 98 (by decide +kernel) rfl, ini_X4, fun j hj => by rcases (show j = 0 ∨ j = 1 ∨ j = 2 ∨ j = 3 ∨ j = 4 by omega) with rfl | rfl | rfl | rfl | rfl <;> rfl⟩
theorem in_X6_9 : IN RX6 9 mi_X4_init := ⟨⟨"BeckTalk", List.mem_filter.mpr ⟨List.mem_of_getElem? (i := 23) (by decide +kernel), rfl⟩⟩, im_X4_init, ini_X4, co_X4_init, rfl, rfl, ⟨by decide +kernel, by decide +kernel, by decide +kernel⟩⟩
theorem nw_X6_16 : NW RX6 16 1 7 [.int 0, .int 0, .int 0, .null, .null, .null, .null] := ⟨RX1, TX1, tyX1, cls_X1, in_ix 124 (by decide +kernel) rfl, in_ix 125 (by decide +kernel) rfl, ini_X1, fun j hj => by rcases (show j = 0 ∨ j = 1 ∨ j = 2 ∨ j = 3 ∨ j = 4 ∨ j = 5 ∨ j = 6 by omega) with rfl | rfl | rfl | rfl | rfl | rfl | rfl <;> rfl⟩
theorem in_X6_18 : IN RX6 18 mi_X1_init := ⟨⟨"BeckTalk", List.mem_filter.mpr ⟨List.mem_of_getElem? (i := 50) (by decide +kernel), rfl⟩⟩, im_X1_init, ini_X1, co_X1_init, rfl, rfl, ⟨by decide +kernel, by decide +kernel, by decide +kernel⟩⟩
theorem nw_X6_26 : NW RX6 26 5 13 [.int 0, .int 0, .int 0, .int 0, .int 0, .int 0, .int 0, .int 0, .null, .null, .null, .null, .null] := ⟨RX5, TX5, tyX5, cls_X5, in_ix 165 (by decide +kernel) rfl, in_ix 166 (by decide +kernel) rfl, ini_X5, fun j hj => by rcases (show j = 0 ∨ j = 1 ∨ j = 2 ∨ j = 3 ∨ j = 4 ∨ j = 5 ∨ j = 6 ∨ j = 7 ∨ j = 8 ∨ j = 9 ∨ j = 10 ∨ j = 11 ∨ j = 12 by omega) with rfl | rfl | rfl | rfl | rfl | rfl | rfl | rfl | rfl | rfl | rfl | rfl | rfl <;> rfl⟩
theorem in_X6_28 : IN RX6 28 mi_X5_init := ⟨⟨"BeckTalk", List.mem_filter.mpr ⟨List.mem_of_getElem? (i := 91) (by decide +kernel), rfl⟩⟩, im_X5_init, ini_X5, co_X5_init, rfl, rfl, ⟨by decide +kernel, by decide +kernel, by decide +kernel⟩⟩
theorem nw_X6_36 : NW RX6 36 3 3 [.null, .int 0, .int 0] := ⟨RX3, TX3, tyX3, cls_X3, in_ix 221 (by decide +kernel) rfl, in_ix 222 (by decide +kernel) rfl, ini_X3, fun j hj => by rcases (show j = 0 ∨ j = 1 ∨ j = 2 by omega) with rfl | rfl | rfl <;> rfl⟩
theorem is_X6_38 : IS RX6 38 mi_X3_init := ⟨in_ix 223 (by decide +kernel) rfl, im_X3_init, ini_X3, co_X3_init, rfl, rfl, ⟨by decide +kernel, by decide +kernel, by decide +kernel⟩⟩
theorem nw_X6_51 : NW RX6 51 2 4 [.null, .null, .null, .int 0] := ⟨RX2, TX2, tyX2, cls_X2, in_ix 241 (by decide +kernel) rfl, in_ix 242 (by decide +kernel) rfl, ini_X2, fun j hj => by rcases (show j = 0 ∨ j = 1 ∨ j = 2 ∨ j = 3 by omega) with rfl | rfl | rfl | rfl <;> rfl⟩
theorem in_X6_53 : IN RX6 53 mi_X2_init := ⟨⟨"BeckTalk", List.mem_filter.mpr ⟨List.mem_of_getElem? (i := 167) (by decide +kernel), rfl⟩⟩, im_X2_init, ini_X2, co_X2_init, rfl, rfl, ⟨by decide +kernel, by decide +kernel, by decide +kernel⟩⟩
theorem nw_X6_58 : NW RX6 58 0 3 [.null, .null, .int 0] := ⟨RX0, TX0, tyX0, cls_X0, in_ix 261 (by decide +kernel) rfl, in_ix 262 (by decide +kernel) rfl, ini_X0, fun j hj => by rcases (show j = 0 ∨ j = 1 ∨ j = 2 by omega) with rfl | rfl | rfl <;> rfl⟩
theorem in_X6_60 : IN RX6 60 mi_X0_init := ⟨⟨"BeckTalk", List.mem_filter.mpr ⟨List.mem_of_getElem? (i := 187) (by decide +kernel), rfl⟩⟩, im_X0_init, ini_X0, co_X0_init, rfl, rfl, ⟨by decide +kernel, by decide +kernel, by decide +kernel⟩⟩
theorem nw_L_7 : NW R_law 7 6 12 [.null, .null, .null, .null, .null, .null, .null, .null, .int 0, .int 0, .null, .null] := ⟨RX6, TX6, tyX6, cls_X6, in_ix 89 (by decide +kernel) rfl, in_ix 90 (by decide +kernel) rfl, ini_X6, fun j hj => by rcases (show j = 0 ∨ j = 1 ∨ j = 2 ∨ j = 3 ∨ j = 4 ∨ j = 5 ∨ j = 6 ∨ j = 7 ∨ j = 8 ∨ j = 9 ∨ j = 10 ∨ j = 11 by omega) with rfl | rfl | rfl | rfl | rfl | rfl | rfl | rfl | rfl | rfl | rfl | rfl <;> rfl⟩
theorem nw_L_10 : NW R_law 10 7 36 [.int 0, .int 0, .int 0, .null, .null, .null, .null, .null, .int 0, .null, .int 0, .int 0, .int 0, .int 0, .int 0, .int 0, .int 0, .int 0, .null, .null, .null, .null, .null, .null, .int 0, .null, .null, .int 0, .null, .null, .null, .int 0, .null, .null, .null, .null] := ⟨RX7, TX7, tyX7, cls_X7, in_ix 760 (by decide +kernel) rfl, in_ix 761 (by decide +kernel) rfl, ini_X7, fun j hj => by rcases (show j = 0 ∨ j = 1 ∨ j = 2 ∨ j = 3 ∨ j = 4 ∨ j = 5 ∨ j = 6 ∨ j = 7 ∨ j = 8 ∨ j = 9 ∨ j = 10 ∨ j = 11 ∨ j = 12 ∨ j = 13 ∨ j = 14 ∨ j = 15 ∨ j = 16 ∨ j = 17 ∨ j = 18 ∨ j = 19 ∨ j = 20 ∨ j = 21 ∨ j = 22 ∨ j = 23 ∨ j = 24 ∨ j = 25 ∨ j = 26 ∨ j = 27 ∨ j = 28 ∨ j = 29 ∨ j = 30 ∨ j = 31 ∨ j = 32 ∨ j = 33 ∨ j = 34 ∨ j = 35 by omega) with rfl | rfl | rfl | rfl | rfl | rfl | rfl | rfl | rfl | rfl | rfl | rfl | rfl | rfl | rfl | rfl | rfl | rfl | rfl | rfl | rfl | rfl | rfl | rfl | rfl | rfl | rfl | rfl | rfl | rfl | rfl | rfl | rfl | rfl | rfl | rfl <;> rfl⟩
theorem is_L_9 : IS R_law 9 mi_X6_init := ⟨in_ix 91 (by decide +kernel) rfl, im_X6_init, ini_X6, co_X6_init, rfl, rfl, ⟨by decide +kernel, by decide +kernel, by decide +kernel⟩⟩
theorem is_L_12 : IS R_law 12 mi_X7_init := ⟨in_ix 762 (by decide +kernel) rfl, im_X7_init, ini_X7, co_X7_init, rfl, rfl, ⟨by decide +kernel, by decide +kernel, by decide +kernel⟩⟩
