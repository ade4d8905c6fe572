/-! the loop of the law, by program (wip/whole/mk_law.py) -/
theorem and63 (x : Int32) : ∃ v, v < 64 ∧ x &&& 63 = nI v := by
  refine ⟨x.toBitVec.toNat % 64, Nat.mod_lt _ (by decide), ?_⟩
  have h := Nat.and_two_pow_sub_one_eq_mod x.toBitVec.toNat 6
  rw [show x.toBitVec.toNat % 64 = x.toBitVec.toNat &&& 63 from h.symm]
  apply Int32.toBitVec_inj.mp
  show (x &&& 63).toBitVec = (Int32.ofNat (x.toBitVec.toNat &&& 63)).toBitVec
  rw [Int32.toBitVec_and, Int32.toBitVec_ofNat', BitVec.ofNat_and, BitVec.ofNat_toNat, BitVec.setWidth_eq]
  rfl
theorem l_in {l : Launch} {p : Program} {e : Env} {s : State} {m : MethodId} {below : List Frame} {meth : Method} {c : Code} {b L : Nat} {xs : Nat → Int32} {ad : Nat → Nat} {D : va_G} {T : ClassId × ClassId × ClassId} {i : Int32} {v tgt : Nat} {off : Int} {cm mm : MM} (X : LX l p s m meth c b L xs ad D T) (hv : v < 36) (ho : (#[160, 183, 196, 209, 232, 265, 298, 331, 354, 387, 410, 449, 498, 521, 544, 567, 580, 603, 626, 669, 702, 745, 788, 811, 844, 887, 930, 963, 996, 1019, 1032, 1065, 1078, 1091, 1114, 1137] : Array Int)[v]? = some off) (ht : (32 : Int) + off = (tgt : Int)) (kk : LJ l p e s m below meth c b ad D T i tgt [] cm mm) : LJ l p e s m below meth c b ad D T i 32 [.int (nI v)] cm mm := by
  intro H locs lsA hC hR hS hl
  obtain ⟨⟨hx, hb, -⟩, -⟩ := id X
  have e := nI_toInt (n := v) (by omega)
  exact lv_tableIn hx hb dL_law_32 (by rw [e]; omega) (by rw [e]; omega) (by rw [e, show ((v : Int) - 0).toNat = v by omega]; exact ho) ht (kk H locs lsA hC hR hS hl)
theorem l_out {l : Launch} {p : Program} {e : Env} {s : State} {m : MethodId} {below : List Frame} {meth : Method} {c : Code} {b L : Nat} {xs : Nat → Int32} {ad : Nat → Nat} {D : va_G} {T : ClassId × ClassId × ClassId} {i : Int32} {v : Nat} {cm mm : MM} (X : LX l p s m meth c b L xs ad D T) (hv : 36 ≤ v) (hv2 : v < 64) (kk : LJ l p e s m below meth c b ad D T i 1192 [] cm mm) : LJ l p e s m below meth c b ad D T i 32 [.int (nI v)] cm mm := by
  intro H locs lsA hC hR hS hl
  obtain ⟨⟨hx, hb, -⟩, -⟩ := id X
  have e := nI_toInt (n := v) (by omega)
  exact lv_tableOut (tgt := 1192) hx hb dL_law_32 (by rw [e]; omega) (by decide) (kk H locs lsA hC hR hS hl)
theorem l_body {l : Launch} {p : Program} {e : Env} {s : State} {m : MethodId} {below : List Frame} {meth : Method} {c : Code} {b L : Nat} {xs : Nat → Int32} {ad : Nat → Nat} {D : va_G} {T : ClassId × ClassId × ClassId} (X : LX l p s m meth c b L xs ad D T) (hL : L ≤ 2048) {n : Nat} (hn : n + 4 ≤ L) {cm mm : MM} (hR : Rel cm mm) {v : Nat} (hv : v < 64) (kk : ∀ c2 m2, Rel c2 m2 → LJ l p e s m below meth c b ad D T (nI n) 1192 [] c2 m2) : LJ l p e s m below meth c b ad D T (nI n) 32 [.int (nI v)] cm mm := by
  have hc : v = 0 ∨ v = 1 ∨ v = 2 ∨ v = 3 ∨ v = 4 ∨ v = 5 ∨ v = 6 ∨ v = 7 ∨ v = 8 ∨ v = 9 ∨ v = 10 ∨ v = 11 ∨ v = 12 ∨ v = 13 ∨ v = 14 ∨ v = 15 ∨ v = 16 ∨ v = 17 ∨ v = 18 ∨ v = 19 ∨ v = 20 ∨ v = 21 ∨ v = 22 ∨ v = 23 ∨ v = 24 ∨ v = 25 ∨ v = 26 ∨ v = 27 ∨ v = 28 ∨ v = 29 ∨ v = 30 ∨ v = 31 ∨ v = 32 ∨ v = 33 ∨ v = 34 ∨ v = 35 ∨ 36 ≤ v := by omega
  rcases hc with rfl | rfl | rfl | rfl | rfl | rfl | rfl | rfl | rfl | rfl | rfl | rfl | rfl | rfl | rfl | rfl | rfl | rfl | rfl | rfl | rfl | rfl | rfl | rfl | rfl | rfl | rfl | rfl | rfl | rfl | rfl | rfl | rfl | rfl | rfl | rfl | h
  · exact l_in X (by decide) rfl (by decide) (lc_feed X hL hn hR kk)
  · exact l_in X (by decide) rfl (by decide) (lc_dale X hL hn hR kk)
  · exact l_in X (by decide) rfl (by decide) (lc_fault X hL hn hR kk)
  · exact l_in X (by decide) rfl (by decide) (lc_told X hL hn hR kk)
  · exact l_in X (by decide) rfl (by decide) (lc_farm X hL hn hR kk)
  · exact l_in X (by decide) rfl (by decide) (lc_talk X hL hn hR kk)
  · exact l_in X (by decide) rfl (by decide) (lc_logged X hL hn hR kk)
  · exact l_in X (by decide) rfl (by decide) (lc_hour X hL hn hR kk)
  · exact l_in X (by decide) rfl (by decide) (lc_say X hL hn hR kk)
  · exact l_in X (by decide) rfl (by decide) (lc_rain X hL hn hR kk)
  · exact l_in X (by decide) rfl (by decide) (lc_frost X hL hn hR kk)
  · exact l_in X (by decide) rfl (by decide) (lc_dam X hL hn hR kk)
  · exact l_in X (by decide) rfl (by decide) (lc_smooth X hL hn hR kk)
  · exact l_in X (by decide) rfl (by decide) (lc_hush X hL hn hR kk)
  · exact l_in X (by decide) rfl (by decide) (lc_drift X hL hn hR kk)
  · exact l_in X (by decide) rfl (by decide) (lc_undo X hL hn hR kk)
  · exact l_in X (by decide) rfl (by decide) (lc_down X hL hn hR kk)
  · exact l_in X (by decide) rfl (by decide) (lc_up X hL hn hR kk)
  · exact l_in X (by decide) rfl (by decide) (lc_becomes X hL hn hR kk)
  · exact l_in X (by decide) rfl (by decide) (lc_takes X hL hn hR kk)
  · exact l_in X (by decide) rfl (by decide) (lc_toSay X hL hn hR kk)
  · exact l_in X (by decide) rfl (by decide) (lc_origin X hL hn hR kk)
  · exact l_in X (by decide) rfl (by decide) (lc_privately X hL hn hR kk)
  · exact l_in X (by decide) rfl (by decide) (lc_dams X hL hn hR kk)
  · exact l_in X (by decide) rfl (by decide) (lc_willHear X hL hn hR kk)
  · exact l_in X (by decide) rfl (by decide) (lc_where X hL hn hR kk)
  · exact l_in X (by decide) rfl (by decide) (lc_dry X hL hn hR kk)
  · exact l_in X (by decide) rfl (by decide) (lc_see X hL hn hR kk)
  · exact l_in X (by decide) rfl (by decide) (lc_falls X hL hn hR kk)
  · exact l_in X (by decide) rfl (by decide) (lc_tryNext X hL hn hR kk)
  · exact l_in X (by decide) rfl (by decide) (lc_write X hL hn hR kk)
  · exact l_in X (by decide) rfl (by decide) (lc_tear X hL hn hR kk)
  · exact l_in X (by decide) rfl (by decide) (lc_judge X hL hn hR kk)
  · exact l_in X (by decide) rfl (by decide) (lc_seed X hL hn hR kk)
  · exact l_in X (by decide) rfl (by decide) (lc_keep X hL hn hR kk)
  · exact l_in X (by decide) rfl (by decide) (lc_goBack X hL hn hR kk)
  · exact l_out X h hv (kk cm mm hR)
theorem l_loop {l : Launch} {p : Program} {e : Env} {s : State} {m : MethodId} {below : List Frame} {meth : Method} {c : Code} {b L : Nat} {xs : Nat → Int32} {ad : Nat → Nat} {D : va_G} {T : ClassId × ClassId × ClassId} (X : LX l p s m meth c b L xs ad D T) (hL : L ≤ 2048) : ∀ (j n : Nat) (cm mm : MM), n ≤ L → L < n + j → Rel cm mm → LJ l p e s m below meth c b ad D T (nI n) 18 [] cm mm := by
  intro j
  induction j with
  | zero => intro n cm mm h1 h2; omega
  | succ j ih =>
    intro n cm mm h1 h2 hR H locs lsA hC hRR hS hl
    obtain ⟨hx, hb, hr, hml, hown, hts, hX, hbl, hlocks, hgv⟩ := X.1
    have hbA : ¬ (fun q : Nat => s.heap.size ≤ q) b := Nat.not_le.mpr hbl
    refine lv_iload_n hx hb dL_law_18 rfl (lv_at hl 3 rfl) ?_
    refine lv_aload_n hx hb dL_law_19 rfl (lv_at hl 0 rfl) ?_
    refine va_slen hx hb hX hbl hbA hS dL_law_20 ?_
    refine lv_iconst (v := nI 4) hx hb dL_law_21 rfl ?_
    refine lv_isub hx hb dL_law_22 ?_
    have e := pk_sub_toInt (a := L) (b := 4) (by omega) (by omega)
    have e2 := nI_toInt (n := n) (by omega)
    refine lv_icmp_gt (tgt := 1198) hx hb dL_law_23 (by decide) (fun h => ?_) (fun h => ?_)
    · refine lv_iconst (v := 1) hx hb dL_law_1198 (by decide) ?_
      refine va_forget (fun q hq => hS.2.2 q hq) ?_
      exact lw_ret hx hb hr hlocks dL_law_1199
    · have hn : n + 4 ≤ L := by
        have h : ¬ nI L - nI 4 < nI n := h
        rw [Int32.lt_iff_toInt_lt, e, e2] at h
        omega
      refine lv_aload_n hx hb dL_law_26 rfl (lv_at hl 0 rfl) ?_
      refine lv_iload_n hx hb dL_law_27 rfl (lv_at hl 3 rfl) ?_
      refine va_sld hx hb hX hbl hbA hS (vp_in_nI (show n < L by omega) (by omega)) dL_law_28 ?_
      refine lv_bipush (v := 63) hx hb dL_law_29 (by decide) ?_
      refine lv_iand hx hb dL_law_31 ?_
      obtain ⟨v, hv, ev⟩ := and63 (xs (nI n).toNatClampNeg)
      rw [ev]
      refine l_body X hL hn hR hv (fun c2 m2 hR2 => ?_) H locs lsA hC hRR hS hl
      intro H locs lsA hC hRR hS hl
      refine lv_iinc (v := nI (n + 4)) (lv' := [(3, .int (nI (n + 4))), (0, .ref b), (1, .ref (ad 0)), (2, .ref (ad 144))]) hx hb dL_law_1192 hl (k := 3) rfl (by rw [← nI_add]; rfl) (by decide) rfl (fun lsB hB => ?_)
      refine lv_goto (tgt := 18) hx hb dL_law_1195 (by decide) ?_
      exact ih (n + 4) c2 m2 hn (by omega) hR2 H locs lsB hC hRR hS (lv_sub hB [1, 2, 3, 0] rfl)
