/-! THE LAW, from its entry: both objects are made; then its loop -/
set_option maxHeartbeats 4000000 in
theorem whole_start {p : Program} {e : Env} {s : State} {m : MethodId} {below : List Frame} {meth : Method} {c : Code} (l : Launch) {b L : Nat} {xs : Nat → Int32} (hL : L ≤ 2048) (C0 : lw_At p s m meth c b L xs) : W p l e room_1 s m #[Value.ref b] below meth c s.heap [] 0 0 (lw_Z below #[Value.ref b] s) (entryFrame m ([Value.ref b] : List Value).toArray 4) := by
  obtain ⟨hx, hb, hr, hml, hown, hts, hX, hbl, hlocks, hgv⟩ := id C0
  obtain ⟨D, T, hK⟩ := known l hts
  have htg : ∀ w ∈ wG, w.before #[Value.ref b] s = true := fun w h => hts w (wG_tbl h)
  have hA : ∀ q : Nat, s.heap.size ≤ q → (fun q : Nat => s.heap.size ≤ q) q := fun _ h => h
  have hS : va_S (fun q : Nat => s.heap.size ≤ q) s.heap s.heap [] := va_S.rf
  have hP : va_P D vwCl [] s.heap := fun k q h => (nilE h).elim
  have hD : va_D (fun q : Nat => s.heap.size ≤ q) [] := ⟨fun i j p q h => (nilE h).elim, fun k q h => (nilE h).elim⟩
  have hl := lv_entry ([.ref b]) (n := 4) (Nat.le_of_ble_eq_true rfl)
  rw [lg_entry_eq]
  generalize (lg_sl ([.ref b]) ++ List.replicate (4 - (lg_sl ([.ref b])).length) Slot.unset).toArray = ls at hl ⊢
  have hl : lv_has ls 4 [(0, .ref b)] := hl
  -- new BeckTalk()
  obtain ⟨C6, T6, ty6, ⟨n1, n2, n3, n4⟩, w1, w2, w3, hfs⟩ := nw_L_7
  refine va_new hx hb htg n2 ty6 n3 hown (htg _ w1) (htg _ w2) (htg _ w3) hK.1.1 hP hD hS hA n1 hfs (Nat.le_of_ble_eq_true rfl) (Nat.le_of_ble_eq_true rfl) dL_law_0 (fun q0 H hP hD hS => ?_)
  have hP : va_P D vwCl [(q0, e6)] H := hP
  have hD : va_D (fun q : Nat => s.heap.size ≤ q) [(q0, e6)] := hD
  have hq0 : s.heap.size ≤ q0 := hD.2 0 (q0, e6) rfl
  refine lv_dup hx hb dL_law_3 rfl ?_
  obtain ⟨v1, v2, v3, v4, v5, v6, hy⟩ := is_L_9
  have hG : GoodIn wG (.code yX6_init cX6_init 2 none :: wG) := by
    intro w h
    rcases List.mem_cons.mp h with rfl | h
    · exact good_wG v4
    · exact good_wG h
  have cw := cwI (R := room_1) (own := R_law) (index := 9) (rm := RB) (mc := 143) (ms := 3772) 0 htg hG rfl rfl rfl (htg _ v3) (htg _ v1) (htg _ v2) v6 hy ⟨Nat.le_of_ble_eq_true rfl, Nat.le_of_ble_eq_true rfl⟩
  have hFc : ∀ q', va_A [(q0, e6)] H.size q' → s.heap.size ≤ q' := by
    intro q' h
    rcases h with ⟨k, e1, h⟩ | h
    · cases List.mem_singleton.mp (List.mem_of_getElem? h)
      exact hq0
    · exact Nat.le_trans hS.1 h
  refine va_callv (va_runI (cc := code) (nL := 4) (Ts := wG) (own := R_law) (As := []) (rest := [.ref q0]) (g := F0 m 4 ls [.ref q0, .ref q0]) ⟨hx, hb, hml, hown, htg⟩ (ci_X6 (D := D) (T := T) q0 H.size) cw ⟨blindK, fun U hU hW => ⟨rfl, by rw [hU], by rw [hU]; exact hP, hK.moved hW⟩⟩ rfl rfl hl.1 rfl (lv_room (Nat.le_of_ble_eq_true rfl)) dL_law_4 ⟨Nat.le_of_ble_eq_true rfl, Nat.le_of_ble_eq_true rfl⟩) hS (fun q _ h => hFc q h) hFc (fun u t H1 locs ht hvm hw hB hz1 hk1 hS => ?_)
  obtain ⟨ad1, cm⟩ := u
  obtain ⟨hw0, hcm⟩ := hw
  obtain ⟨hP1, hI1, hA1, hK1⟩ := hB
  rw [ht] at hP1
  have hw0 : ad1 0 = q0 := hw0
  have hA1 : ∀ k, k < 144 → s.heap.size ≤ ad1 k := fun k hk => hFc _ (hA1 k ⟨Nat.zero_le _, by show k < 0 + 144; omega⟩)
  have hD1 : va_D (fun q : Nat => s.heap.size ≤ q) (eW (ad1, D, T, l, 0, 144) cm) := (eW_D hI1 cm).weaken (fun k q _ h => by
    obtain ⟨j, h1, h2⟩ := h
    rw [h2]
    exact hA1 j (by have h3 : j < 0 + 144 := h1.2; omega))
  refine lv_astore_n (lv' := [(1, .ref q0), (0, .ref b)]) hx hb dL_law_7 rfl hl (by decide) rfl (fun ls hl => ?_)
  -- new BeckTalkModel()
  obtain ⟨C7, T7, ty7, ⟨o1, o2, o3, o4⟩, x1, x2, x3, hfs7⟩ := nw_L_10
  refine va_new hx hb htg o2 ty7 o3 hown (htg _ x1) (htg _ x2) (htg _ x3) hK.1.1 hP1 hD1 hS hA o1 hfs7 (Nat.le_of_ble_eq_true rfl) (Nat.le_of_ble_eq_true rfl) dL_law_8 (fun q1 H2 hP2 hD2 hS2 => ?_)
  have hg1 : ∀ k, k < 144 → (eW (ad1, D, T, l, 0, 144) cm ++ [(q1, e7)])[k]? = some (ad1 k, eC (ad1, D, T, l, 0, 144) cm k) := by
    intro k hk
    have hd : dom (ad1, D, T, l, 0, 144) k := ⟨Nat.zero_le _, by show k < 0 + 144; omega⟩
    have h2 := eW_get (ad1, D, T, l, 0, 144) cm hd
    have h2 : (eW (ad1, D, T, l, 0, 144) cm)[k]? = some (ad1 k, eC (ad1, D, T, l, 0, 144) cm k) := h2
    rw [List.getElem?_append_left ((List.getElem?_eq_some_iff.mp h2).1), h2]
  have hlen : (eW (ad1, D, T, l, 0, 144) cm).length = 144 := by simp [eW]
  have hg2 : (eW (ad1, D, T, l, 0, 144) cm ++ [(q1, e7)])[144]? = some (q1, e7) := by
    rw [List.getElem?_append_right (by omega), hlen]
    rfl
  have hq1 : s.heap.size ≤ q1 := hD2.2 _ _ hg2
  have hne : ∀ k, k < 144 → ad1 k ≠ q1 := fun k hk h => by
    have := hD2.1 _ _ _ _ (hg1 k hk) hg2 h
    omega
  have hlt : ∀ k, k < 144 → ad1 k < H2.size := fun k hk => (hP2 _ _ (hg1 k hk)).lt
  have hPm : va_P D vwCl [(q1, e7)] H2 := P_iff.mpr fun x hx => by
    rw [List.mem_singleton.mp hx]
    exact hP2 _ _ hg2
  have hPc : VP (ad1, D, T, l, 0, 144) cm H2 := P_iff.mpr fun x hx => P_iff.mp hP2 x (List.mem_append_left _ hx)
  refine lv_dup hx hb dL_law_11 rfl ?_
  obtain ⟨y1, y2, y3, y4, y5, y6, hy7⟩ := is_L_12
  have hG7 : GoodIn wG (.code yX7_init cX7_init 1 none :: wG) := by
    intro w h
    rcases List.mem_cons.mp h with rfl | h
    · exact good_wG y4
    · exact good_wG h
  have cw7 := cwI (R := room_1) (own := R_law) (index := 12) (rm := RM) (mc := 21) (ms := 1706) 0 htg hG7 rfl rfl rfl (htg _ y3) (htg _ y1) (htg _ y2) y6 hy7 ⟨Nat.le_of_ble_eq_true rfl, Nat.le_of_ble_eq_true rfl⟩
  have hFc7 : ∀ q', va_A [(q1, e7)] H2.size q' → s.heap.size ≤ q' ∧ (q' = q1 ∨ H2.size ≤ q') := by
    intro q' h
    rcases h with ⟨k, e1, h⟩ | h
    · cases List.mem_singleton.mp (List.mem_of_getElem? h)
      exact ⟨hq1, Or.inl rfl⟩
    · exact ⟨Nat.le_trans hS2.1 h, Or.inr h⟩
  refine va_callv (va_runI (cc := code) (nL := 4) (Ts := wG) (own := R_law) (As := []) (rest := [.ref q1]) (g := F0 m 12 ls [.ref q1, .ref q1]) ⟨hx, hb, hml, hown, htg⟩ (ci_X7 (D := D) (T := T) q1 H2.size) cw7 ⟨blindK, fun U hU hW => ⟨rfl, by rw [hU], by rw [hU]; exact hPm, hK.moved hW⟩⟩ rfl rfl hl.1 rfl (lv_room (Nat.le_of_ble_eq_true rfl)) dL_law_12 ⟨Nat.le_of_ble_eq_true rfl, Nat.le_of_ble_eq_true rfl⟩) hS2 (fun q _ h => (hFc7 q h).1) (fun q h => (hFc7 q h).1) (fun u t H3 locs ht hvm hw hB hz1 hk1 hS => ?_)
  obtain ⟨ad2, mm⟩ := u
  obtain ⟨hw7, hmm⟩ := hw
  obtain ⟨hP3, hI2, hA2, hK3⟩ := hB
  rw [ht] at hP3
  have hw7 : ad2 144 = q1 := hw7
  have hA2 : ∀ k, 144 ≤ k → k < 166 → s.heap.size ≤ ad2 k ∧ (ad2 k = q1 ∨ H2.size ≤ ad2 k) := fun k h1 h2 => hFc7 _ (hA2 k ⟨h1, by show k < 144 + 22; omega⟩)
  have hPc3 : VP (ad1, D, T, l, 0, 144) cm H3 := VP.keep hPc (fun k hk => by
    have hk2 : k < 0 + 144 := hk.2
    have hk3 : k < 144 := by omega
    exact hk1 _ (hlt k hk3) (fun h => by
      rcases (hFc7 _ h).2 with h | h
      · exact hne k hk3 h
      · exact absurd (hlt k hk3) (Nat.not_lt.mpr h)))
  obtain ⟨ad, g1, g2⟩ : ∃ ad : Nat → Nat, (∀ k, k < 144 → ad k = ad1 k) ∧ ∀ k, 144 ≤ k → ad k = ad2 k := ⟨fun k => if k < 144 then ad1 k else ad2 k, fun k hk => if_pos hk, fun k hk => if_neg (by omega)⟩
  have hC : VP (gC ad D T l) cm H3 := by
    have h := eW_ad (D := D) (T := T) (l := l) (μ := cm) (ad := ad) (ad' := ad1) (a := 0) (b := 144) (fun k hk q hq => ⟨Nat.zero_le _, by rw [Nat.zero_add] at hq; have := clC k hk q hq; omega⟩) (fun k h1 h2 => g1 k (by omega))
    show va_P D vwCl (eW (ad, D, T, l, 0, 144) cm) H3
    rw [h]
    exact hPc3
  have hR : VP (gR ad D T l) mm H3 := by
    have h := eW_ad (D := D) (T := T) (l := l) (μ := mm) (ad := ad) (ad' := ad2) (a := 144) (b := 22) (fun k hk q hq => by have := clR k hk q hq; omega) (fun k h1 h2 => g2 k h1)
    show va_P D vwCl (eW (ad, D, T, l, 144, 22) mm) H3
    rw [h]
    exact hP3
  have mix : ∀ i j, i < 144 → 144 ≤ j → j < 166 → ad1 i ≠ ad2 j := fun i j hi hj1 hj2 h => by
    rcases (hA2 j hj1 hj2).2 with h2 | h2
    · exact hne i hi (h.trans h2)
    · have := hlt i hi; omega
  have X : LX l p s m meth c b L xs ad D T := by
    refine ⟨C0, hK.sk, fun i j hi hj h => ?_, fun k hk => ?_⟩
    · by_cases h1 : i < 144 <;> by_cases h2 : j < 144
      · rw [g1 i h1, g1 j h2] at h
        exact hI1 i j ⟨Nat.zero_le _, by show i < 0 + 144; omega⟩ ⟨Nat.zero_le _, by show j < 0 + 144; omega⟩ h
      · rw [g1 i h1, g2 j (by omega)] at h
        exact absurd h (mix i j h1 (by omega) hj)
      · rw [g2 i (by omega), g1 j h2] at h
        exact absurd h.symm (mix j i h2 (by omega) hi)
      · rw [g2 i (by omega), g2 j (by omega)] at h
        exact hI2 i j ⟨by show 144 ≤ i; omega, by show i < 144 + 22; omega⟩ ⟨by show 144 ≤ j; omega, by show j < 144 + 22; omega⟩ h
    · by_cases h1 : k < 144
      · rw [g1 k h1]; exact hA1 k h1
      · rw [g2 k (by omega)]; exact (hA2 k (by omega) hk).1
  have a0 : ad 0 = q0 := by rw [g1 0 (by decide)]; exact hw0
  have a144 : ad 144 = q1 := by rw [g2 144 (Nat.le_refl _)]; exact hw7
  refine lv_astore_n (lv' := [(2, .ref q1), (1, .ref q0), (0, .ref b)]) hx hb dL_law_15 rfl hl (by decide) rfl (fun ls hl => ?_)
  refine lv_iconst (v := nI 0) hx hb dL_law_16 rfl ?_
  refine lv_istore_n (lv' := [(3, .int (nI 0)), (2, .ref q1), (1, .ref q0), (0, .ref b)]) hx hb dL_law_17 rfl hl (by decide) rfl (fun ls hl => ?_)
  refine W.widen (k := 600000) (n := 7302249) (Nat.le_of_ble_eq_true rfl) (Nat.le_of_ble_eq_true rfl) ?_
  have hl : lv_has ls 4 [(0, .ref b), (1, .ref (ad 0)), (2, .ref (ad 144)), (3, .int (nI 0))] := by
    rw [a0, a144]
    exact lv_sub hl [3, 2, 1, 0] rfl
  exact l_loop X hL (L + 1) 0 cm mm (Nat.zero_le _) (by omega) (rel0 hcm hmm) H3 _ ls hC hR hS hl
