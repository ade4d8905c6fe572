/-! THE LAW'S WALK: one call of the class, the same call of the reference, the same answer -/
theorem wG_tbl {w : Cond} (h : w ∈ wG) : w ∈ lw_tbl := (List.mem_filter.mp h).1
def gC (ad : Nat → Nat) (D : va_G) (T : ClassId × ClassId × ClassId) (l : Launch) : GT := (ad, D, T, l, 0, 144)
def gR (ad : Nat → Nat) (D : va_G) (T : ClassId × ClassId × ClassId) (l : Launch) : GT := (ad, D, T, l, 144, 22)
/-- what the law stands on -/
def LX (l : Launch) (p : Program) (s : State) (m : MethodId) (meth : Method) (c : Code) (b L : Nat) (xs : Nat → Int32) (ad : Nat → Nat) (D : va_G) (T : ClassId × ClassId × ClassId) : Prop :=
  lw_At p s m meth c b L xs ∧ SK (gC ad D T l) s ∧ (∀ i j, i < 166 → j < 166 → ad i = ad j → i = j) ∧ ∀ k, k < 166 → s.heap.size ≤ ad k
section LAW
variable {l : Launch} {p : Program} {e : Env} {s : State} {m : MethodId} {below : List Frame} {meth : Method} {c : Code} {b L : Nat} {xs : Nat → Int32} {ad : Nat → Nat} {D : va_G} {T : ClassId × ClassId × ClassId}
def LJ (l : Launch) (p : Program) (e : Env) (s : State) (m : MethodId) (below : List Frame) (meth : Method) (c : Code) (b : Nat) (ad : Nat → Nat) (D : va_G) (T : ClassId × ClassId × ClassId) (i : Int32) (pc : Nat) (st : List Value) (cm mm : MM) : Prop :=
  ∀ (H : Heap) (locs : List Loc) (lsA : Array Slot), VP (gC ad D T l) cm H → VP (gR ad D T l) mm H → va_S (fun q : Nat => s.heap.size ≤ q) s.heap H locs → lv_has lsA 4 [(0, .ref b), (1, .ref (ad 0)), (2, .ref (ad 144)), (3, .int i)] →
    W p l e room_1 s m #[Value.ref b] below meth c H locs 600000 7302249 (lw_Z below #[Value.ref b] s) (F0 m pc lsA st)
theorem gC_ok (X : LX l p s m meth c b L xs ad D T) : GC (gC ad D T l) := ⟨fun i j hi hj h => X.2.2.1 i j (by have := hi.2; have : i < 0 + 144 := this; omega) (by have := hj.2; have : j < 0 + 144 := this; omega) h, rfl⟩
theorem gR_ok (X : LX l p s m meth c b L xs ad D T) : GR (gR ad D T l) := ⟨fun i j hi hj h => X.2.2.1 i j (by have := hi.2; have : i < 144 + 22 := this; omega) (by have := hj.2; have : j < 144 + 22 := this; omega) h, rfl⟩
/-- cells that a call has left alone -/
theorem VP.keep {g : GT} {μ : MM} {H H1 : Heap} (h : VP g μ H) (hk : ∀ k, dom g k → H1[g.1 k]? = H[g.1 k]?) : VP g μ H1 := by
  intro k q hq
  have hkl : k < g.2.2.2.2.2 := by
    have := (List.getElem?_eq_some_iff.mp hq).1
    simpa [eW] using this
  have hd : dom g (g.2.2.2.2.1 + k) := ⟨Nat.le_add_right _ _, Nat.add_lt_add_left hkl _⟩
  have h2 := eW_get g μ hd
  rw [Nat.add_sub_cancel_left, hq] at h2
  have hq1 : q.1 = g.1 (g.2.2.2.2.1 + k) := by rw [Option.some.inj h2]
  have h3 := h k q hq
  have h4 : H1[q.1]? = H[q.1]? := by rw [hq1]; exact hk _ hd
  unfold va_at at h3 ⊢
  cases hE : q.2 with
  | inl a => rw [hE] at h3; simp only at h3 ⊢; rw [h4]; exact h3
  | inr o =>
    rw [hE] at h3
    simp only at h3 ⊢
    obtain ⟨r, r1, cell, r2, r3⟩ := h3
    exact ⟨r, r1, cell, by rw [h4]; exact r2, r3⟩
theorem l_a1 {i : Int32} {pc : Nat} {st : List Value} {cm mm : MM} (X : LX l p s m meth c b L xs ad D T) (hd : decode code pc = .ok (.aload_n 1, 1)) (kk : LJ l p e s m below meth c b ad D T i (pc + 1) (.ref (ad 0) :: st) cm mm) : LJ l p e s m below meth c b ad D T i pc st cm mm :=
  fun H locs lsA hC hR hS hl => lv_aload_n X.1.1 X.1.2.1 hd rfl (lv_at hl 1 rfl) (kk H locs lsA hC hR hS hl)
theorem l_a2 {i : Int32} {pc : Nat} {st : List Value} {cm mm : MM} (X : LX l p s m meth c b L xs ad D T) (hd : decode code pc = .ok (.aload_n 2, 1)) (kk : LJ l p e s m below meth c b ad D T i (pc + 1) (.ref (ad 144) :: st) cm mm) : LJ l p e s m below meth c b ad D T i pc st cm mm :=
  fun H locs lsA hC hR hS hl => lv_aload_n X.1.1 X.1.2.1 hd rfl (lv_at hl 2 rfl) (kk H locs lsA hC hR hS hl)
/-- script[i + k] -/
theorem l_arg {n k : Nat} {kI : Int} {pc : Nat} {st : List Value} {cm mm : MM} (X : LX l p s m meth c b L xs ad D T) (hn : n + k < L) (hL : L ≤ 2048) (hk : Int32.ofInt kI = nI k) (d0 : decode code pc = .ok (.aload_n 0, 1)) (d1 : decode code (pc + 1) = .ok (.iload_n 3, 1)) (d2 : decode code (pc + 2) = .ok (.iconst kI, 1)) (d3 : decode code (pc + 3) = .ok (.iadd, 1)) (d4 : decode code (pc + 4) = .ok (.iaload, 1)) (kk : LJ l p e s m below meth c b ad D T (nI n) (pc + 5) (.int (xs (n + k)) :: st) cm mm) : LJ l p e s m below meth c b ad D T (nI n) pc st cm mm := by
  intro H locs lsA hC hR hS hl
  obtain ⟨⟨hx, hb, hr, hml, hown, hts, hX, hbl, hlocks, hgv⟩, -⟩ := id X
  refine lv_aload_n hx hb d0 rfl (lv_at hl 0 rfl) ?_
  refine lv_iload_n hx hb d1 rfl (lv_at hl 3 rfl) ?_
  refine lv_iconst (v := nI k) hx hb d2 hk ?_
  refine lv_iadd hx hb d3 ?_
  rw [nI_add]
  have hbA : ¬ (fun q : Nat => s.heap.size ≤ q) b := Nat.not_le.mpr hbl
  refine va_sld hx hb hX hbl hbA hS (vp_in_nI hn (by omega)) d4 ?_
  rw [nI_clamp (by omega)]
  exact kk H locs lsA hC hR hS hl
def bz (v : Int32) : Int32 := if v = 0 then 0 else 1
theorem bz_01 (v : Int32) : bz v = 0 ∨ bz v = 1 := by unfold bz; split <;> simp
/-- is it 0 or not -/
theorem l_bool {i v : Int32} {pc : Nat} {st : List Value} {cm mm : MM} (X : LX l p s m meth c b L xs ad D T) (d0 : decode code pc = .ok (.ifCond .eq 7, 3)) (d1 : decode code (pc + 3) = .ok (.iconst 1, 1)) (d2 : decode code (pc + 3 + 1) = .ok (.goto 4, 3)) (d3 : decode code (pc + 7) = .ok (.iconst 0, 1)) (kk : LJ l p e s m below meth c b ad D T i (pc + 8) (.int (bz v) :: st) cm mm) : LJ l p e s m below meth c b ad D T i pc (.int v :: st) cm mm := by
  intro H locs lsA hC hR hS hl
  obtain ⟨⟨hx, hb, -⟩, -⟩ := id X
  refine lv_if_eq (tgt := pc + 7) hx hb d0 (by omega) (fun h => ?_) (fun h => ?_)
  · refine lv_iconst (v := 0) hx hb d3 (by decide) ?_
    have := kk H locs lsA hC hR hS hl
    unfold bz at this
    rw [if_pos h] at this
    exact this
  · refine lv_iconst (v := 1) hx hb d1 (by decide) ?_
    refine lv_goto (tgt := pc + 8) hx hb d2 (by omega) ?_
    have := kk H locs lsA hC hR hS hl
    unfold bz at this
    rw [if_neg h] at this
    exact this
/-- both have answered the same -/
theorem l_same {i v : Int32} {pc : Nat} {off : Int} {cm mm : MM} (X : LX l p s m meth c b L xs ad D T) (d0 : decode code pc = .ok (.if_icmp .eq off, 3)) (ht : (pc : Int) + off = 1192) (kk : LJ l p e s m below meth c b ad D T i 1192 [] cm mm) : LJ l p e s m below meth c b ad D T i pc [.int v, .int v] cm mm := by
  intro H locs lsA hC hR hS hl
  obtain ⟨⟨hx, hb, -⟩, -⟩ := id X
  exact lv_icmp_eq (tgt := 1192) hx hb d0 ht (fun _ => kk H locs lsA hC hR hS hl) (fun h => absurd rfl h)
/-- a call of either side; g is its part of the memory -/
theorem l_run {g : GT} {pc d' idx ci n k0 : Nat} {cal : MI} {As : List Value} {st : List Value} {μ : MM} {H : Heap} {locs : List Loc} {lsA : Array Slot} {fs : List (Option Nat)} {Q' : Option Value → MM → Prop} {Qf : State → Prop} (X : LX l p s m meth c b L xs ad D T) (hgl : g.2.2.2.1 = l) (hSK : SK g s) (hgA : ∀ k, dom g k → s.heap.size ≤ g.1 k) (hd : decode code pc = .ok (.invokevirtual idx, 3)) (hw : CV R_law idx ci n cal) (hct : Ct g d' cal (.ref k0 :: As) μ Q') (hdd : d' + 1 ≤ 9 ∧ 8 + (cal.2.2.1 + 11) + 36 * d' ≤ 314) (hb0 : dom g k0) (hs : sh k0 = .inl (ci, fs)) (hn : As.length = n) (hst : (st.map fun v => v.category).sum ≤ 8) (hP : VP g μ H) (hS : va_S (fun q : Nat => s.heap.size ≤ q) s.heap H locs) (hl : lsA.size = 4)
    (kk : ∀ (rv : Option Value) (μ' : MM) (H1 : Heap) (locs1 : List Loc), Q' rv μ' → VP g μ' H1 → (∀ q : Nat, q < H.size → ¬ inA g q → H1[q]? = H[q]?) → va_S (fun q : Nat => s.heap.size ≤ q) s.heap H1 locs1 → W p l e room_1 s m #[Value.ref b] below meth c H1 locs1 600000 7302249 Qf (F0 m (pc + 3) lsA ((rv.map (cv g)).toList ++ st))) :
    W p l e room_1 s m #[Value.ref b] below meth c H locs 600000 7302249 Qf (F0 m pc lsA ((As.map (cv g)).reverse ++ .ref (g.1 k0) :: st)) := by
  obtain ⟨⟨hx, hb, hr, hml, hown, hts, hX, hbl, hlocks, hgv⟩, -⟩ := id X
  subst hgl
  obtain ⟨⟨T1, N1, hci⟩, w1, w2, w3, w4, w5, hy⟩ := hw
  have htw : ∀ w ∈ wG, w.before #[Value.ref b] s = true := fun w h => hts w (wG_tbl h)
  have hG : GoodIn wG (wsV R_law idx cal.1 cal.2.2.2.2 (.code cal.2.2.2.2 cal.2.1 cal.2.2.1 cal.2.2.2.1 :: wG)) := by
    intro w h
    unfold wsV at h
    simp only [List.cons_append, List.nil_append, List.mem_cons] at h
    rcases h with rfl | rfl | rfl | rfl | rfl | h
    · exact good_wG w1
    · exact good_wG w2
    · exact good_wG w3
    · exact good_wG w4
    · exact good_wG w5
    · exact good_wG h
  have cw := cwV (R := room_1) (own := R_law) (index := idx) (rm := rmD d') (mc := 0) (ms := 0) n htw hG rfl rfl rfl hy ⟨hdd.1, hdd.2⟩
  have hg := eW_get g μ hb0
  rw [eC_obj hs] at hg
  have hrecv := va_recv hSK.1 hP hci hg
  have hrun := va_runV (cc := code) (nL := 4) (Ts := wG) (own := R_law) (As := As.map (cv g)) (rest := st) (p := p) (e := e) (below := below) (meth := meth) (locs := locs) (cells := 600000) (slots := 7302249) (g := F0 m pc lsA ((As.map (cv g)).reverse ++ .ref (g.1 k0) :: st)) ⟨hx, hb, hml, hown, htw⟩ hct cw ⟨blindA (as := .ref k0 :: As), hrecv, fun U hU hW => ⟨rfl, by rw [hU]; exact hP, SK.moved hW hSK⟩⟩ rfl (by rw [List.length_map]; exact hn) hl rfl (lv_room hst) hd ⟨Nat.le_refl _, Nat.le_refl _⟩
  intro T0 hT X0
  obtain ⟨v, st₀, t, T', L0, h0, X', hL, e1, e2, ⟨⟨rv, μ', hv, hq, hP', hK'⟩, hz, hk⟩, st9⟩ := hrun T0 hT X0
  cases hv
  rw [h0] at hz hk
  have hAq : ∀ q : Nat, inA g q → s.heap.size ≤ q := fun q ⟨k, h1, h2⟩ => by rw [h2]; exact hgA k h1
  have hS' : va_S (fun q : Nat => s.heap.size ≤ q) s.heap T'.heap (locs ++ L0) := ⟨Nat.le_trans hS.1 (by rw [e1]; exact hz), fun q h1 h2 => by rw [e1, hk q (Nat.lt_of_lt_of_le h1 hS.1) (fun h => h2 (hAq q h))]; exact hS.2.1 q h1 h2, fun q hq => by
      rcases List.mem_append.mp hq with h | h
      · exact hS.2.2 q h
      · exact hAq _ (hL q h)⟩
  obtain ⟨t2, a1, b1⟩ := kk rv μ' T'.heap (locs ++ L0) hq (by rw [e1]; exact hP') (fun q h1 h2 => by rw [e1]; exact hk q h1 h2) hS' T' rfl X'
  exact ⟨t2, st9 t2 a1, b1⟩
theorem l_callC {i r : Int32} {pc d' idx n : Nat} {cal : MI} {As st : List Value} {cm cm2 mm : MM} (X : LX l p s m meth c b L xs ad D T) (hd : decode code pc = .ok (.invokevirtual idx, 3)) (hw : CV R_law idx 6 n cal) (hct : Ct (gC ad D T l) d' cal (.ref 0 :: As) cm (QI r cm2)) (hdd : d' + 1 ≤ 9 ∧ 8 + (cal.2.2.1 + 11) + 36 * d' ≤ 314) (hi : As.map (cv (gC ad D T l)) = As) (hn : As.length = n) (hst : (st.map fun v => v.category).sum ≤ 8) (kk : LJ l p e s m below meth c b ad D T i (pc + 3) (.int r :: st) cm2 mm) : LJ l p e s m below meth c b ad D T i pc (As.reverse ++ .ref (ad 0) :: st) cm mm := by
  intro H locs lsA hC hR hS hl
  have := l_run (g := gC ad D T l) (k0 := 0) (e := e) (below := below) (locs := locs) (Qf := lw_Z below #[Value.ref b] s) X rfl X.2.1 (fun k hk => X.2.2.2 k (by have := hk.2; have : k < 0 + 144 := this; omega)) hd hw hct hdd ⟨Nat.le_refl _, by show 0 < 0 + 144; decide⟩ (show sh 0 = .inl (6, _) from rfl) hn hst hC hS hl.1 (fun rv μ' H1 locs1 hq hP1 hk1 hS1 => by
    obtain ⟨rfl, rfl⟩ := hq
    refine kk H1 locs1 lsA hP1 (hR.keep (fun k hk => ?_)) hS1 hl
    have hk2 : 144 ≤ k ∧ k < 144 + 22 := hk
    refine hk1 (ad k) ?_ (fun ⟨k', h1, h2⟩ => ?_)
    · have h5 := eW_get (gR ad D T l) mm hk
      have h6 := hR _ _ h5
      exact h6.lt
    · have h1 : 0 ≤ k' ∧ k' < 0 + 144 := h1
      have := X.2.2.1 k k' (by omega) (by omega) h2
      omega)
  rw [hi] at this
  exact this
theorem l_callR {i r : Int32} {pc d' idx n : Nat} {cal : MI} {As st : List Value} {cm mm mm2 : MM} (X : LX l p s m meth c b L xs ad D T) (hd : decode code pc = .ok (.invokevirtual idx, 3)) (hw : CV R_law idx 7 n cal) (hct : Ct (gR ad D T l) d' cal (.ref 144 :: As) mm (QI r mm2)) (hdd : d' + 1 ≤ 9 ∧ 8 + (cal.2.2.1 + 11) + 36 * d' ≤ 314) (hi : As.map (cv (gR ad D T l)) = As) (hn : As.length = n) (hst : (st.map fun v => v.category).sum ≤ 8) (kk : LJ l p e s m below meth c b ad D T i (pc + 3) (.int r :: st) cm mm2) : LJ l p e s m below meth c b ad D T i pc (As.reverse ++ .ref (ad 144) :: st) cm mm := by
  intro H locs lsA hC hR hS hl
  have := l_run (g := gR ad D T l) (k0 := 144) (e := e) (below := below) (locs := locs) (Qf := lw_Z below #[Value.ref b] s) X rfl X.2.1 (fun k hk => X.2.2.2 k (by have := hk.2; have : k < 144 + 22 := this; omega)) hd hw hct hdd ⟨Nat.le_refl _, by show 144 < 144 + 22; decide⟩ (show sh 144 = .inl (7, _) from rfl) hn hst hR hS hl.1 (fun rv μ' H1 locs1 hq hP1 hk1 hS1 => by
    obtain ⟨rfl, rfl⟩ := hq
    refine kk H1 locs1 lsA (hC.keep (fun k hk => ?_)) hP1 hS1 hl
    have hk2 : 0 ≤ k ∧ k < 0 + 144 := hk
    refine hk1 (ad k) ?_ (fun ⟨k', h1, h2⟩ => ?_)
    · have h5 := eW_get (gC ad D T l) cm hk
      have h6 := hC _ _ h5
      exact h6.lt
    · have h1 : 144 ≤ k' ∧ k' < 144 + 22 := h1
      have := X.2.2.1 k k' (by omega) (by omega) h2
      omega)
  rw [hi] at this
  exact this
end LAW
