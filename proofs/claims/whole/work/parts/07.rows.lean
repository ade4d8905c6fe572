/-! Rows for fields, arrays, calls, ends; a contract out of a walk. -/
def CLS (ci : Nat) (C : String) (T : u_T) (N : Nat) (ty : Nat → FieldType) : Prop := vwCl[ci]? = some (C, T, N) ∧ (∀ w ∈ u_ws C T N, w ∈ wG) ∧ (∀ k, k < N → parseFieldDescriptor (T k).2.2.1 = some (ty k)) ∧ (∀ a, a < N → ∀ b, b < N → a ≠ b → (T a).2.1 ≠ (T b).2.1)
/-- getfield number idx of the class own reads field k of the class number ci -/
def FA (own : String) (idx ci k : Nat) : Prop := ∃ (C : String) (T : u_T) (N : Nat) (ty : Nat → FieldType), CLS ci C T N ty ∧ k < N ∧ Cond.fieldLink own idx (T k).1 (T k).2.1 (T k).2.2.1 ∈ wG
def FP (own : String) (idx ci k : Nat) (t : FieldType) : Prop := ∃ (C : String) (T : u_T) (N : Nat) (ty : Nat → FieldType), CLS ci C T N ty ∧ k < N ∧ Cond.fieldLink own idx (T k).1 (T k).2.1 (T k).2.2.1 ∈ wG ∧ (T k).2.2.2 = false ∧ ty k = t
theorem in_wG {w : Cond} (h : w ∈ lw_tbl) (hg : goodWord w = true) : w ∈ wG := List.mem_filter.mpr ⟨h, hg⟩
theorem eC_obj {g : GT} {μ : MM} {r ci : Nat} {fs : List (Option Nat)} (hs : sh r = .inl (ci, fs)) : eC g μ r = .inr (ci, eF g μ r 0 fs) := by unfold eC; rw [hs]; rfl
theorem eC_arr {g : GT} {μ : MM} {r t n : Nat} (hs : sh r = .inr (.inl (t, n))) : eC g μ r = .inl ((if t = 0 then g.2.2.1.1 else g.2.2.1.2.1), n, .inl (μ r)) := by unfold eC; rw [hs]; rfl
theorem eC_refs {g : GT} {μ : MM} {r : Nat} {qs : List Nat} (hs : sh r = .inr (.inr qs)) : eC g μ r = .inl (g.2.2.1.2.2, qs.length, .inr (.inr (.inr (.inr (fun i => (qs[i]?).map g.1))))) := by unfold eC; rw [hs]; rfl
theorem eC_congr {g : GT} {μ μ' : MM} {r : Nat} (h : μ' r = μ r) : eC g μ' r = eC g μ r := by
  have key : ∀ (fs : List (Option Nat)) (j : Nat), eF g μ' r j fs = eF g μ r j fs := by
    intro fs
    induction fs with
    | nil => intro j; rfl
    | cons f fs ih => intro j; cases f <;> simp [eF, ih, h]
  unfold eC
  rcases sh r with ⟨ci, fs⟩ | ⟨t, n⟩ | qs
  · simp only [eC']; rw [key]
  · simp only [eC', h]
  · rfl
theorem eW_setG {g : GT} {μ μ' : MM} {r : Nat} {x : va_E} (hr : dom g r) (ho : ∀ q, q ≠ r → μ' q = μ q) (h : eC g μ' r = x) : (eW g μ).set (r - g.2.2.2.2.1) (g.1 r, x) = eW g μ' := by
  apply List.ext_getElem?
  intro i
  rw [List.getElem?_set]
  have hl : ∀ μ : MM, (eW g μ).length = g.2.2.2.2.2 := by intro μ; simp [eW]
  have h1 := hr.1
  have h2 := hr.2
  by_cases hi : r - g.2.2.2.2.1 = i
  · subst hi
    rw [if_pos rfl, if_pos (by rw [hl]; omega), eW_get _ _ hr, h]
  · rw [if_neg hi]
    by_cases hin : i < g.2.2.2.2.2
    · have hd : dom g (g.2.2.2.2.1 + i) := ⟨Nat.le_add_right _ _, Nat.add_lt_add_left hin _⟩
      have e1 := eW_get g μ hd
      have e2 := eW_get g μ' hd
      rw [Nat.add_sub_cancel_left] at e1 e2
      rw [e1, e2, eC_congr (ho _ (by omega))]
    · rw [List.getElem?_eq_none (by rw [hl]; omega), List.getElem?_eq_none (by rw [hl]; omega)]
theorem up2_off {μ : MM} {r k : Nat} {v : Int32} {q : Nat} (h : q ≠ r) : up2 μ r k v q = μ q := by funext x; simp [up2, h]
theorem up2_on {μ : MM} {r k : Nat} {v : Int32} : up2 μ r k v r = upd (μ r) k v := by funext x; simp [up2, upd]
/-- row r0's first n places into row r1 -/
def cpy (μ : MM) (r0 r1 n : Nat) : MM := fun r k => if r = r1 ∧ k < n then μ r0 k else μ r k
theorem cpy_off {μ : MM} {r0 r1 n q : Nat} (h : q ≠ r1) : cpy μ r0 r1 n q = μ q := by funext x; simp [cpy, h]
theorem cpy_on {μ : MM} {r0 r1 n : Nat} : cpy μ r0 r1 n r1 = va_cpy (μ r0) (μ r1) 0 0 n := by funext x; simp [cpy, va_cpy]
section BROWS
variable {g : GT} {d : Nat} {mi : MI} {pc : Nat} {ls : List (Option Value)} {st : List Value} {μ : MM} {Q : Option Value → MM → Prop}
theorem a_getI {r ci k idx : Nat} {fs : List (Option Nat)} (hd : decode mi.2.1 pc = .ok (.getfield idx, 3)) (hf : FA mi.1 idx ci k) (hr : dom g r) (hs : sh r = .inl (ci, fs)) (hk : fs[k]? = some none) (kk : WA g d mi (pc + 3) ls (.int (μ r k) :: st) μ Q) : WA g d mi pc ls (.ref r :: st) μ Q := by
  intro p e s m args below meth c H locs lsA A hP hS hl
  obtain ⟨C, T, N, ty, ⟨hc, hin, hty, hnm⟩, hkN, hw⟩ := hf
  have hg := eW_get g μ hr
  rw [eC_obj hs] at hg
  exact va_get (v := .int (μ r k)) A.1 A.2.1 A.2.2.2.2.1 hin A.2.2.2.1 A.2.2.2.2.2.1.1 hP (r - g.2.2.2.2.1) hg hc k hkN (A.2.2.2.2.1 _ hw) (fun _ h => h) (by rw [eF_get, hk]; simp) hd (kk p e s m args below meth c H locs lsA A hP hS hl)
theorem a_getR {r ci k idx q : Nat} {fs : List (Option Nat)} (hd : decode mi.2.1 pc = .ok (.getfield idx, 3)) (hf : FA mi.1 idx ci k) (hr : dom g r) (hs : sh r = .inl (ci, fs)) (hk : fs[k]? = some (some q)) (kk : WA g d mi (pc + 3) ls (.ref q :: st) μ Q) : WA g d mi pc ls (.ref r :: st) μ Q := by
  intro p e s m args below meth c H locs lsA A hP hS hl
  obtain ⟨C, T, N, ty, ⟨hc, hin, hty, hnm⟩, hkN, hw⟩ := hf
  have hg := eW_get g μ hr
  rw [eC_obj hs] at hg
  exact va_get (v := .ref (g.1 q)) A.1 A.2.1 A.2.2.2.2.1 hin A.2.2.2.1 A.2.2.2.2.2.1.1 hP (r - g.2.2.2.2.1) hg hc k hkN (A.2.2.2.2.1 _ hw) (fun _ h => h) (by rw [eF_get, hk]; rfl) hd (kk p e s m args below meth c H locs lsA A hP hS hl)
theorem a_put {r ci k idx : Nat} {t : FieldType} {v : Int32} {fs : List (Option Nat)} (hd : decode mi.2.1 pc = .ok (.putfield idx, 3)) (hf : FP mi.1 idx ci k t) (hn : narrow t (.int v) = .int v) (hfit : fits t (.int v) = true) (hr : dom g r) (hs : sh r = .inl (ci, fs)) (hk : fs[k]? = some none) (kk : WA g d mi (pc + 3) ls st (up2 μ r k v) Q) : WA g d mi pc ls (.int v :: .ref r :: st) μ Q := by
  intro p e s m args below meth c H locs lsA A hP hS hl
  obtain ⟨C, T, N, ty, ⟨hc, hin, hty, hnm⟩, hkN, hw, hfin, ht⟩ := hf
  have hg := eW_get g μ hr
  rw [eC_obj hs] at hg
  have hkl : k < fs.length := (List.getElem?_eq_some_iff.mp hk).1
  refine va_put (v := .int v) (ty := t) A.1 A.2.1 A.2.2.2.2.1 hin ty hty hnm A.2.2.2.1 A.2.2.2.2.2.1.1 hP (eW_D A.2.2.2.2.2.2.1 μ) hS (r - g.2.2.2.2.1) hg hc k hkN (A.2.2.2.2.1 _ hw) (fun _ h => h) hfin (by rw [hty k hkN, ht]) hn hfit (by rw [eF_len]; exact hkl) hd (fun H1 locs1 hP1 hD1 hS1 => ?_)
  refine kk p e s m args below meth c H1 locs1 lsA A ?_ hS1 hl
  have e1 : (eW g μ).set (r - g.2.2.2.2.1) (g.1 r, .inr (ci, (eF g μ r 0 fs).set k (.int v))) = eW g (up2 μ r k v) := eW_setG hr (fun q h => up2_off h) (by rw [eC_obj hs, eF_up g μ r k v fs hk])
  unfold VP
  rw [← e1]
  exact hP1
theorem a_putI {r ci k idx : Nat} {v : Int32} {fs : List (Option Nat)} (hd : decode mi.2.1 pc = .ok (.putfield idx, 3)) (hf : FP mi.1 idx ci k .int) (hr : dom g r) (hs : sh r = .inl (ci, fs)) (hk : fs[k]? = some none) (kk : WA g d mi (pc + 3) ls st (up2 μ r k v) Q) : WA g d mi pc ls (.int v :: .ref r :: st) μ Q := a_put hd hf rfl rfl hr hs hk kk
theorem nb_of {v : Int32} (h : v = 0 ∨ v = 1) : narrow .boolean (.int v) = .int v := by rcases h with rfl | rfl <;> decide +kernel
theorem nf_of {v : Int32} (h : v = 0 ∨ v = 1) : fits .boolean (.int v) = true := by rcases h with rfl | rfl <;> decide +kernel
theorem vb_of {v : Int32} (h : v = 0 ∨ v = 1) : vp_nar .boolean v = v := by rcases h with rfl | rfl <;> decide +kernel
theorem a_putZ {r ci k idx : Nat} {v : Int32} {fs : List (Option Nat)} (hd : decode mi.2.1 pc = .ok (.putfield idx, 3)) (hf : FP mi.1 idx ci k .boolean) (hv : v = 0 ∨ v = 1) (hr : dom g r) (hs : sh r = .inl (ci, fs)) (hk : fs[k]? = some none) (kk : WA g d mi (pc + 3) ls st (up2 μ r k v) Q) : WA g d mi pc ls (.int v :: .ref r :: st) μ Q := a_put hd hf (nb_of hv) (nf_of hv) hr hs hk kk
theorem a_iald {r n : Nat} {i : Int32} (hd : decode mi.2.1 pc = .ok (.iaload, 1)) (hr : dom g r) (hs : sh r = .inr (.inl (0, n))) (hi : vp_in i n) (kk : WA g d mi (pc + 1) ls (.int (μ r i.toNatClampNeg) :: st) μ Q) : WA g d mi pc ls (.int i :: .ref r :: st) μ Q := by
  intro p e s m args below meth c H locs lsA A hP hS hl
  have hg := eW_get g μ hr
  rw [eC_arr hs] at hg
  exact va_iald A.1 A.2.1 A.2.2.2.2.2.1.1 hP (r - g.2.2.2.2.1) 0 hg rfl hi hd (kk p e s m args below meth c H locs lsA A hP hS hl)
theorem a_zald {r n : Nat} {i : Int32} (hd : decode mi.2.1 pc = .ok (.baload, 1)) (hr : dom g r) (hs : sh r = .inr (.inl (1, n))) (hi : vp_in i n) (kk : WA g d mi (pc + 1) ls (.int (μ r i.toNatClampNeg) :: st) μ Q) : WA g d mi pc ls (.int i :: .ref r :: st) μ Q := by
  intro p e s m args below meth c H locs lsA A hP hS hl
  have hg := eW_get g μ hr
  rw [eC_arr hs] at hg
  exact va_zald A.1 A.2.1 A.2.2.2.2.2.1.1 hP (r - g.2.2.2.2.1) 1 hg rfl hi hd (kk p e s m args below meth c H locs lsA A hP hS hl)
theorem a_iast {r n : Nat} {i x : Int32} (hd : decode mi.2.1 pc = .ok (.iastore, 1)) (hr : dom g r) (hs : sh r = .inr (.inl (0, n))) (hi : vp_in i n) (kk : WA g d mi (pc + 1) ls st (up2 μ r i.toNatClampNeg x) Q) : WA g d mi pc ls (.int x :: .int i :: .ref r :: st) μ Q := by
  intro p e s m args below meth c H locs lsA A hP hS hl
  have hg := eW_get g μ hr
  rw [eC_arr hs] at hg
  refine va_iast A.1 A.2.1 A.2.2.2.2.2.1.1 hP (eW_D A.2.2.2.2.2.2.1 μ) hS (r - g.2.2.2.2.1) 0 hg rfl hi hd (fun H1 locs1 hP1 hD1 hS1 => ?_)
  refine kk p e s m args below meth c H1 locs1 lsA A ?_ hS1 hl
  unfold VP
  rw [← eW_setG (μ := μ) hr (fun q h => up2_off h) (by rw [eC_arr hs, up2_on])]
  exact hP1
theorem a_zast {r n : Nat} {i x : Int32} (hd : decode mi.2.1 pc = .ok (.bastore, 1)) (hr : dom g r) (hs : sh r = .inr (.inl (1, n))) (hi : vp_in i n) (kk : WA g d mi (pc + 1) ls st (up2 μ r i.toNatClampNeg (vp_nar .boolean x)) Q) : WA g d mi pc ls (.int x :: .int i :: .ref r :: st) μ Q := by
  intro p e s m args below meth c H locs lsA A hP hS hl
  have hg := eW_get g μ hr
  rw [eC_arr hs] at hg
  refine va_zast A.1 A.2.1 A.2.2.2.2.2.1.1 hP (eW_D A.2.2.2.2.2.2.1 μ) hS (r - g.2.2.2.2.1) 1 hg rfl hi hd (fun H1 locs1 hP1 hD1 hS1 => ?_)
  refine kk p e s m args below meth c H1 locs1 lsA A ?_ hS1 hl
  unfold VP
  rw [← eW_setG (μ := μ) hr (fun q h => up2_off h) (by rw [eC_arr hs, up2_on])]
  exact hP1
theorem a_alen {r n : Nat} (hd : decode mi.2.1 pc = .ok (.arraylength, 1)) (hr : dom g r) (hs : sh r = .inr (.inl (0, n))) (kk : WA g d mi (pc + 1) ls (.int (Int32.ofNat n) :: st) μ Q) : WA g d mi pc ls (.ref r :: st) μ Q := by
  intro p e s m args below meth c H locs lsA A hP hS hl
  have hg := eW_get g μ hr
  rw [eC_arr hs] at hg
  exact va_alen A.1 A.2.1 A.2.2.2.2.2.1.1 hP (r - g.2.2.2.2.1) 0 hg rfl rfl hd (kk p e s m args below meth c H locs lsA A hP hS hl)
theorem a_alenR {r : Nat} {qs : List Nat} (hd : decode mi.2.1 pc = .ok (.arraylength, 1)) (hr : dom g r) (hs : sh r = .inr (.inr qs)) (kk : WA g d mi (pc + 1) ls (.int (Int32.ofNat qs.length) :: st) μ Q) : WA g d mi pc ls (.ref r :: st) μ Q := by
  intro p e s m args below meth c H locs lsA A hP hS hl
  have hg := eW_get g μ hr
  rw [eC_refs hs] at hg
  exact va_alen A.1 A.2.1 A.2.2.2.2.2.1.1 hP (r - g.2.2.2.2.1) 2 hg rfl rfl hd (kk p e s m args below meth c H locs lsA A hP hS hl)
theorem a_aald {r q : Nat} {qs : List Nat} {i : Int32} (hd : decode mi.2.1 pc = .ok (.aaload, 1)) (hr : dom g r) (hs : sh r = .inr (.inr qs)) (hi : vp_in i qs.length) (hq : qs[i.toNatClampNeg]? = some q) (kk : WA g d mi (pc + 1) ls (.ref q :: st) μ Q) : WA g d mi pc ls (.int i :: .ref r :: st) μ Q := by
  intro p e s m args below meth c H locs lsA A hP hS hl
  have hg := eW_get g μ hr
  rw [eC_refs hs] at hg
  refine va_aldq A.1 A.2.1 A.2.2.2.2.2.1.1 hP (r - g.2.2.2.2.1) 2 hg rfl hi hd ?_
  rw [hq]
  exact kk p e s m args below meth c H locs lsA A hP hS hl
theorem a_copy {r0 r1 n0 n1 n idx : Nat} {z0 z1 k : Int32} (hd : decode mi.2.1 pc = .ok (.invokestatic idx, 3)) (hw : Cond.methodLink mi.1 idx arraycopyName ∈ wG) (hw1 : Cond.native arraycopyName ∈ wG) (hw2 : Cond.static arraycopyName ∈ wG) (hw3 : Cond.initialized "java/lang/System" ∈ wG)
    (hr0 : dom g r0) (hr1 : dom g r1) (hs0 : sh r0 = .inr (.inl (0, n0))) (hs1 : sh r1 = .inr (.inl (0, n1))) (hz0 : z0 = 0) (hz1 : z1 = 0) (hk : k = nI n) (hn : n < 2 ^ 31) (hn0 : n ≤ n0) (hn1 : n ≤ n1) (hst : st = []) (hdd : 1 ≤ d)
    (kk : WA g d mi (pc + 3) ls st (cpy μ r0 r1 n) Q) : WA g d mi pc ls (.int k :: .int z1 :: .ref r1 :: .int z0 :: .ref r0 :: st) μ Q := by
  intro p e s m args below meth c H locs lsA A hP hS hl
  have hg0 := eW_get g μ hr0
  rw [eC_arr hs0] at hg0
  have hg1 := eW_get g μ hr1
  rw [eC_arr hs1] at hg1
  subst hz0; subst hz1; subst hk; subst hst
  have hc : (nI n).toNatClampNeg = n := nI_clamp hn
  have h0 : (0 : Int32).toNatClampNeg = 0 := by decide
  refine va_copyi (n := nI n) A.1 A.2.1 (by rw [A.2.2.1]; exact hl.1.symm) A.2.2.2.1 (A.2.2.2.2.1 _ hw) (A.2.2.2.2.1 _ hw1) (A.2.2.2.2.1 _ hw2) (A.2.2.2.2.1 _ hw3) A.2.2.2.2.2.1.1 hP (eW_D A.2.2.2.2.2.2.1 μ) hS (r0 - g.2.2.2.2.1) (r1 - g.2.2.2.2.1) 0 0 hg0 hg1 rfl rfl rfl (by decide) (by decide) (nI_pos hn) (by rw [hc, h0]; omega) (by rw [hc, h0]; omega) (fun i hi => rfl) hdd ?_ hd (fun H1 locs1 hP1 hD1 hS1 => ?_)
  · have e1 : nativeFrameWords "java/lang/System" "arraycopy" 5 + 11 ≤ 36 := by decide +kernel
    show 0 + _ ≤ 36 * d
    omega
  · refine kk p e s m args below meth c H1 locs1 lsA A ?_ hS1 hl
    rw [hc, h0] at hP1
    unfold VP
    rw [← eW_setG (μ := μ) hr1 (fun q h => cpy_off h) (by rw [eC_arr hs1, cpy_on])]
    exact hP1
/-! ends -/
theorem a_iret {v : Int32} (hd : decode mi.2.1 pc = .ok (.ireturn, 1)) (hr : mi.2.2.2.1 = some .int) (hq : Q (some (.int v)) μ) : WA g d mi pc ls [.int v] μ Q := by
  intro p e s m args below meth c H locs lsA A hP hS hl
  exact W.iret A.1 A.2.1 (A.2.2.2.2.2.2.2.1.trans hr) (fun t ht hW => ⟨⟨some (.int v), μ, rfl, hq, by rw [ht]; exact hP, SK.moved hW A.2.2.2.2.2.1⟩, hS.F ht⟩) hS.2.2 hd A.2.2.2.2.2.2.2.2
theorem a_zret {v : Int32} (hd : decode mi.2.1 pc = .ok (.ireturn, 1)) (hr : mi.2.2.2.1 = some .boolean) (hv : v = 0 ∨ v = 1) (hq : Q (some (.int v)) μ) : WA g d mi pc ls [.int v] μ Q := by
  intro p e s m args below meth c H locs lsA A hP hS hl
  exact W.zret A.1 A.2.1 (A.2.2.2.2.2.2.2.1.trans hr) (nb_of hv) (fun t ht hW => ⟨⟨some (.int v), μ, rfl, hq, by rw [ht]; exact hP, SK.moved hW A.2.2.2.2.2.1⟩, hS.F ht⟩) hS.2.2 hd A.2.2.2.2.2.2.2.2
theorem a_vret (hd : decode mi.2.1 pc = .ok (.return_, 1)) (hr : mi.2.2.2.1 = none) (hq : Q none μ) : WA g d mi pc ls [] μ Q := by
  intro p e s m args below meth c H locs lsA A hP hS hl
  exact W.vret A.1 A.2.1 (A.2.2.2.2.2.2.2.1.trans hr) (fun t ht hW => ⟨⟨none, μ, rfl, hq, by rw [ht]; exact hP, SK.moved hW A.2.2.2.2.2.1⟩, hS.F ht⟩) hS.2.2 hd A.2.2.2.2.2.2.2.2
theorem a_aret {n : String} {v : Value} (hd : decode mi.2.1 pc = .ok (.areturn, 1)) (hr : mi.2.2.2.1 = some (.object n)) (hv : v = .null ∨ ∃ a, v = .ref a) (hq : Q (some v) μ) : WA g d mi pc ls [v] μ Q := by
  intro p e s m args below meth c H locs lsA A hP hS hl
  exact W.aret A.1 A.2.1 (A.2.2.2.2.2.2.2.1.trans hr) (Or.inl ⟨n, rfl⟩) (by rcases hv with rfl | ⟨a, rfl⟩; exact Or.inl rfl; exact Or.inr ⟨_, rfl⟩) (fun t ht hW => ⟨⟨some v, μ, rfl, hq, by rw [ht]; exact hP, SK.moved hW A.2.2.2.2.2.1⟩, hS.F ht⟩) hS.2.2 hd A.2.2.2.2.2.2.2.2
/-! calls -/
theorem blindA {as : List Value} : FrameBlind (va_Pc (as.map (cv g)) (fun U => VP g μ U.heap ∧ SK g U)) := by
  intro a U f mk h
  obtain ⟨h1, h2, h3, h4⟩ := h
  refine ⟨h1, h2, va_K.moved (u := U) (U := U.calling f mk a) (Vm.Alike.refl U.vm) h3, fun w hw => ?_⟩
  have h5 := h4 w hw
  have h6 := (List.mem_filter.mp hw).2
  cases w with
  | methodLinkNest a1 i x b => exact va_Nw.same (u := U) rfl rfl h5
  | _ => exact absurd h6 (by simp)
theorem a_after {Q' : Option Value → MM → Prop} {st0 : List Value} {p : Program} {e : Env} {s : State} {m : MethodId} {args : Array Value} {below : List Frame} {meth : Method} {c : Code} {H : Heap} {locs : List Loc} {lsA : Array Slot} {aa : Array Value}
    (A : AtM g mi p s m args meth c) (hS : va_S (inA g) s.heap H locs) (hl : lv_has lsA mi.2.2.1 (lsC g 0 ls))
    (hr : va_Run p g.2.2.2.1 e (rmD d) s m args below meth c H locs 0 0 0 0 (F0 m pc lsA st0) (st.map (cv g)) (QcA g Q' aa) (inA g))
    (kk : ∀ rv μ', Q' rv μ' → WA g d mi (pc + 3) ls (rv.toList ++ st) μ' Q) : W p g.2.2.2.1 e (rmD d) s m args below meth c H locs 0 0 (MQ below (QcA g Q) args s 0 0 (inA g)) (F0 m pc lsA st0) := by
  intro T hT X
  obtain ⟨v, st₀, t, T', L, h0, X', hL, e1, e2, ⟨⟨rv, μ', hv, hq, hP', hK'⟩, hz, hk⟩, st9⟩ := hr T hT X
  cases hv
  rw [h0] at hz hk
  have hS' : va_S (inA g) s.heap T'.heap (locs ++ L) := ⟨Nat.le_trans hS.1 (by rw [e1]; exact hz), fun q h1 h2 => by rw [e1, hk q (Nat.lt_of_lt_of_le h1 hS.1) h2]; exact hS.2.1 q h1 h2, fun q hq => by
      rcases List.mem_append.mp hq with h | h
      · exact hS.2.2 q h
      · exact hL q h⟩
  obtain ⟨t2, a1, b1⟩ := kk rv μ' hq p e s m args below meth c T'.heap (locs ++ L) lsA A (by rw [e1]; exact hP') hS' hl T' rfl X'
  refine ⟨t2, st9 t2 ?_, b1⟩
  have e3 : (rv.map (cv g)).toList ++ st.map (cv g) = (rv.toList ++ st).map (cv g) := by cases rv <;> simp
  rw [e3]
  exact a1
theorem good_wG {w : Cond} (h : w ∈ wG) : w ∈ wG ∧ ((w.onTables && w.keeps) = true ∨ ∃ ty, w = .arrayClass ty) := ⟨h, good_of_word (List.mem_filter.mp h).2⟩
abbrev DD (cal : MI) (d' d : Nat) : Prop := d' + 1 ≤ d ∧ 8 + (cal.2.2.1 + 11) + 36 * d' ≤ 36 * d
/-- an invokevirtual of cal, n arguments besides the object, of the class number ci -/
def CV (own : String) (idx ci n : Nat) (cal : MI) : Prop := (∃ (T : u_T) (N : Nat), vwCl[ci]? = some (cal.1, T, N)) ∧ Cond.methodLink own idx cal.2.2.2.2 ∈ wG ∧ Cond.instanceMethod cal.2.2.2.2 ∈ wG ∧ Cond.selects cal.1 cal.2.2.2.2 cal.2.2.2.2 ∈ wG ∧ Cond.initialized cal.1 ∈ wG ∧ Cond.code cal.2.2.2.2 cal.2.1 cal.2.2.1 cal.2.2.2.1 ∈ wG ∧
  (cal.2.2.2.2.cls = cal.1 ∧ cal.2.2.2.2.cls ≠ "java/lang/invoke/MethodHandle" ∧ cal.2.2.2.2.cls ≠ "java/lang/invoke/VarHandle" ∧ (parseMethodDescriptor cal.2.2.2.2.desc).map (fun d => d.parameters.length) = some n)
theorem a_callV {d' idx ci n b : Nat} {cal : MI} {As : List Value} {fs : List (Option Nat)} {Q' : Option Value → MM → Prop} (hd : decode mi.2.1 pc = .ok (.invokevirtual idx, 3)) (hw : CV mi.1 idx ci n cal) (hct : Ct g d' cal (.ref b :: As) μ Q') (hdd : DD cal d' d) (hb : dom g b) (hs : sh b = .inl (ci, fs)) (hn : As.length = n) (hst : (st.map fun v => v.category).sum ≤ 8)
    (kk : ∀ rv μ', Q' rv μ' → WA g d mi (pc + 3) ls (rv.toList ++ st) μ' Q) : WA g d mi pc ls (As.reverse ++ .ref b :: st) μ Q := by
  intro p e s m args below meth c H locs lsA A hP hS hl
  obtain ⟨⟨T, N, hci⟩, w1, w2, w3, w4, w5, hy⟩ := hw
  have hG : GoodIn wG (wsV mi.1 idx cal.1 cal.2.2.2.2 (.code cal.2.2.2.2 cal.2.1 cal.2.2.1 cal.2.2.2.1 :: wG)) := by
    intro w h
    unfold wsV at h
    simp only [List.cons_append, List.nil_append, List.mem_cons] at h
    rcases h with rfl | rfl | rfl | rfl | rfl | h
    · exact good_wG w1
    · exact good_wG w2
    · exact good_wG w3
    · exact good_wG w4
    · exact good_wG w5
    · exact good_wG h
  have cw := cwV (R := rmD d) (own := mi.1) (index := idx) (rm := rmD d') (mc := 0) (ms := 0) n A.2.2.2.2.1 hG rfl rfl rfl hy ⟨hdd.1, hdd.2⟩
  have hg := eW_get g μ hb
  rw [eC_obj hs] at hg
  have hrecv := va_recv A.2.2.2.2.2.1.1 hP hci hg
  have hrun := va_runV (cc := mi.2.1) (nL := mi.2.2.1) (Ts := wG) (own := mi.1) (As := As.map (cv g)) (rest := st.map (cv g)) (p := p) (e := e) (below := below) (meth := meth) (locs := locs) (cells := 0) (slots := 0) (g := F0 m pc lsA ((As.reverse ++ .ref b :: st).map (cv g))) ⟨A.1, A.2.1, A.2.2.1, A.2.2.2.1, A.2.2.2.2.1⟩ hct cw ⟨blindA (as := .ref b :: As), hrecv, fun U hU hW => ⟨rfl, by rw [hU]; exact hP, SK.moved hW A.2.2.2.2.2.1⟩⟩ rfl (by rw [List.length_map]; exact hn) hl.1 (by simp [F0, cv]) (lv_room (by rw [cv_sum]; exact hst)) hd ⟨Nat.le_refl _, Nat.le_refl _⟩
  exact a_after A hS hl hrun kk
/-- an invokestatic of cal of any class that is no nest mate's private one -/
def CS (own : String) (idx n : Nat) (cal : MI) : Prop := Cond.methodLink own idx cal.2.2.2.2 ∈ wG ∧ Cond.static cal.2.2.2.2 ∈ wG ∧ Cond.initialized cal.2.2.2.2.cls ∈ wG ∧ Cond.code cal.2.2.2.2 cal.2.1 cal.2.2.1 cal.2.2.2.1 ∈ wG ∧
  (cal.2.2.2.2.cls ≠ "java/lang/invoke/MethodHandle" ∧ cal.2.2.2.2.cls ≠ "java/lang/invoke/VarHandle" ∧ (parseMethodDescriptor cal.2.2.2.2.desc).map (fun d => d.parameters.length) = some n)
theorem a_callS {d' idx n : Nat} {cal : MI} {As : List Value} {Q' : Option Value → MM → Prop} (hd : decode mi.2.1 pc = .ok (.invokestatic idx, 3)) (hw : CS mi.1 idx n cal) (hct : Ct g d' cal As μ Q') (hdd : DD cal d' d) (hn : As.length = n) (hst : (st.map fun v => v.category).sum ≤ 8)
    (kk : ∀ rv μ', Q' rv μ' → WA g d mi (pc + 3) ls (rv.toList ++ st) μ' Q) : WA g d mi pc ls (As.reverse ++ st) μ Q := by
  intro p e s m args below meth c H locs lsA A hP hS hl
  obtain ⟨w1, w2, w3, w4, hy⟩ := hw
  have hG : GoodIn wG (va_wsS mi.1 idx cal.2.2.2.2 (.code cal.2.2.2.2 cal.2.1 cal.2.2.1 cal.2.2.2.1 :: wG)) := by
    intro w h
    unfold va_wsS at h
    simp only [List.cons_append, List.nil_append, List.mem_cons] at h
    rcases h with rfl | rfl | rfl | rfl | h
    · exact good_wG w1
    · exact good_wG w2
    · exact good_wG w3
    · exact good_wG w4
    · exact good_wG h
  have cw := va_cwS (R := rmD d) (own := mi.1) (index := idx) (rm := rmD d') (mc := 0) (ms := 0) n A.2.2.2.2.1 hG rfl rfl rfl hy ⟨hdd.1, hdd.2⟩
  have hrun := va_runS (cc := mi.2.1) (nL := mi.2.2.1) (Ts := wG) (own := mi.1) (As := As.map (cv g)) (rest := st.map (cv g)) (p := p) (e := e) (below := below) (meth := meth) (locs := locs) (cells := 0) (slots := 0) (H := H) (g := F0 m pc lsA ((As.reverse ++ st).map (cv g))) ⟨A.1, A.2.1, A.2.2.1, A.2.2.2.1, A.2.2.2.2.1⟩ hct cw ⟨blindA (as := As), fun U hU hW => ⟨rfl, by rw [hU]; exact hP, SK.moved hW A.2.2.2.2.2.1⟩⟩ rfl (by rw [List.length_map]; exact hn) hl.1 (by simp [F0]) (lv_room (by rw [cv_sum]; exact hst)) hd ⟨Nat.le_refl _, Nat.le_refl _⟩
  exact a_after A hS hl hrun kk
/-- an invokestatic of a nest mate's private method -/
def CN (own : String) (idx n : Nat) (cal : MI) : Prop := (∃ host, Cond.methodLinkNest own idx cal.2.2.2.2 host ∈ nestW) ∧ Cond.static cal.2.2.2.2 ∈ wG ∧ Cond.initialized cal.2.2.2.2.cls ∈ wG ∧ Cond.code cal.2.2.2.2 cal.2.1 cal.2.2.1 cal.2.2.2.1 ∈ wG ∧
  (cal.2.2.2.2.cls ≠ "java/lang/invoke/MethodHandle" ∧ cal.2.2.2.2.cls ≠ "java/lang/invoke/VarHandle" ∧ (parseMethodDescriptor cal.2.2.2.2.desc).map (fun d => d.parameters.length) = some n)
theorem a_callN {d' idx n : Nat} {cal : MI} {As : List Value} {Q' : Option Value → MM → Prop} (hd : decode mi.2.1 pc = .ok (.invokestatic idx, 3)) (hw : CN mi.1 idx n cal) (hct : Ct g d' cal As μ Q') (hdd : DD cal d' d) (hn : As.length = n) (hst : (st.map fun v => v.category).sum ≤ 8)
    (kk : ∀ rv μ', Q' rv μ' → WA g d mi (pc + 3) ls (rv.toList ++ st) μ' Q) : WA g d mi pc ls (As.reverse ++ st) μ Q := by
  intro p e s m args below meth c H locs lsA A hP hS hl
  obtain ⟨⟨host, w1⟩, w2, w3, w4, hy⟩ := hw
  have hG : GoodIn wG (.code cal.2.2.2.2 cal.2.1 cal.2.2.1 cal.2.2.2.1 :: wG) := by
    intro w h
    rcases List.mem_cons.mp h with rfl | h
    · exact good_wG w4
    · exact good_wG h
  have cw := va_cnB (R := rmD d) (own := mi.1) (index := idx) (rm := rmD d') (mc := 0) (ms := 0) n A.2.2.2.2.1 hG rfl rfl rfl (A.2.2.2.2.2.1.2 _ w1) (A.2.2.2.2.1 _ w3) hy ⟨hdd.1, hdd.2⟩
  have hrun := va_runSN (cc := mi.2.1) (nL := mi.2.2.1) (Ts := wG) (own := mi.1) (As := As.map (cv g)) (rest := st.map (cv g)) (p := p) (e := e) (below := below) (meth := meth) (locs := locs) (cells := 0) (slots := 0) (H := H) (g := F0 m pc lsA ((As.reverse ++ st).map (cv g))) ⟨A.1, A.2.1, A.2.2.1, A.2.2.2.1, A.2.2.2.2.1⟩ hct ⟨cw, A.2.2.2.2.1 _ w2, trivial⟩ ⟨blindA (as := As), fun U hU hW => ⟨rfl, by rw [hU]; exact hP, SK.moved hW A.2.2.2.2.2.1⟩⟩ rfl (by rw [List.length_map]; exact hn) hl.1 (by simp [F0]) (lv_room (by rw [cv_sum]; exact hst)) hd ⟨Nat.le_refl _, Nat.le_refl _⟩
  exact a_after A hS hl hrun kk
/-! a contract out of a walk from the entry -/
def enL : List Value → List (Option Value)
  | [] => []
  | v :: r => if v.category = 2 then some v :: none :: enL r else some v :: enL r
theorem lsC_app (g : GT) : ∀ (a b : List (Option Value)) (i : Nat), lsC g i (a ++ b) = lsC g i a ++ lsC g (i + a.length) b
  | [], b, i => rfl
  | none :: r, b, i => by
    simp only [List.cons_append, lsC]
    rw [lsC_app g r b (i + 1)]
    rw [show i + 1 + r.length = i + (none :: r).length by simp; omega]
  | some v :: r, b, i => by
    simp only [List.cons_append, lsC]
    rw [lsC_app g r b (i + 1)]
    rw [show i + 1 + r.length = i + (some v :: r).length by simp; omega]
theorem lsC_none (g : GT) : ∀ (n i : Nat), lsC g i (List.replicate n none) = []
  | 0, i => rfl
  | n + 1, i => by rw [List.replicate_succ]; exact lsC_none g n (i + 1)
theorem lsC_en (g : GT) : ∀ (as : List Value) (i : Nat), lsC g i (enL as) = lv_args i (as.map (cv g))
  | [], i => rfl
  | v :: r, i => by
    by_cases h : v.category = 2
    · simp only [enL, h, if_true, lsC, List.map_cons, lv_args, cv_cat]
      rw [lsC_en g r (i + 1 + 1)]
    · simp only [enL, h, if_false, lsC, List.map_cons, lv_args, cv_cat]
      rw [lsC_en g r (i + 1)]
theorem sl_len (g : GT) : ∀ as : List Value, (lg_sl (as.map (cv g))).length = (enL as).length
  | [] => rfl
  | v :: r => by
    have := sl_len g r
    by_cases h : v.category = 2
    · simp only [lg_sl, List.map_cons, List.flatMap_cons, cv_cat, h, if_true, enL] at *
      simp [this]
    · simp only [lg_sl, List.map_cons, List.flatMap_cons, cv_cat, h, if_false, enL] at *
      simp [this]
theorem ct_of {as : List Value} {k : Nat} (hy : plainName mi.2.2.2.2.cls = true) (hc : mi.2.2.2.2.cls = mi.1) (hi : INJ g) (hn : (enL as).length + k = mi.2.2.1) (h : WA g d mi 0 (enL as ++ List.replicate k none) [] μ Q) : Ct g d mi as μ Q := by
  refine Met.ofW (cc := mi.2.1) (maxL := mi.2.2.1) (ret := mi.2.2.2.1) hy rfl ?_
  intro p e s m args below meth c s₁ B hml hv
  obtain ⟨rfl, hP, hK⟩ := hv
  have hts := atoms_spec (ws := .code mi.2.2.2.2 mi.2.1 mi.2.2.1 mi.2.2.2.1 :: wG) B.pre
  have hl := lv_entry (as.map (cv g)) (n := mi.2.2.1) (by rw [sl_len]; omega)
  rw [lg_entry_eq]
  refine h p e s m _ below meth c s.heap [] _ ⟨B.exec, B.bytes, hml, ?_, fun w hw => hts w (List.mem_cons_of_mem _ hw), hK, hi, B.returns, B.notSynchronized⟩ hP va_S.rf ?_
  · rw [← hc]; exact findClass_of_methodNamed B.named
  · rw [lsC_app, lsC_none, List.append_nil, lsC_en]
    exact hl
/-! calls by the number of their arguments -/
theorem a_cV0 {d' idx ci b : Nat} {cal : MI} {fs : List (Option Nat)} {Q' : Option Value → MM → Prop} (hd : decode mi.2.1 pc = .ok (.invokevirtual idx, 3)) (hw : CV mi.1 idx ci 0 cal) (hct : Ct g d' cal (.ref b :: []) μ Q') (hdd : DD cal d' d) (hb : dom g b) (hs : sh b = .inl (ci, fs)) (hst : (st.map fun v => v.category).sum ≤ 8)
    (kk : ∀ rv μ', Q' rv μ' → WA g d mi (pc + 3) ls (rv.toList ++ st) μ' Q) : WA g d mi pc ls (.ref b :: st) μ Q := a_callV (As := []) hd hw hct hdd hb hs rfl hst kk
theorem a_cS0 {d' idx : Nat} {cal : MI} {Q' : Option Value → MM → Prop} (hd : decode mi.2.1 pc = .ok (.invokestatic idx, 3)) (hw : CS mi.1 idx 0 cal) (hct : Ct g d' cal [] μ Q') (hdd : DD cal d' d) (hst : (st.map fun v => v.category).sum ≤ 8)
    (kk : ∀ rv μ', Q' rv μ' → WA g d mi (pc + 3) ls (rv.toList ++ st) μ' Q) : WA g d mi pc ls (st) μ Q := a_callS (As := []) hd hw hct hdd rfl hst kk
theorem a_cN0 {d' idx : Nat} {cal : MI} {Q' : Option Value → MM → Prop} (hd : decode mi.2.1 pc = .ok (.invokestatic idx, 3)) (hw : CN mi.1 idx 0 cal) (hct : Ct g d' cal [] μ Q') (hdd : DD cal d' d) (hst : (st.map fun v => v.category).sum ≤ 8)
    (kk : ∀ rv μ', Q' rv μ' → WA g d mi (pc + 3) ls (rv.toList ++ st) μ' Q) : WA g d mi pc ls (st) μ Q := a_callN (As := []) hd hw hct hdd rfl hst kk
theorem a_cV1 {x0 : Value} {d' idx ci b : Nat} {cal : MI} {fs : List (Option Nat)} {Q' : Option Value → MM → Prop} (hd : decode mi.2.1 pc = .ok (.invokevirtual idx, 3)) (hw : CV mi.1 idx ci 1 cal) (hct : Ct g d' cal (.ref b :: [x0]) μ Q') (hdd : DD cal d' d) (hb : dom g b) (hs : sh b = .inl (ci, fs)) (hst : (st.map fun v => v.category).sum ≤ 8)
    (kk : ∀ rv μ', Q' rv μ' → WA g d mi (pc + 3) ls (rv.toList ++ st) μ' Q) : WA g d mi pc ls (x0 :: .ref b :: st) μ Q := a_callV (As := [x0]) hd hw hct hdd hb hs rfl hst kk
theorem a_cS1 {x0 : Value} {d' idx : Nat} {cal : MI} {Q' : Option Value → MM → Prop} (hd : decode mi.2.1 pc = .ok (.invokestatic idx, 3)) (hw : CS mi.1 idx 1 cal) (hct : Ct g d' cal [x0] μ Q') (hdd : DD cal d' d) (hst : (st.map fun v => v.category).sum ≤ 8)
    (kk : ∀ rv μ', Q' rv μ' → WA g d mi (pc + 3) ls (rv.toList ++ st) μ' Q) : WA g d mi pc ls (x0 :: st) μ Q := a_callS (As := [x0]) hd hw hct hdd rfl hst kk
theorem a_cN1 {x0 : Value} {d' idx : Nat} {cal : MI} {Q' : Option Value → MM → Prop} (hd : decode mi.2.1 pc = .ok (.invokestatic idx, 3)) (hw : CN mi.1 idx 1 cal) (hct : Ct g d' cal [x0] μ Q') (hdd : DD cal d' d) (hst : (st.map fun v => v.category).sum ≤ 8)
    (kk : ∀ rv μ', Q' rv μ' → WA g d mi (pc + 3) ls (rv.toList ++ st) μ' Q) : WA g d mi pc ls (x0 :: st) μ Q := a_callN (As := [x0]) hd hw hct hdd rfl hst kk
theorem a_cV2 {x0 x1 : Value} {d' idx ci b : Nat} {cal : MI} {fs : List (Option Nat)} {Q' : Option Value → MM → Prop} (hd : decode mi.2.1 pc = .ok (.invokevirtual idx, 3)) (hw : CV mi.1 idx ci 2 cal) (hct : Ct g d' cal (.ref b :: [x0, x1]) μ Q') (hdd : DD cal d' d) (hb : dom g b) (hs : sh b = .inl (ci, fs)) (hst : (st.map fun v => v.category).sum ≤ 8)
    (kk : ∀ rv μ', Q' rv μ' → WA g d mi (pc + 3) ls (rv.toList ++ st) μ' Q) : WA g d mi pc ls (x1 :: x0 :: .ref b :: st) μ Q := a_callV (As := [x0, x1]) hd hw hct hdd hb hs rfl hst kk
theorem a_cS2 {x0 x1 : Value} {d' idx : Nat} {cal : MI} {Q' : Option Value → MM → Prop} (hd : decode mi.2.1 pc = .ok (.invokestatic idx, 3)) (hw : CS mi.1 idx 2 cal) (hct : Ct g d' cal [x0, x1] μ Q') (hdd : DD cal d' d) (hst : (st.map fun v => v.category).sum ≤ 8)
    (kk : ∀ rv μ', Q' rv μ' → WA g d mi (pc + 3) ls (rv.toList ++ st) μ' Q) : WA g d mi pc ls (x1 :: x0 :: st) μ Q := a_callS (As := [x0, x1]) hd hw hct hdd rfl hst kk
theorem a_cN2 {x0 x1 : Value} {d' idx : Nat} {cal : MI} {Q' : Option Value → MM → Prop} (hd : decode mi.2.1 pc = .ok (.invokestatic idx, 3)) (hw : CN mi.1 idx 2 cal) (hct : Ct g d' cal [x0, x1] μ Q') (hdd : DD cal d' d) (hst : (st.map fun v => v.category).sum ≤ 8)
    (kk : ∀ rv μ', Q' rv μ' → WA g d mi (pc + 3) ls (rv.toList ++ st) μ' Q) : WA g d mi pc ls (x1 :: x0 :: st) μ Q := a_callN (As := [x0, x1]) hd hw hct hdd rfl hst kk
theorem a_cV3 {x0 x1 x2 : Value} {d' idx ci b : Nat} {cal : MI} {fs : List (Option Nat)} {Q' : Option Value → MM → Prop} (hd : decode mi.2.1 pc = .ok (.invokevirtual idx, 3)) (hw : CV mi.1 idx ci 3 cal) (hct : Ct g d' cal (.ref b :: [x0, x1, x2]) μ Q') (hdd : DD cal d' d) (hb : dom g b) (hs : sh b = .inl (ci, fs)) (hst : (st.map fun v => v.category).sum ≤ 8)
    (kk : ∀ rv μ', Q' rv μ' → WA g d mi (pc + 3) ls (rv.toList ++ st) μ' Q) : WA g d mi pc ls (x2 :: x1 :: x0 :: .ref b :: st) μ Q := a_callV (As := [x0, x1, x2]) hd hw hct hdd hb hs rfl hst kk
theorem a_cS3 {x0 x1 x2 : Value} {d' idx : Nat} {cal : MI} {Q' : Option Value → MM → Prop} (hd : decode mi.2.1 pc = .ok (.invokestatic idx, 3)) (hw : CS mi.1 idx 3 cal) (hct : Ct g d' cal [x0, x1, x2] μ Q') (hdd : DD cal d' d) (hst : (st.map fun v => v.category).sum ≤ 8)
    (kk : ∀ rv μ', Q' rv μ' → WA g d mi (pc + 3) ls (rv.toList ++ st) μ' Q) : WA g d mi pc ls (x2 :: x1 :: x0 :: st) μ Q := a_callS (As := [x0, x1, x2]) hd hw hct hdd rfl hst kk
theorem a_cN3 {x0 x1 x2 : Value} {d' idx : Nat} {cal : MI} {Q' : Option Value → MM → Prop} (hd : decode mi.2.1 pc = .ok (.invokestatic idx, 3)) (hw : CN mi.1 idx 3 cal) (hct : Ct g d' cal [x0, x1, x2] μ Q') (hdd : DD cal d' d) (hst : (st.map fun v => v.category).sum ≤ 8)
    (kk : ∀ rv μ', Q' rv μ' → WA g d mi (pc + 3) ls (rv.toList ++ st) μ' Q) : WA g d mi pc ls (x2 :: x1 :: x0 :: st) μ Q := a_callN (As := [x0, x1, x2]) hd hw hct hdd rfl hst kk
theorem a_cV4 {x0 x1 x2 x3 : Value} {d' idx ci b : Nat} {cal : MI} {fs : List (Option Nat)} {Q' : Option Value → MM → Prop} (hd : decode mi.2.1 pc = .ok (.invokevirtual idx, 3)) (hw : CV mi.1 idx ci 4 cal) (hct : Ct g d' cal (.ref b :: [x0, x1, x2, x3]) μ Q') (hdd : DD cal d' d) (hb : dom g b) (hs : sh b = .inl (ci, fs)) (hst : (st.map fun v => v.category).sum ≤ 8)
    (kk : ∀ rv μ', Q' rv μ' → WA g d mi (pc + 3) ls (rv.toList ++ st) μ' Q) : WA g d mi pc ls (x3 :: x2 :: x1 :: x0 :: .ref b :: st) μ Q := a_callV (As := [x0, x1, x2, x3]) hd hw hct hdd hb hs rfl hst kk
theorem a_cS4 {x0 x1 x2 x3 : Value} {d' idx : Nat} {cal : MI} {Q' : Option Value → MM → Prop} (hd : decode mi.2.1 pc = .ok (.invokestatic idx, 3)) (hw : CS mi.1 idx 4 cal) (hct : Ct g d' cal [x0, x1, x2, x3] μ Q') (hdd : DD cal d' d) (hst : (st.map fun v => v.category).sum ≤ 8)
    (kk : ∀ rv μ', Q' rv μ' → WA g d mi (pc + 3) ls (rv.toList ++ st) μ' Q) : WA g d mi pc ls (x3 :: x2 :: x1 :: x0 :: st) μ Q := a_callS (As := [x0, x1, x2, x3]) hd hw hct hdd rfl hst kk
theorem a_cN4 {x0 x1 x2 x3 : Value} {d' idx : Nat} {cal : MI} {Q' : Option Value → MM → Prop} (hd : decode mi.2.1 pc = .ok (.invokestatic idx, 3)) (hw : CN mi.1 idx 4 cal) (hct : Ct g d' cal [x0, x1, x2, x3] μ Q') (hdd : DD cal d' d) (hst : (st.map fun v => v.category).sum ≤ 8)
    (kk : ∀ rv μ', Q' rv μ' → WA g d mi (pc + 3) ls (rv.toList ++ st) μ' Q) : WA g d mi pc ls (x3 :: x2 :: x1 :: x0 :: st) μ Q := a_callN (As := [x0, x1, x2, x3]) hd hw hct hdd rfl hst kk
theorem a_cV5 {x0 x1 x2 x3 x4 : Value} {d' idx ci b : Nat} {cal : MI} {fs : List (Option Nat)} {Q' : Option Value → MM → Prop} (hd : decode mi.2.1 pc = .ok (.invokevirtual idx, 3)) (hw : CV mi.1 idx ci 5 cal) (hct : Ct g d' cal (.ref b :: [x0, x1, x2, x3, x4]) μ Q') (hdd : DD cal d' d) (hb : dom g b) (hs : sh b = .inl (ci, fs)) (hst : (st.map fun v => v.category).sum ≤ 8)
    (kk : ∀ rv μ', Q' rv μ' → WA g d mi (pc + 3) ls (rv.toList ++ st) μ' Q) : WA g d mi pc ls (x4 :: x3 :: x2 :: x1 :: x0 :: .ref b :: st) μ Q := a_callV (As := [x0, x1, x2, x3, x4]) hd hw hct hdd hb hs rfl hst kk
theorem a_cS5 {x0 x1 x2 x3 x4 : Value} {d' idx : Nat} {cal : MI} {Q' : Option Value → MM → Prop} (hd : decode mi.2.1 pc = .ok (.invokestatic idx, 3)) (hw : CS mi.1 idx 5 cal) (hct : Ct g d' cal [x0, x1, x2, x3, x4] μ Q') (hdd : DD cal d' d) (hst : (st.map fun v => v.category).sum ≤ 8)
    (kk : ∀ rv μ', Q' rv μ' → WA g d mi (pc + 3) ls (rv.toList ++ st) μ' Q) : WA g d mi pc ls (x4 :: x3 :: x2 :: x1 :: x0 :: st) μ Q := a_callS (As := [x0, x1, x2, x3, x4]) hd hw hct hdd rfl hst kk
theorem a_cN5 {x0 x1 x2 x3 x4 : Value} {d' idx : Nat} {cal : MI} {Q' : Option Value → MM → Prop} (hd : decode mi.2.1 pc = .ok (.invokestatic idx, 3)) (hw : CN mi.1 idx 5 cal) (hct : Ct g d' cal [x0, x1, x2, x3, x4] μ Q') (hdd : DD cal d' d) (hst : (st.map fun v => v.category).sum ≤ 8)
    (kk : ∀ rv μ', Q' rv μ' → WA g d mi (pc + 3) ls (rv.toList ++ st) μ' Q) : WA g d mi pc ls (x4 :: x3 :: x2 :: x1 :: x0 :: st) μ Q := a_callN (As := [x0, x1, x2, x3, x4]) hd hw hct hdd rfl hst kk
theorem a_cV6 {x0 x1 x2 x3 x4 x5 : Value} {d' idx ci b : Nat} {cal : MI} {fs : List (Option Nat)} {Q' : Option Value → MM → Prop} (hd : decode mi.2.1 pc = .ok (.invokevirtual idx, 3)) (hw : CV mi.1 idx ci 6 cal) (hct : Ct g d' cal (.ref b :: [x0, x1, x2, x3, x4, x5]) μ Q') (hdd : DD cal d' d) (hb : dom g b) (hs : sh b = .inl (ci, fs)) (hst : (st.map fun v => v.category).sum ≤ 8)
    (kk : ∀ rv μ', Q' rv μ' → WA g d mi (pc + 3) ls (rv.toList ++ st) μ' Q) : WA g d mi pc ls (x5 :: x4 :: x3 :: x2 :: x1 :: x0 :: .ref b :: st) μ Q := a_callV (As := [x0, x1, x2, x3, x4, x5]) hd hw hct hdd hb hs rfl hst kk
theorem a_cS6 {x0 x1 x2 x3 x4 x5 : Value} {d' idx : Nat} {cal : MI} {Q' : Option Value → MM → Prop} (hd : decode mi.2.1 pc = .ok (.invokestatic idx, 3)) (hw : CS mi.1 idx 6 cal) (hct : Ct g d' cal [x0, x1, x2, x3, x4, x5] μ Q') (hdd : DD cal d' d) (hst : (st.map fun v => v.category).sum ≤ 8)
    (kk : ∀ rv μ', Q' rv μ' → WA g d mi (pc + 3) ls (rv.toList ++ st) μ' Q) : WA g d mi pc ls (x5 :: x4 :: x3 :: x2 :: x1 :: x0 :: st) μ Q := a_callS (As := [x0, x1, x2, x3, x4, x5]) hd hw hct hdd rfl hst kk
theorem a_cN6 {x0 x1 x2 x3 x4 x5 : Value} {d' idx : Nat} {cal : MI} {Q' : Option Value → MM → Prop} (hd : decode mi.2.1 pc = .ok (.invokestatic idx, 3)) (hw : CN mi.1 idx 6 cal) (hct : Ct g d' cal [x0, x1, x2, x3, x4, x5] μ Q') (hdd : DD cal d' d) (hst : (st.map fun v => v.category).sum ≤ 8)
    (kk : ∀ rv μ', Q' rv μ' → WA g d mi (pc + 3) ls (rv.toList ++ st) μ' Q) : WA g d mi pc ls (x5 :: x4 :: x3 :: x2 :: x1 :: x0 :: st) μ Q := a_callN (As := [x0, x1, x2, x3, x4, x5]) hd hw hct hdd rfl hst kk
end BROWS
/-! naming steps -/
def bd {α β : Type} (x : α) (f : α → β) : β := f x
theorem bd_e {α β : Type} {x : α} {f : α → β} {r : β} (h : bd x f = r) : ∃ z, z = x ∧ f z = r := ⟨x, rfl, h⟩
theorem ob_e {α β : Type} {x : Option α} {f : α → Option β} {r : β} (h : x.bind f = some r) : ∃ z, x = some z ∧ f z = some r := by
  cases x with
  | none => cases h
  | some z => exact ⟨z, rfl, h⟩
