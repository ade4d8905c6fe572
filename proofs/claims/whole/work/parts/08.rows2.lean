/-! Rows as the decompiler uses them: named results, typed calls, switches; the kinds of cells. -/
theorem in_ix {w : Cond} (i : Nat) (h : lw_tbl[i]? = some w) (hg : goodWord w = true) : w ∈ wG := in_wG (List.mem_of_getElem? h) hg
def rm (x y : Int32) : Int32 := x - x / y * y
def rmL (x y : Int64) : Int64 := x - x / y * y
def sl (x y : Int32) : Int32 := x <<< (y &&& 31)
def sr (x y : Int32) : Int32 := x >>> (y &&& 31)
def usr (x y : Int32) : Int32 := (x.toUInt32 >>> (y.toUInt32 &&& Int32.toUInt32 31)).toInt32
def aln (r : Nat) : Nat := match sh r with
  | .inr (.inl (_, n)) => n
  | _ => 0
def isI (g : GT) (r : Nat) : Prop := dom g r ∧ r < NC ∧ sh r = .inr (.inl (0, aln r))
/-- the class's own cells; the reference's own cells -/
def GC (g : GT) : Prop := INJ g ∧ g.2.2.2.2 = (0, 144)
def GR (g : GT) : Prop := INJ g ∧ g.2.2.2.2 = (144, 22)
theorem GC.d {g : GT} (h : GC g) {r : Nat} (hr : r < 144) : dom g r := by unfold dom; rw [h.2]; exact ⟨Nat.zero_le _, by omega⟩
theorem GR.d {g : GT} (h : GR g) {r : Nat} (hr : 144 ≤ r ∧ r < 166) : dom g r := by unfold dom; rw [h.2]; exact ⟨hr.1, hr.2⟩
def isD (r : Nat) : Prop := r = 3 ∨ r = 8
def isW (r : Nat) : Prop := ∃ i, i < 20 ∧ r = 24 + 6 * i
theorem isD_l {r : Nat} (h : isD r) {k : Nat} (hk : k < 5) : r + k < 144 := by rcases h with rfl | rfl <;> omega
theorem isD_lt {g : GT} (hg : GC g) {r : Nat} (h : isD r) : dom g r := hg.d (isD_l h (k := 0) (by decide))
theorem isD_sh {r : Nat} (h : isD r) : sh r = .inl (1, fsDale r) := by rcases h with rfl | rfl <;> rfl
theorem isW_shk {r : Nat} (h : isW r) {k : Nat} (hk : k < 6) : sh (r + k) = shW r k := by
  obtain ⟨i, hi, rfl⟩ := h
  unfold sh
  rw [if_neg (by omega), if_pos (by omega)]
  have e1 : (24 + 6 * i + k - 24) / 6 = i := by omega
  have e2 : (24 + 6 * i + k - 24) % 6 = k := by omega
  rw [e1, e2]
theorem isW_l {r : Nat} (h : isW r) {k : Nat} (hk : k < 6) : r + k < 144 := by
  obtain ⟨i, hi, rfl⟩ := h
  omega
theorem isW_ltk {g : GT} (hg : GC g) {r : Nat} (h : isW r) {k : Nat} (hk : k < 6) : dom g (r + k) := hg.d (isW_l h hk)
theorem isW_lt {g : GT} (hg : GC g) {r : Nat} (h : isW r) : dom g r := isW_ltk hg h (k := 0) (by decide)
theorem isW_sh {r : Nat} (h : isW r) : sh r = .inl (5, fsWorld r) := isW_shk h (k := 0) (by decide)
theorem isI_of {g : GT} {r n : Nat} (h : dom g r) (h2 : r < 144) (hs : sh r = .inr (.inl (0, n))) : isI g r := ⟨h, by show r < 166; omega, by unfold aln; rw [hs]⟩
theorem isW_lt1 {g : GT} (hg : GC g) {r : Nat} (h : isW r) : dom g (r + 1) := isW_ltk hg h (by decide)
theorem isW_sh1 {r : Nat} (h : isW r) : sh (r + 1) = .inr (.inl (0, 48)) := isW_shk h (by decide)
theorem isW_i1 {g : GT} (hg : GC g) {r : Nat} (h : isW r) : isI g (r + 1) := isI_of (isW_lt1 hg h) (isW_l h (by decide)) (isW_sh1 h)
theorem isW_n1 {r : Nat} (h : isW r) : aln (r + 1) = 48 := by unfold aln; rw [isW_sh1 h]
theorem isW_lt2 {g : GT} (hg : GC g) {r : Nat} (h : isW r) : dom g (r + 2) := isW_ltk hg h (by decide)
theorem isW_sh2 {r : Nat} (h : isW r) : sh (r + 2) = .inr (.inl (0, 80)) := isW_shk h (by decide)
theorem isW_i2 {g : GT} (hg : GC g) {r : Nat} (h : isW r) : isI g (r + 2) := isI_of (isW_lt2 hg h) (isW_l h (by decide)) (isW_sh2 h)
theorem isW_n2 {r : Nat} (h : isW r) : aln (r + 2) = 80 := by unfold aln; rw [isW_sh2 h]
theorem isW_lt3 {g : GT} (hg : GC g) {r : Nat} (h : isW r) : dom g (r + 3) := isW_ltk hg h (by decide)
theorem isW_sh3 {r : Nat} (h : isW r) : sh (r + 3) = .inr (.inl (0, 9)) := isW_shk h (by decide)
theorem isW_i3 {g : GT} (hg : GC g) {r : Nat} (h : isW r) : isI g (r + 3) := isI_of (isW_lt3 hg h) (isW_l h (by decide)) (isW_sh3 h)
theorem isW_n3 {r : Nat} (h : isW r) : aln (r + 3) = 9 := by unfold aln; rw [isW_sh3 h]
theorem isW_lt4 {g : GT} (hg : GC g) {r : Nat} (h : isW r) : dom g (r + 4) := isW_ltk hg h (by decide)
theorem isW_sh4 {r : Nat} (h : isW r) : sh (r + 4) = .inr (.inl (0, 9)) := isW_shk h (by decide)
theorem isW_i4 {g : GT} (hg : GC g) {r : Nat} (h : isW r) : isI g (r + 4) := isI_of (isW_lt4 hg h) (isW_l h (by decide)) (isW_sh4 h)
theorem isW_n4 {r : Nat} (h : isW r) : aln (r + 4) = 9 := by unfold aln; rw [isW_sh4 h]
theorem isW_lt5 {g : GT} (hg : GC g) {r : Nat} (h : isW r) : dom g (r + 5) := isW_ltk hg h (by decide)
theorem isW_sh5 {r : Nat} (h : isW r) : sh (r + 5) = .inr (.inl (0, 9)) := isW_shk h (by decide)
theorem isW_i5 {g : GT} (hg : GC g) {r : Nat} (h : isW r) : isI g (r + 5) := isI_of (isW_lt5 hg h) (isW_l h (by decide)) (isW_sh5 h)
theorem isW_n5 {r : Nat} (h : isW r) : aln (r + 5) = 9 := by unfold aln; rw [isW_sh5 h]
theorem isD_lt1 {g : GT} (hg : GC g) {r : Nat} (h : isD r) : dom g (r + 1) := hg.d (isD_l h (by decide))
theorem isD_sh1 {r : Nat} (h : isD r) : sh (r + 1) = .inr (.inl (0, 9)) := by rcases h with rfl | rfl <;> rfl
theorem isD_i1 {g : GT} (hg : GC g) {r : Nat} (h : isD r) : isI g (r + 1) := isI_of (isD_lt1 hg h) (isD_l h (by decide)) (isD_sh1 h)
theorem isD_n1 {r : Nat} (h : isD r) : aln (r + 1) = 9 := by unfold aln; rw [isD_sh1 h]
theorem isD_lt2 {g : GT} (hg : GC g) {r : Nat} (h : isD r) : dom g (r + 2) := hg.d (isD_l h (by decide))
theorem isD_sh2 {r : Nat} (h : isD r) : sh (r + 2) = .inr (.inl (0, 9)) := by rcases h with rfl | rfl <;> rfl
theorem isD_i2 {g : GT} (hg : GC g) {r : Nat} (h : isD r) : isI g (r + 2) := isI_of (isD_lt2 hg h) (isD_l h (by decide)) (isD_sh2 h)
theorem isD_n2 {r : Nat} (h : isD r) : aln (r + 2) = 9 := by unfold aln; rw [isD_sh2 h]
theorem isD_lt3 {g : GT} (hg : GC g) {r : Nat} (h : isD r) : dom g (r + 3) := hg.d (isD_l h (by decide))
theorem isD_sh3 {r : Nat} (h : isD r) : sh (r + 3) = .inr (.inl (0, 9)) := by rcases h with rfl | rfl <;> rfl
theorem isD_i3 {g : GT} (hg : GC g) {r : Nat} (h : isD r) : isI g (r + 3) := isI_of (isD_lt3 hg h) (isD_l h (by decide)) (isD_sh3 h)
theorem isD_n3 {r : Nat} (h : isD r) : aln (r + 3) = 9 := by unfold aln; rw [isD_sh3 h]
theorem isD_lt4 {g : GT} (hg : GC g) {r : Nat} (h : isD r) : dom g (r + 4) := hg.d (isD_l h (by decide))
theorem isD_sh4 {r : Nat} (h : isD r) : sh (r + 4) = .inr (.inl (0, 9)) := by rcases h with rfl | rfl <;> rfl
theorem isD_i4 {g : GT} (hg : GC g) {r : Nat} (h : isD r) : isI g (r + 4) := isI_of (isD_lt4 hg h) (isD_l h (by decide)) (isD_sh4 h)
theorem isD_n4 {r : Nat} (h : isD r) : aln (r + 4) = 9 := by unfold aln; rw [isD_sh4 h]
theorem vi {i : Int32} {n : Nat} (h : (!(decide (i < 0) || decide (n ≤ i.toNatClampNeg))) = true) : vp_in i n := by
  intro q
  rcases q with q | q <;> simp [q] at h
def gd {α : Type} (c : Prop) [Decidable c] (x : Option α) : Option α := if c then x else none
theorem gd_e {α : Type} {c : Prop} [Decidable c] {x : Option α} {r : α} (h : gd c x = some r) : c ∧ x = some r := by
  unfold gd at h
  by_cases hc : c
  · rw [if_pos hc] at h; exact ⟨hc, h⟩
  · rw [if_neg hc] at h; cases h
def QI (r : Int32) (μ : MM) : Option Value → MM → Prop := fun rv m => rv = some (.int r) ∧ m = μ
def QV (μ : MM) : Option Value → MM → Prop := fun rv m => rv = none ∧ m = μ
/-- at most what is known of the locals is forgotten -/
def wk : List (Option Value) → List (Option Value) → Prop
  | [], [] => True
  | a :: r, b :: r' => (b = none ∨ b = a) ∧ wk r r'
  | _, _ => False
section CROWS
variable {g : GT} {d : Nat} {mi : MI} {pc : Nat} {ls : List (Option Value)} {st : List Value} {μ μ' : MM} {Q : Option Value → MM → Prop}
theorem wk_mem {g : GT} : ∀ (a b : List (Option Value)) (i : Nat), wk a b → ∀ q ∈ lsC g i b, q ∈ lsC g i a
  | [], [], i, h, q, hq => hq
  | [], _ :: _, i, h, q, hq => h.elim
  | _ :: _, [], i, h, q, hq => h.elim
  | x :: r, y :: r', i, h, q, hq => by
    obtain ⟨h1, h2⟩ := h
    have ih := wk_mem (g := g) r r' (i + 1) h2 q
    rcases h1 with rfl | rfl
    · cases x with
      | none => exact ih hq
      | some v => exact List.mem_cons_of_mem _ (ih hq)
    · cases y with
      | none => exact ih hq
      | some v =>
        rcases List.mem_cons.mp hq with h | h
        · rw [h]; exact List.mem_cons_self
        · exact List.mem_cons_of_mem _ (ih h)
theorem a_wk {ls' : List (Option Value)} (h : wk ls ls') (k : WA g d mi pc ls' st μ Q) : WA g d mi pc ls st μ Q :=
  fun p e s m args below meth c H locs lsA A hP hS hl => k p e s m args below meth c H locs lsA A hP hS (hl.le (wk_mem ls ls' 0 h))
theorem a_nm {x e : Int32} (he : x = e) (k : WA g d mi pc ls (.int x :: st) μ Q) : WA g d mi pc ls (.int e :: st) μ Q := he ▸ k
theorem a_nmL {x e : Int64} (he : x = e) (k : WA g d mi pc ls (.long x :: st) μ Q) : WA g d mi pc ls (.long e :: st) μ Q := he ▸ k
theorem a_rem {x y : Int32} (hd : decode mi.2.1 pc = .ok (.irem, 1)) (hne : ¬ y = 0) (k : WA g d mi (pc + 1) ls (.int (rm x y) :: st) μ Q) : WA g d mi pc ls (.int y :: .int x :: st) μ Q := a_irem hd hne k
theorem a_remL {x y : Int64} (hd : decode mi.2.1 pc = .ok (.lrem, 1)) (hne : ¬ y = 0) (k : WA g d mi (pc + 1) ls (.long (rmL x y) :: st) μ Q) : WA g d mi pc ls (.long y :: .long x :: st) μ Q := a_lrem hd hne k
theorem a_shl {x y : Int32} (hd : decode mi.2.1 pc = .ok (.ishl, 1)) (k : WA g d mi (pc + 1) ls (.int (sl x y) :: st) μ Q) : WA g d mi pc ls (.int y :: .int x :: st) μ Q := a_ishl hd k
theorem a_shr {x y : Int32} (hd : decode mi.2.1 pc = .ok (.ishr, 1)) (k : WA g d mi (pc + 1) ls (.int (sr x y) :: st) μ Q) : WA g d mi pc ls (.int y :: .int x :: st) μ Q := a_ishr hd k
theorem a_ushr {x y : Int32} (hd : decode mi.2.1 pc = .ok (.iushr, 1)) (k : WA g d mi (pc + 1) ls (.int (usr x y) :: st) μ Q) : WA g d mi pc ls (.int y :: .int x :: st) μ Q := a_iushr hd k
theorem a_pI {r ci k idx : Nat} {v : Int32} {fs : List (Option Nat)} (he : μ' = up2 μ r k v) (hd : decode mi.2.1 pc = .ok (.putfield idx, 3)) (hf : FP mi.1 idx ci k .int) (hr : dom g r) (hs : sh r = .inl (ci, fs)) (hk : fs[k]? = some none) (kk : WA g d mi (pc + 3) ls st μ' Q) : WA g d mi pc ls (.int v :: .ref r :: st) μ Q := a_putI hd hf hr hs hk (he ▸ kk)
theorem a_pZ {r ci k idx : Nat} {v : Int32} {fs : List (Option Nat)} (he : μ' = up2 μ r k v) (hd : decode mi.2.1 pc = .ok (.putfield idx, 3)) (hf : FP mi.1 idx ci k .boolean) (hv : v = 0 ∨ v = 1) (hr : dom g r) (hs : sh r = .inl (ci, fs)) (hk : fs[k]? = some none) (kk : WA g d mi (pc + 3) ls st μ' Q) : WA g d mi pc ls (.int v :: .ref r :: st) μ Q := a_putZ hd hf hv hr hs hk (he ▸ kk)
theorem a_ldC {r n j : Nat} {i : Int32} (hd : decode mi.2.1 pc = .ok (.iaload, 1)) (hr : dom g r) (hs : sh r = .inr (.inl (0, n))) (hi : vp_in i n) (hj : i.toNatClampNeg = j) (kk : WA g d mi (pc + 1) ls (.int (μ r j) :: st) μ Q) : WA g d mi pc ls (.int i :: .ref r :: st) μ Q := a_iald hd hr hs hi (hj ▸ kk)
theorem a_zldC {r n j : Nat} {i : Int32} (hd : decode mi.2.1 pc = .ok (.baload, 1)) (hr : dom g r) (hs : sh r = .inr (.inl (1, n))) (hi : vp_in i n) (hj : i.toNatClampNeg = j) (kk : WA g d mi (pc + 1) ls (.int (μ r j) :: st) μ Q) : WA g d mi pc ls (.int i :: .ref r :: st) μ Q := a_zald hd hr hs hi (hj ▸ kk)
theorem a_sI {r n j : Nat} {i x : Int32} (he : μ' = up2 μ r j x) (hd : decode mi.2.1 pc = .ok (.iastore, 1)) (hr : dom g r) (hs : sh r = .inr (.inl (0, n))) (hi : vp_in i n) (hj : i.toNatClampNeg = j) (kk : WA g d mi (pc + 1) ls st μ' Q) : WA g d mi pc ls (.int x :: .int i :: .ref r :: st) μ Q := a_iast hd hr hs hi (by rw [hj]; exact he ▸ kk)
theorem a_sZ {r n j : Nat} {i x : Int32} (he : μ' = up2 μ r j (vp_nar .boolean x)) (hd : decode mi.2.1 pc = .ok (.bastore, 1)) (hr : dom g r) (hs : sh r = .inr (.inl (1, n))) (hi : vp_in i n) (hj : i.toNatClampNeg = j) (kk : WA g d mi (pc + 1) ls st μ' Q) : WA g d mi pc ls (.int x :: .int i :: .ref r :: st) μ Q := a_zast hd hr hs hi (by rw [hj]; exact he ▸ kk)
theorem a_cp {r0 r1 n0 n1 n idx : Nat} {z0 z1 k : Int32} (he : μ' = cpy μ r0 r1 n) (hd : decode mi.2.1 pc = .ok (.invokestatic idx, 3)) (hw : Cond.methodLink mi.1 idx arraycopyName ∈ wG ∧ Cond.native arraycopyName ∈ wG ∧ Cond.static arraycopyName ∈ wG ∧ Cond.initialized "java/lang/System" ∈ wG)
    (hr0 : dom g r0) (hs0 : sh r0 = .inr (.inl (0, n0))) (hr1 : dom g r1) (hs1 : sh r1 = .inr (.inl (0, n1))) (hz0 : z0 = 0) (hz1 : z1 = 0) (hk : k = nI n) (hn : n < 2 ^ 31) (hn0 : n ≤ n0) (hn1 : n ≤ n1) (hst : st = []) (hdd : 1 ≤ d)
    (kk : WA g d mi (pc + 3) ls st μ' Q) : WA g d mi pc ls (.int k :: .int z1 :: .ref r1 :: .int z0 :: .ref r0 :: st) μ Q := a_copy hd hw.1 hw.2.1 hw.2.2.1 hw.2.2.2 hr0 hr1 hs0 hs1 hz0 hz1 hk hn hn0 hn1 hst hdd (he ▸ kk)
theorem a_tsIn {x k : Int32} {dflt lo hi off : Int} {offs : Array Int} {len tgt : Nat} (hd : decode mi.2.1 pc = .ok (.tableswitch dflt lo hi offs, len)) (hx : x = k) (h1 : ¬ k.toInt < lo) (h2 : ¬ hi < k.toInt) (ho : offs[(k.toInt - lo).toNat]? = some off) (ht : (pc : Int) + off = (tgt : Int)) (kk : WA g d mi tgt ls st μ Q) : WA g d mi pc ls (.int x :: st) μ Q := by
  subst hx
  intro p e s m args below meth c H locs lsA A hP hS hl
  exact lv_tableIn A.1 A.2.1 hd h1 h2 ho ht (kk p e s m args below meth c H locs lsA A hP hS hl)
theorem a_tsOut {x : Int32} {dflt lo hi : Int} {offs : Array Int} {len tgt : Nat} (hd : decode mi.2.1 pc = .ok (.tableswitch dflt lo hi offs, len)) (h : x.toInt < lo ∨ hi < x.toInt) (ht : (pc : Int) + dflt = (tgt : Int)) (kk : WA g d mi tgt ls st μ Q) : WA g d mi pc ls (.int x :: st) μ Q := by
  intro p e s m args below meth c H locs lsA A hP hS hl
  exact lv_tableOut A.1 A.2.1 hd h ht (kk p e s m args below meth c H locs lsA A hP hS hl)
theorem a_iV0 {rr : Int32} {d' idx ci b : Nat} {cal : MI} {fs : List (Option Nat)} (hd : decode mi.2.1 pc = .ok (.invokevirtual idx, 3)) (hw : CV mi.1 idx ci 0 cal) (hct : Ct g d' cal (.ref b :: []) μ (QI rr μ')) (hdd : DD cal d' d) (hb : dom g b) (hs : sh b = .inl (ci, fs)) (hst : (st.map fun v => v.category).sum ≤ 8) (kk : WA g d mi (pc + 3) ls (.int rr :: st) μ' Q) : WA g d mi pc ls (.ref b :: st) μ Q := a_cV0 hd hw hct hdd hb hs hst (fun rv m h => by obtain ⟨rfl, rfl⟩ := h; exact kk)
theorem a_iS0 {rr : Int32} {d' idx : Nat} {cal : MI} (hd : decode mi.2.1 pc = .ok (.invokestatic idx, 3)) (hw : CS mi.1 idx 0 cal) (hct : Ct g d' cal [] μ (QI rr μ')) (hdd : DD cal d' d) (hst : (st.map fun v => v.category).sum ≤ 8) (kk : WA g d mi (pc + 3) ls (.int rr :: st) μ' Q) : WA g d mi pc ls (st) μ Q := a_cS0 hd hw hct hdd hst (fun rv m h => by obtain ⟨rfl, rfl⟩ := h; exact kk)
theorem a_iN0 {rr : Int32} {d' idx : Nat} {cal : MI} (hd : decode mi.2.1 pc = .ok (.invokestatic idx, 3)) (hw : CN mi.1 idx 0 cal) (hct : Ct g d' cal [] μ (QI rr μ')) (hdd : DD cal d' d) (hst : (st.map fun v => v.category).sum ≤ 8) (kk : WA g d mi (pc + 3) ls (.int rr :: st) μ' Q) : WA g d mi pc ls (st) μ Q := a_cN0 hd hw hct hdd hst (fun rv m h => by obtain ⟨rfl, rfl⟩ := h; exact kk)
theorem a_vV0 {d' idx ci b : Nat} {cal : MI} {fs : List (Option Nat)} (hd : decode mi.2.1 pc = .ok (.invokevirtual idx, 3)) (hw : CV mi.1 idx ci 0 cal) (hct : Ct g d' cal (.ref b :: []) μ (QV μ')) (hdd : DD cal d' d) (hb : dom g b) (hs : sh b = .inl (ci, fs)) (hst : (st.map fun v => v.category).sum ≤ 8) (kk : WA g d mi (pc + 3) ls (st) μ' Q) : WA g d mi pc ls (.ref b :: st) μ Q := a_cV0 hd hw hct hdd hb hs hst (fun rv m h => by obtain ⟨rfl, rfl⟩ := h; exact kk)
theorem a_vS0 {d' idx : Nat} {cal : MI} (hd : decode mi.2.1 pc = .ok (.invokestatic idx, 3)) (hw : CS mi.1 idx 0 cal) (hct : Ct g d' cal [] μ (QV μ')) (hdd : DD cal d' d) (hst : (st.map fun v => v.category).sum ≤ 8) (kk : WA g d mi (pc + 3) ls (st) μ' Q) : WA g d mi pc ls (st) μ Q := a_cS0 hd hw hct hdd hst (fun rv m h => by obtain ⟨rfl, rfl⟩ := h; exact kk)
theorem a_vN0 {d' idx : Nat} {cal : MI} (hd : decode mi.2.1 pc = .ok (.invokestatic idx, 3)) (hw : CN mi.1 idx 0 cal) (hct : Ct g d' cal [] μ (QV μ')) (hdd : DD cal d' d) (hst : (st.map fun v => v.category).sum ≤ 8) (kk : WA g d mi (pc + 3) ls (st) μ' Q) : WA g d mi pc ls (st) μ Q := a_cN0 hd hw hct hdd hst (fun rv m h => by obtain ⟨rfl, rfl⟩ := h; exact kk)
theorem a_iV1 {x0 : Value} {rr : Int32} {d' idx ci b : Nat} {cal : MI} {fs : List (Option Nat)} (hd : decode mi.2.1 pc = .ok (.invokevirtual idx, 3)) (hw : CV mi.1 idx ci 1 cal) (hct : Ct g d' cal (.ref b :: [x0]) μ (QI rr μ')) (hdd : DD cal d' d) (hb : dom g b) (hs : sh b = .inl (ci, fs)) (hst : (st.map fun v => v.category).sum ≤ 8) (kk : WA g d mi (pc + 3) ls (.int rr :: st) μ' Q) : WA g d mi pc ls (x0 :: .ref b :: st) μ Q := a_cV1 hd hw hct hdd hb hs hst (fun rv m h => by obtain ⟨rfl, rfl⟩ := h; exact kk)
theorem a_iS1 {x0 : Value} {rr : Int32} {d' idx : Nat} {cal : MI} (hd : decode mi.2.1 pc = .ok (.invokestatic idx, 3)) (hw : CS mi.1 idx 1 cal) (hct : Ct g d' cal [x0] μ (QI rr μ')) (hdd : DD cal d' d) (hst : (st.map fun v => v.category).sum ≤ 8) (kk : WA g d mi (pc + 3) ls (.int rr :: st) μ' Q) : WA g d mi pc ls (x0 :: st) μ Q := a_cS1 hd hw hct hdd hst (fun rv m h => by obtain ⟨rfl, rfl⟩ := h; exact kk)
theorem a_iN1 {x0 : Value} {rr : Int32} {d' idx : Nat} {cal : MI} (hd : decode mi.2.1 pc = .ok (.invokestatic idx, 3)) (hw : CN mi.1 idx 1 cal) (hct : Ct g d' cal [x0] μ (QI rr μ')) (hdd : DD cal d' d) (hst : (st.map fun v => v.category).sum ≤ 8) (kk : WA g d mi (pc + 3) ls (.int rr :: st) μ' Q) : WA g d mi pc ls (x0 :: st) μ Q := a_cN1 hd hw hct hdd hst (fun rv m h => by obtain ⟨rfl, rfl⟩ := h; exact kk)
theorem a_vV1 {x0 : Value} {d' idx ci b : Nat} {cal : MI} {fs : List (Option Nat)} (hd : decode mi.2.1 pc = .ok (.invokevirtual idx, 3)) (hw : CV mi.1 idx ci 1 cal) (hct : Ct g d' cal (.ref b :: [x0]) μ (QV μ')) (hdd : DD cal d' d) (hb : dom g b) (hs : sh b = .inl (ci, fs)) (hst : (st.map fun v => v.category).sum ≤ 8) (kk : WA g d mi (pc + 3) ls (st) μ' Q) : WA g d mi pc ls (x0 :: .ref b :: st) μ Q := a_cV1 hd hw hct hdd hb hs hst (fun rv m h => by obtain ⟨rfl, rfl⟩ := h; exact kk)
theorem a_vS1 {x0 : Value} {d' idx : Nat} {cal : MI} (hd : decode mi.2.1 pc = .ok (.invokestatic idx, 3)) (hw : CS mi.1 idx 1 cal) (hct : Ct g d' cal [x0] μ (QV μ')) (hdd : DD cal d' d) (hst : (st.map fun v => v.category).sum ≤ 8) (kk : WA g d mi (pc + 3) ls (st) μ' Q) : WA g d mi pc ls (x0 :: st) μ Q := a_cS1 hd hw hct hdd hst (fun rv m h => by obtain ⟨rfl, rfl⟩ := h; exact kk)
theorem a_vN1 {x0 : Value} {d' idx : Nat} {cal : MI} (hd : decode mi.2.1 pc = .ok (.invokestatic idx, 3)) (hw : CN mi.1 idx 1 cal) (hct : Ct g d' cal [x0] μ (QV μ')) (hdd : DD cal d' d) (hst : (st.map fun v => v.category).sum ≤ 8) (kk : WA g d mi (pc + 3) ls (st) μ' Q) : WA g d mi pc ls (x0 :: st) μ Q := a_cN1 hd hw hct hdd hst (fun rv m h => by obtain ⟨rfl, rfl⟩ := h; exact kk)
theorem a_iV2 {x0 x1 : Value} {rr : Int32} {d' idx ci b : Nat} {cal : MI} {fs : List (Option Nat)} (hd : decode mi.2.1 pc = .ok (.invokevirtual idx, 3)) (hw : CV mi.1 idx ci 2 cal) (hct : Ct g d' cal (.ref b :: [x0, x1]) μ (QI rr μ')) (hdd : DD cal d' d) (hb : dom g b) (hs : sh b = .inl (ci, fs)) (hst : (st.map fun v => v.category).sum ≤ 8) (kk : WA g d mi (pc + 3) ls (.int rr :: st) μ' Q) : WA g d mi pc ls (x1 :: x0 :: .ref b :: st) μ Q := a_cV2 hd hw hct hdd hb hs hst (fun rv m h => by obtain ⟨rfl, rfl⟩ := h; exact kk)
theorem a_iS2 {x0 x1 : Value} {rr : Int32} {d' idx : Nat} {cal : MI} (hd : decode mi.2.1 pc = .ok (.invokestatic idx, 3)) (hw : CS mi.1 idx 2 cal) (hct : Ct g d' cal [x0, x1] μ (QI rr μ')) (hdd : DD cal d' d) (hst : (st.map fun v => v.category).sum ≤ 8) (kk : WA g d mi (pc + 3) ls (.int rr :: st) μ' Q) : WA g d mi pc ls (x1 :: x0 :: st) μ Q := a_cS2 hd hw hct hdd hst (fun rv m h => by obtain ⟨rfl, rfl⟩ := h; exact kk)
theorem a_iN2 {x0 x1 : Value} {rr : Int32} {d' idx : Nat} {cal : MI} (hd : decode mi.2.1 pc = .ok (.invokestatic idx, 3)) (hw : CN mi.1 idx 2 cal) (hct : Ct g d' cal [x0, x1] μ (QI rr μ')) (hdd : DD cal d' d) (hst : (st.map fun v => v.category).sum ≤ 8) (kk : WA g d mi (pc + 3) ls (.int rr :: st) μ' Q) : WA g d mi pc ls (x1 :: x0 :: st) μ Q := a_cN2 hd hw hct hdd hst (fun rv m h => by obtain ⟨rfl, rfl⟩ := h; exact kk)
theorem a_vV2 {x0 x1 : Value} {d' idx ci b : Nat} {cal : MI} {fs : List (Option Nat)} (hd : decode mi.2.1 pc = .ok (.invokevirtual idx, 3)) (hw : CV mi.1 idx ci 2 cal) (hct : Ct g d' cal (.ref b :: [x0, x1]) μ (QV μ')) (hdd : DD cal d' d) (hb : dom g b) (hs : sh b = .inl (ci, fs)) (hst : (st.map fun v => v.category).sum ≤ 8) (kk : WA g d mi (pc + 3) ls (st) μ' Q) : WA g d mi pc ls (x1 :: x0 :: .ref b :: st) μ Q := a_cV2 hd hw hct hdd hb hs hst (fun rv m h => by obtain ⟨rfl, rfl⟩ := h; exact kk)
theorem a_vS2 {x0 x1 : Value} {d' idx : Nat} {cal : MI} (hd : decode mi.2.1 pc = .ok (.invokestatic idx, 3)) (hw : CS mi.1 idx 2 cal) (hct : Ct g d' cal [x0, x1] μ (QV μ')) (hdd : DD cal d' d) (hst : (st.map fun v => v.category).sum ≤ 8) (kk : WA g d mi (pc + 3) ls (st) μ' Q) : WA g d mi pc ls (x1 :: x0 :: st) μ Q := a_cS2 hd hw hct hdd hst (fun rv m h => by obtain ⟨rfl, rfl⟩ := h; exact kk)
theorem a_vN2 {x0 x1 : Value} {d' idx : Nat} {cal : MI} (hd : decode mi.2.1 pc = .ok (.invokestatic idx, 3)) (hw : CN mi.1 idx 2 cal) (hct : Ct g d' cal [x0, x1] μ (QV μ')) (hdd : DD cal d' d) (hst : (st.map fun v => v.category).sum ≤ 8) (kk : WA g d mi (pc + 3) ls (st) μ' Q) : WA g d mi pc ls (x1 :: x0 :: st) μ Q := a_cN2 hd hw hct hdd hst (fun rv m h => by obtain ⟨rfl, rfl⟩ := h; exact kk)
theorem a_iV3 {x0 x1 x2 : Value} {rr : Int32} {d' idx ci b : Nat} {cal : MI} {fs : List (Option Nat)} (hd : decode mi.2.1 pc = .ok (.invokevirtual idx, 3)) (hw : CV mi.1 idx ci 3 cal) (hct : Ct g d' cal (.ref b :: [x0, x1, x2]) μ (QI rr μ')) (hdd : DD cal d' d) (hb : dom g b) (hs : sh b = .inl (ci, fs)) (hst : (st.map fun v => v.category).sum ≤ 8) (kk : WA g d mi (pc + 3) ls (.int rr :: st) μ' Q) : WA g d mi pc ls (x2 :: x1 :: x0 :: .ref b :: st) μ Q := a_cV3 hd hw hct hdd hb hs hst (fun rv m h => by obtain ⟨rfl, rfl⟩ := h; exact kk)
theorem a_iS3 {x0 x1 x2 : Value} {rr : Int32} {d' idx : Nat} {cal : MI} (hd : decode mi.2.1 pc = .ok (.invokestatic idx, 3)) (hw : CS mi.1 idx 3 cal) (hct : Ct g d' cal [x0, x1, x2] μ (QI rr μ')) (hdd : DD cal d' d) (hst : (st.map fun v => v.category).sum ≤ 8) (kk : WA g d mi (pc + 3) ls (.int rr :: st) μ' Q) : WA g d mi pc ls (x2 :: x1 :: x0 :: st) μ Q := a_cS3 hd hw hct hdd hst (fun rv m h => by obtain ⟨rfl, rfl⟩ := h; exact kk)
theorem a_iN3 {x0 x1 x2 : Value} {rr : Int32} {d' idx : Nat} {cal : MI} (hd : decode mi.2.1 pc = .ok (.invokestatic idx, 3)) (hw : CN mi.1 idx 3 cal) (hct : Ct g d' cal [x0, x1, x2] μ (QI rr μ')) (hdd : DD cal d' d) (hst : (st.map fun v => v.category).sum ≤ 8) (kk : WA g d mi (pc + 3) ls (.int rr :: st) μ' Q) : WA g d mi pc ls (x2 :: x1 :: x0 :: st) μ Q := a_cN3 hd hw hct hdd hst (fun rv m h => by obtain ⟨rfl, rfl⟩ := h; exact kk)
theorem a_vV3 {x0 x1 x2 : Value} {d' idx ci b : Nat} {cal : MI} {fs : List (Option Nat)} (hd : decode mi.2.1 pc = .ok (.invokevirtual idx, 3)) (hw : CV mi.1 idx ci 3 cal) (hct : Ct g d' cal (.ref b :: [x0, x1, x2]) μ (QV μ')) (hdd : DD cal d' d) (hb : dom g b) (hs : sh b = .inl (ci, fs)) (hst : (st.map fun v => v.category).sum ≤ 8) (kk : WA g d mi (pc + 3) ls (st) μ' Q) : WA g d mi pc ls (x2 :: x1 :: x0 :: .ref b :: st) μ Q := a_cV3 hd hw hct hdd hb hs hst (fun rv m h => by obtain ⟨rfl, rfl⟩ := h; exact kk)
theorem a_vS3 {x0 x1 x2 : Value} {d' idx : Nat} {cal : MI} (hd : decode mi.2.1 pc = .ok (.invokestatic idx, 3)) (hw : CS mi.1 idx 3 cal) (hct : Ct g d' cal [x0, x1, x2] μ (QV μ')) (hdd : DD cal d' d) (hst : (st.map fun v => v.category).sum ≤ 8) (kk : WA g d mi (pc + 3) ls (st) μ' Q) : WA g d mi pc ls (x2 :: x1 :: x0 :: st) μ Q := a_cS3 hd hw hct hdd hst (fun rv m h => by obtain ⟨rfl, rfl⟩ := h; exact kk)
theorem a_vN3 {x0 x1 x2 : Value} {d' idx : Nat} {cal : MI} (hd : decode mi.2.1 pc = .ok (.invokestatic idx, 3)) (hw : CN mi.1 idx 3 cal) (hct : Ct g d' cal [x0, x1, x2] μ (QV μ')) (hdd : DD cal d' d) (hst : (st.map fun v => v.category).sum ≤ 8) (kk : WA g d mi (pc + 3) ls (st) μ' Q) : WA g d mi pc ls (x2 :: x1 :: x0 :: st) μ Q := a_cN3 hd hw hct hdd hst (fun rv m h => by obtain ⟨rfl, rfl⟩ := h; exact kk)
theorem a_iV4 {x0 x1 x2 x3 : Value} {rr : Int32} {d' idx ci b : Nat} {cal : MI} {fs : List (Option Nat)} (hd : decode mi.2.1 pc = .ok (.invokevirtual idx, 3)) (hw : CV mi.1 idx ci 4 cal) (hct : Ct g d' cal (.ref b :: [x0, x1, x2, x3]) μ (QI rr μ')) (hdd : DD cal d' d) (hb : dom g b) (hs : sh b = .inl (ci, fs)) (hst : (st.map fun v => v.category).sum ≤ 8) (kk : WA g d mi (pc + 3) ls (.int rr :: st) μ' Q) : WA g d mi pc ls (x3 :: x2 :: x1 :: x0 :: .ref b :: st) μ Q := a_cV4 hd hw hct hdd hb hs hst (fun rv m h => by obtain ⟨rfl, rfl⟩ := h; exact kk)
theorem a_iS4 {x0 x1 x2 x3 : Value} {rr : Int32} {d' idx : Nat} {cal : MI} (hd : decode mi.2.1 pc = .ok (.invokestatic idx, 3)) (hw : CS mi.1 idx 4 cal) (hct : Ct g d' cal [x0, x1, x2, x3] μ (QI rr μ')) (hdd : DD cal d' d) (hst : (st.map fun v => v.category).sum ≤ 8) (kk : WA g d mi (pc + 3) ls (.int rr :: st) μ' Q) : WA g d mi pc ls (x3 :: x2 :: x1 :: x0 :: st) μ Q := a_cS4 hd hw hct hdd hst (fun rv m h => by obtain ⟨rfl, rfl⟩ := h; exact kk)
theorem a_iN4 {x0 x1 x2 x3 : Value} {rr : Int32} {d' idx : Nat} {cal : MI} (hd : decode mi.2.1 pc = .ok (.invokestatic idx, 3)) (hw : CN mi.1 idx 4 cal) (hct : Ct g d' cal [x0, x1, x2, x3] μ (QI rr μ')) (hdd : DD cal d' d) (hst : (st.map fun v => v.category).sum ≤ 8) (kk : WA g d mi (pc + 3) ls (.int rr :: st) μ' Q) : WA g d mi pc ls (x3 :: x2 :: x1 :: x0 :: st) μ Q := a_cN4 hd hw hct hdd hst (fun rv m h => by obtain ⟨rfl, rfl⟩ := h; exact kk)
theorem a_vV4 {x0 x1 x2 x3 : Value} {d' idx ci b : Nat} {cal : MI} {fs : List (Option Nat)} (hd : decode mi.2.1 pc = .ok (.invokevirtual idx, 3)) (hw : CV mi.1 idx ci 4 cal) (hct : Ct g d' cal (.ref b :: [x0, x1, x2, x3]) μ (QV μ')) (hdd : DD cal d' d) (hb : dom g b) (hs : sh b = .inl (ci, fs)) (hst : (st.map fun v => v.category).sum ≤ 8) (kk : WA g d mi (pc + 3) ls (st) μ' Q) : WA g d mi pc ls (x3 :: x2 :: x1 :: x0 :: .ref b :: st) μ Q := a_cV4 hd hw hct hdd hb hs hst (fun rv m h => by obtain ⟨rfl, rfl⟩ := h; exact kk)
theorem a_vS4 {x0 x1 x2 x3 : Value} {d' idx : Nat} {cal : MI} (hd : decode mi.2.1 pc = .ok (.invokestatic idx, 3)) (hw : CS mi.1 idx 4 cal) (hct : Ct g d' cal [x0, x1, x2, x3] μ (QV μ')) (hdd : DD cal d' d) (hst : (st.map fun v => v.category).sum ≤ 8) (kk : WA g d mi (pc + 3) ls (st) μ' Q) : WA g d mi pc ls (x3 :: x2 :: x1 :: x0 :: st) μ Q := a_cS4 hd hw hct hdd hst (fun rv m h => by obtain ⟨rfl, rfl⟩ := h; exact kk)
theorem a_vN4 {x0 x1 x2 x3 : Value} {d' idx : Nat} {cal : MI} (hd : decode mi.2.1 pc = .ok (.invokestatic idx, 3)) (hw : CN mi.1 idx 4 cal) (hct : Ct g d' cal [x0, x1, x2, x3] μ (QV μ')) (hdd : DD cal d' d) (hst : (st.map fun v => v.category).sum ≤ 8) (kk : WA g d mi (pc + 3) ls (st) μ' Q) : WA g d mi pc ls (x3 :: x2 :: x1 :: x0 :: st) μ Q := a_cN4 hd hw hct hdd hst (fun rv m h => by obtain ⟨rfl, rfl⟩ := h; exact kk)
theorem a_iV5 {x0 x1 x2 x3 x4 : Value} {rr : Int32} {d' idx ci b : Nat} {cal : MI} {fs : List (Option Nat)} (hd : decode mi.2.1 pc = .ok (.invokevirtual idx, 3)) (hw : CV mi.1 idx ci 5 cal) (hct : Ct g d' cal (.ref b :: [x0, x1, x2, x3, x4]) μ (QI rr μ')) (hdd : DD cal d' d) (hb : dom g b) (hs : sh b = .inl (ci, fs)) (hst : (st.map fun v => v.category).sum ≤ 8) (kk : WA g d mi (pc + 3) ls (.int rr :: st) μ' Q) : WA g d mi pc ls (x4 :: x3 :: x2 :: x1 :: x0 :: .ref b :: st) μ Q := a_cV5 hd hw hct hdd hb hs hst (fun rv m h => by obtain ⟨rfl, rfl⟩ := h; exact kk)
theorem a_iS5 {x0 x1 x2 x3 x4 : Value} {rr : Int32} {d' idx : Nat} {cal : MI} (hd : decode mi.2.1 pc = .ok (.invokestatic idx, 3)) (hw : CS mi.1 idx 5 cal) (hct : Ct g d' cal [x0, x1, x2, x3, x4] μ (QI rr μ')) (hdd : DD cal d' d) (hst : (st.map fun v => v.category).sum ≤ 8) (kk : WA g d mi (pc + 3) ls (.int rr :: st) μ' Q) : WA g d mi pc ls (x4 :: x3 :: x2 :: x1 :: x0 :: st) μ Q := a_cS5 hd hw hct hdd hst (fun rv m h => by obtain ⟨rfl, rfl⟩ := h; exact kk)
theorem a_iN5 {x0 x1 x2 x3 x4 : Value} {rr : Int32} {d' idx : Nat} {cal : MI} (hd : decode mi.2.1 pc = .ok (.invokestatic idx, 3)) (hw : CN mi.1 idx 5 cal) (hct : Ct g d' cal [x0, x1, x2, x3, x4] μ (QI rr μ')) (hdd : DD cal d' d) (hst : (st.map fun v => v.category).sum ≤ 8) (kk : WA g d mi (pc + 3) ls (.int rr :: st) μ' Q) : WA g d mi pc ls (x4 :: x3 :: x2 :: x1 :: x0 :: st) μ Q := a_cN5 hd hw hct hdd hst (fun rv m h => by obtain ⟨rfl, rfl⟩ := h; exact kk)
theorem a_vV5 {x0 x1 x2 x3 x4 : Value} {d' idx ci b : Nat} {cal : MI} {fs : List (Option Nat)} (hd : decode mi.2.1 pc = .ok (.invokevirtual idx, 3)) (hw : CV mi.1 idx ci 5 cal) (hct : Ct g d' cal (.ref b :: [x0, x1, x2, x3, x4]) μ (QV μ')) (hdd : DD cal d' d) (hb : dom g b) (hs : sh b = .inl (ci, fs)) (hst : (st.map fun v => v.category).sum ≤ 8) (kk : WA g d mi (pc + 3) ls (st) μ' Q) : WA g d mi pc ls (x4 :: x3 :: x2 :: x1 :: x0 :: .ref b :: st) μ Q := a_cV5 hd hw hct hdd hb hs hst (fun rv m h => by obtain ⟨rfl, rfl⟩ := h; exact kk)
theorem a_vS5 {x0 x1 x2 x3 x4 : Value} {d' idx : Nat} {cal : MI} (hd : decode mi.2.1 pc = .ok (.invokestatic idx, 3)) (hw : CS mi.1 idx 5 cal) (hct : Ct g d' cal [x0, x1, x2, x3, x4] μ (QV μ')) (hdd : DD cal d' d) (hst : (st.map fun v => v.category).sum ≤ 8) (kk : WA g d mi (pc + 3) ls (st) μ' Q) : WA g d mi pc ls (x4 :: x3 :: x2 :: x1 :: x0 :: st) μ Q := a_cS5 hd hw hct hdd hst (fun rv m h => by obtain ⟨rfl, rfl⟩ := h; exact kk)
theorem a_vN5 {x0 x1 x2 x3 x4 : Value} {d' idx : Nat} {cal : MI} (hd : decode mi.2.1 pc = .ok (.invokestatic idx, 3)) (hw : CN mi.1 idx 5 cal) (hct : Ct g d' cal [x0, x1, x2, x3, x4] μ (QV μ')) (hdd : DD cal d' d) (hst : (st.map fun v => v.category).sum ≤ 8) (kk : WA g d mi (pc + 3) ls (st) μ' Q) : WA g d mi pc ls (x4 :: x3 :: x2 :: x1 :: x0 :: st) μ Q := a_cN5 hd hw hct hdd hst (fun rv m h => by obtain ⟨rfl, rfl⟩ := h; exact kk)
theorem a_iV6 {x0 x1 x2 x3 x4 x5 : Value} {rr : Int32} {d' idx ci b : Nat} {cal : MI} {fs : List (Option Nat)} (hd : decode mi.2.1 pc = .ok (.invokevirtual idx, 3)) (hw : CV mi.1 idx ci 6 cal) (hct : Ct g d' cal (.ref b :: [x0, x1, x2, x3, x4, x5]) μ (QI rr μ')) (hdd : DD cal d' d) (hb : dom g b) (hs : sh b = .inl (ci, fs)) (hst : (st.map fun v => v.category).sum ≤ 8) (kk : WA g d mi (pc + 3) ls (.int rr :: st) μ' Q) : WA g d mi pc ls (x5 :: x4 :: x3 :: x2 :: x1 :: x0 :: .ref b :: st) μ Q := a_cV6 hd hw hct hdd hb hs hst (fun rv m h => by obtain ⟨rfl, rfl⟩ := h; exact kk)
theorem a_iS6 {x0 x1 x2 x3 x4 x5 : Value} {rr : Int32} {d' idx : Nat} {cal : MI} (hd : decode mi.2.1 pc = .ok (.invokestatic idx, 3)) (hw : CS mi.1 idx 6 cal) (hct : Ct g d' cal [x0, x1, x2, x3, x4, x5] μ (QI rr μ')) (hdd : DD cal d' d) (hst : (st.map fun v => v.category).sum ≤ 8) (kk : WA g d mi (pc + 3) ls (.int rr :: st) μ' Q) : WA g d mi pc ls (x5 :: x4 :: x3 :: x2 :: x1 :: x0 :: st) μ Q := a_cS6 hd hw hct hdd hst (fun rv m h => by obtain ⟨rfl, rfl⟩ := h; exact kk)
theorem a_iN6 {x0 x1 x2 x3 x4 x5 : Value} {rr : Int32} {d' idx : Nat} {cal : MI} (hd : decode mi.2.1 pc = .ok (.invokestatic idx, 3)) (hw : CN mi.1 idx 6 cal) (hct : Ct g d' cal [x0, x1, x2, x3, x4, x5] μ (QI rr μ')) (hdd : DD cal d' d) (hst : (st.map fun v => v.category).sum ≤ 8) (kk : WA g d mi (pc + 3) ls (.int rr :: st) μ' Q) : WA g d mi pc ls (x5 :: x4 :: x3 :: x2 :: x1 :: x0 :: st) μ Q := a_cN6 hd hw hct hdd hst (fun rv m h => by obtain ⟨rfl, rfl⟩ := h; exact kk)
theorem a_vV6 {x0 x1 x2 x3 x4 x5 : Value} {d' idx ci b : Nat} {cal : MI} {fs : List (Option Nat)} (hd : decode mi.2.1 pc = .ok (.invokevirtual idx, 3)) (hw : CV mi.1 idx ci 6 cal) (hct : Ct g d' cal (.ref b :: [x0, x1, x2, x3, x4, x5]) μ (QV μ')) (hdd : DD cal d' d) (hb : dom g b) (hs : sh b = .inl (ci, fs)) (hst : (st.map fun v => v.category).sum ≤ 8) (kk : WA g d mi (pc + 3) ls (st) μ' Q) : WA g d mi pc ls (x5 :: x4 :: x3 :: x2 :: x1 :: x0 :: .ref b :: st) μ Q := a_cV6 hd hw hct hdd hb hs hst (fun rv m h => by obtain ⟨rfl, rfl⟩ := h; exact kk)
theorem a_vS6 {x0 x1 x2 x3 x4 x5 : Value} {d' idx : Nat} {cal : MI} (hd : decode mi.2.1 pc = .ok (.invokestatic idx, 3)) (hw : CS mi.1 idx 6 cal) (hct : Ct g d' cal [x0, x1, x2, x3, x4, x5] μ (QV μ')) (hdd : DD cal d' d) (hst : (st.map fun v => v.category).sum ≤ 8) (kk : WA g d mi (pc + 3) ls (st) μ' Q) : WA g d mi pc ls (x5 :: x4 :: x3 :: x2 :: x1 :: x0 :: st) μ Q := a_cS6 hd hw hct hdd hst (fun rv m h => by obtain ⟨rfl, rfl⟩ := h; exact kk)
theorem a_vN6 {x0 x1 x2 x3 x4 x5 : Value} {d' idx : Nat} {cal : MI} (hd : decode mi.2.1 pc = .ok (.invokestatic idx, 3)) (hw : CN mi.1 idx 6 cal) (hct : Ct g d' cal [x0, x1, x2, x3, x4, x5] μ (QV μ')) (hdd : DD cal d' d) (hst : (st.map fun v => v.category).sum ≤ 8) (kk : WA g d mi (pc + 3) ls (st) μ' Q) : WA g d mi pc ls (x5 :: x4 :: x3 :: x2 :: x1 :: x0 :: st) μ Q := a_cN6 hd hw hct hdd hst (fun rv m h => by obtain ⟨rfl, rfl⟩ := h; exact kk)
end CROWS
