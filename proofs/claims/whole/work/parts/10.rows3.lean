/-! rows for null, rows of references; bounds out of tests -/
def FU : Nat := 2000
def QR (r : Option Nat) (μ : MM) : Option Value → MM → Prop := fun rv m => rv = some (match r with | none => .null | some q => .ref q) ∧ m = μ
def nr {β : Type} (x : Option Nat) (a : β) (f : Nat → β) : β := match x with
  | none => a
  | some q => f q
section DROWS
variable {g : GT} {d : Nat} {mi : MI} {pc : Nat} {ls : List (Option Value)} {st : List Value} {μ μ' : MM} {Q : Option Value → MM → Prop}
theorem a_astoreNN {f : Fin 4} {i : Nat} (hd : decode mi.2.1 pc = .ok (.astore_n f, 1)) (hi : (f : Nat) = i) (hn : i < mi.2.2.1) (hk : i < ls.length) (hp : ∀ j, j + 1 = i → ∀ u, ls[j]? = some (some u) → u.category = 1) (k : WA g d mi (pc + 1) (ls.set i (some .null)) st μ Q) : WA g d mi pc ls (.null :: st) μ Q := by
  intro p e s m args below meth c H locs lsA A hP hS hl
  exact lv_astore_nN A.1 A.2.1 hd hi hl hn rfl (fun lsB hB => k p e s m args below meth c H locs lsB A hP hS (hB.le (lsC_st1 hk hp)))
theorem a_aloadNN {f : Fin 4} {i : Nat} (hd : decode mi.2.1 pc = .ok (.aload_n f, 1)) (hi : (f : Nat) = i) (h : ls[i]? = some (some .null)) (k : WA g d mi (pc + 1) ls (.null :: st) μ Q) : WA g d mi pc ls st μ Q := by
  intro p e s m args below meth c H locs lsA A hP hS hl
  exact lv_aload_nN A.1 A.2.1 hd hi (lsC_at hl h) (k p e s m args below meth c H locs lsA A hP hS hl)
theorem a_nstore_2 {x0 x1 x2 : Option Value} {r : List (Option Value)} (hd : decode mi.2.1 pc = .ok (.astore_n 2, 1)) (hn : 2 < mi.2.2.1) (hq : nl x1 = true) (k : WA g d mi (pc + 1) (x0 :: x1 :: some .null :: r) st μ Q) : WA g d mi pc (x0 :: x1 :: x2 :: r) (.null :: st) μ Q :=
  a_astoreNN (i := 2) (ls := x0 :: x1 :: x2 :: r) hd rfl hn (by simp) (fun j h u hu => nl_prev hq (by obtain rfl : j = 1 := Nat.succ.inj h; exact Option.some.inj hu)) k
theorem a_nstore_3 {x0 x1 x2 x3 : Option Value} {r : List (Option Value)} (hd : decode mi.2.1 pc = .ok (.astore_n 3, 1)) (hn : 3 < mi.2.2.1) (hq : nl x2 = true) (k : WA g d mi (pc + 1) (x0 :: x1 :: x2 :: some .null :: r) st μ Q) : WA g d mi pc (x0 :: x1 :: x2 :: x3 :: r) (.null :: st) μ Q :=
  a_astoreNN (i := 3) (ls := x0 :: x1 :: x2 :: x3 :: r) hd rfl hn (by simp) (fun j h u hu => nl_prev hq (by obtain rfl : j = 2 := Nat.succ.inj h; exact Option.some.inj hu)) k
theorem a_nload_2 {x0 x1 : Option Value} {r : List (Option Value)} (hd : decode mi.2.1 pc = .ok (.aload_n 2, 1)) (k : WA g d mi (pc + 1) (x0 :: x1 :: some .null :: r) (.null :: st) μ Q) : WA g d mi pc (x0 :: x1 :: some .null :: r) st μ Q := a_aloadNN (i := 2) hd rfl rfl k
theorem a_nload_3 {x0 x1 x2 : Option Value} {r : List (Option Value)} (hd : decode mi.2.1 pc = .ok (.aload_n 3, 1)) (k : WA g d mi (pc + 1) (x0 :: x1 :: x2 :: some .null :: r) (.null :: st) μ Q) : WA g d mi pc (x0 :: x1 :: x2 :: some .null :: r) st μ Q := a_aloadNN (i := 3) hd rfl rfl k
theorem a_alenRn {r n : Nat} {qs : List Nat} (hd : decode mi.2.1 pc = .ok (.arraylength, 1)) (hr : dom g r) (hs : sh r = .inr (.inr qs)) (hn : qs.length = n) (kk : WA g d mi (pc + 1) ls (.int (Int32.ofNat n) :: st) μ Q) : WA g d mi pc ls (.ref r :: st) μ Q := a_alenR hd hr hs (hn ▸ kk)
theorem a_nV1 {x0 : Value} {d' idx ci b : Nat} {cal : MI} {fs : List (Option Nat)} (hd : decode mi.2.1 pc = .ok (.invokevirtual idx, 3)) (hw : CV mi.1 idx ci 1 cal) (hct : Ct g d' cal (.ref b :: [x0]) μ (QR none μ')) (hdd : DD cal d' d) (hb : dom g b) (hs : sh b = .inl (ci, fs)) (hst : (st.map fun v => v.category).sum ≤ 8) (kk : WA g d mi (pc + 3) ls (.null :: st) μ' Q) : WA g d mi pc ls (x0 :: .ref b :: st) μ Q := a_cV1 hd hw hct hdd hb hs hst (fun rv m h => by obtain ⟨rfl, rfl⟩ := h; exact kk)
theorem a_rV1 {x0 : Value} {q d' idx ci b : Nat} {cal : MI} {fs : List (Option Nat)} (hd : decode mi.2.1 pc = .ok (.invokevirtual idx, 3)) (hw : CV mi.1 idx ci 1 cal) (hct : Ct g d' cal (.ref b :: [x0]) μ (QR (some q) μ')) (hdd : DD cal d' d) (hb : dom g b) (hs : sh b = .inl (ci, fs)) (hst : (st.map fun v => v.category).sum ≤ 8) (kk : WA g d mi (pc + 3) ls (.ref q :: st) μ' Q) : WA g d mi pc ls (x0 :: .ref b :: st) μ Q := a_cV1 hd hw hct hdd hb hs hst (fun rv m h => by obtain ⟨rfl, rfl⟩ := h; exact kk)
theorem a_wk2 {ls' : List (Option Value)} (k : WA g d mi pc ls' st μ Q) (h : wk ls ls') : WA g d mi pc ls st μ Q := a_wk h k
theorem a_mmax {x y rr : Int32} {idx : Nat} (he : rr = (if x < y then y else x)) (hd : decode mi.2.1 pc = .ok (.invokestatic idx, 3)) (hw : Cond.methodLink mi.1 idx Lib.Math.max.name ∈ wG ∧ Cond.static Lib.Math.max.name ∈ wG ∧ Cond.initialized "java/lang/Math" ∈ wG ∧ Cond.code Lib.Math.max.name Lib.Math.max.code 2 (some .int) ∈ wG) (hdd : 1 ≤ d) (hst : (st.map fun v => v.category).sum ≤ 8) (kk : WA g d mi (pc + 3) ls (.int rr :: st) μ Q) : WA g d mi pc ls (.int y :: .int x :: st) μ Q := by
  intro p e s m args below meth c H locs lsA A hP hS hl
  refine va_mmax A.1 A.2.1 (by rw [A.2.2.1]; exact hl.1.symm) A.2.2.2.1 (A.2.2.2.2.1 _ hw.1) (A.2.2.2.2.1 _ hw.2.1) (A.2.2.2.2.1 _ hw.2.2.1) (A.2.2.2.2.1 _ hw.2.2.2) hdd (by rw [cv_sum]; show _ ≤ 36 * d; omega) (Nat.le_refl _) (Nat.le_refl _) hd ?_
  rw [← he]
  exact kk p e s m args below meth c H locs lsA A hP hS hl
theorem a_mmin {x y rr : Int32} {idx : Nat} (he : rr = (if y < x then y else x)) (hd : decode mi.2.1 pc = .ok (.invokestatic idx, 3)) (hw : Cond.methodLink mi.1 idx Lib.Math.min.name ∈ wG ∧ Cond.static Lib.Math.min.name ∈ wG ∧ Cond.initialized "java/lang/Math" ∈ wG ∧ Cond.code Lib.Math.min.name Lib.Math.min.code 2 (some .int) ∈ wG) (hdd : 1 ≤ d) (hst : (st.map fun v => v.category).sum ≤ 8) (kk : WA g d mi (pc + 3) ls (.int rr :: st) μ Q) : WA g d mi pc ls (.int y :: .int x :: st) μ Q := by
  intro p e s m args below meth c H locs lsA A hP hS hl
  refine va_mmin A.1 A.2.1 (by rw [A.2.2.1]; exact hl.1.symm) A.2.2.2.1 (A.2.2.2.2.1 _ hw.1) (A.2.2.2.2.1 _ hw.2.1) (A.2.2.2.2.1 _ hw.2.2.1) (A.2.2.2.2.1 _ hw.2.2.2) hdd (by rw [cv_sum]; show _ ≤ 36 * d; omega) (Nat.le_refl _) (Nat.le_refl _) hd ?_
  rw [← he]
  exact kk p e s m args below meth c H locs lsA A hP hS hl
end DROWS
theorem aln_lt {g : GT} {r : Nat} (h : isI g r) : aln r < 2 ^ 31 := by
  have h1 : ∀ r, r < 166 → aln r ≤ 1056 := by decide +kernel
  have := h1 r h.2.1
  omega
theorem clamp_le {x : Int32} {n : Nat} (hn : n < 2 ^ 31) (h1 : ¬ x < 0) (h2 : ¬ Int32.ofNat n ≤ x) : ¬ n ≤ x.toNatClampNeg := by
  obtain ⟨j, hj, rfl⟩ := nI_of h1
  rw [nI_clamp hj]
  intro h
  exact h2 (nI_le h hj)
theorem vin_of {x : Int32} {n : Nat} (hn : n < 2 ^ 31) (h1 : ¬ x < 0) (h2 : ¬ Int32.ofNat n ≤ x) : vp_in x n := by
  intro h
  rcases h with h | h
  · exact h1 h
  · exact clamp_le hn h1 h2 h
theorem ra14 {i : Int32} (h : vp_in i 16) : ([48, 54, 60, 66, 72, 78, 84, 90, 96, 102, 108, 114, 120, 126, 132, 138] : List Nat)[i.toNatClampNeg]? = some (48 + 6 * i.toNatClampNeg) := by
  have hl : i.toNatClampNeg < 16 := Nat.not_le.mp fun q => h (Or.inr q)
  generalize i.toNatClampNeg = k at hl
  have key : ∀ k, k < 16 → ([48, 54, 60, 66, 72, 78, 84, 90, 96, 102, 108, 114, 120, 126, 132, 138] : List Nat)[k]? = some (48 + 6 * k) := by decide
  exact key k hl
theorem ra15 {i : Int32} (h : vp_in i 2) : ([36, 42] : List Nat)[i.toNatClampNeg]? = some (36 + 6 * i.toNatClampNeg) := by
  have hl : i.toNatClampNeg < 2 := Nat.not_le.mp fun q => h (Or.inr q)
  generalize i.toNatClampNeg = k at hl
  have key : ∀ k, k < 2 → ([36, 42] : List Nat)[k]? = some (36 + 6 * k) := by decide
  exact key k hl
theorem in_lt {i : Int32} {n : Nat} (h : vp_in i n) : i.toNatClampNeg < n := Nat.not_le.mp fun q => h (Or.inr q)
theorem mmax_X2_55 : Cond.methodLink RX2 55 Lib.Math.max.name ∈ wG ∧ Cond.static Lib.Math.max.name ∈ wG ∧ Cond.initialized "java/lang/Math" ∈ wG ∧ Cond.code Lib.Math.max.name Lib.Math.max.code 2 (some .int) ∈ wG := ⟨in_ix 719 (by decide +kernel) rfl, in_ix 720 (by decide +kernel) rfl, in_ix 88 (by decide +kernel) rfl, in_ix 721 (by decide +kernel) rfl⟩
theorem mmin_X3_33 : Cond.methodLink RX3 33 Lib.Math.min.name ∈ wG ∧ Cond.static Lib.Math.min.name ∈ wG ∧ Cond.initialized "java/lang/Math" ∈ wG ∧ Cond.code Lib.Math.min.name Lib.Math.min.code 2 (some .int) ∈ wG := ⟨in_ix 512 (by decide +kernel) rfl, in_ix 513 (by decide +kernel) rfl, in_ix 88 (by decide +kernel) rfl, in_ix 514 (by decide +kernel) rfl⟩
theorem mmin_X5_120 : Cond.methodLink RX5 120 Lib.Math.min.name ∈ wG ∧ Cond.static Lib.Math.min.name ∈ wG ∧ Cond.initialized "java/lang/Math" ∈ wG ∧ Cond.code Lib.Math.min.name Lib.Math.min.code 2 (some .int) ∈ wG := ⟨in_ix 535 (by decide +kernel) rfl, in_ix 513 (by decide +kernel) rfl, in_ix 88 (by decide +kernel) rfl, in_ix 514 (by decide +kernel) rfl⟩
