/-! Whole numbers: every number is nI of a Nat. -/
theorem z0 : (0 : Int32) = nI 0 := rfl
theorem z1 : (1 : Int32) = nI 1 := rfl
theorem z2 : (2 : Int32) = nI 2 := rfl
theorem z3 : (3 : Int32) = nI 3 := rfl
theorem z4 : (4 : Int32) = nI 4 := rfl
theorem z5 : (5 : Int32) = nI 5 := rfl
theorem z6 : (6 : Int32) = nI 6 := rfl
theorem z7 : (7 : Int32) = nI 7 := rfl
theorem z8 : (8 : Int32) = nI 8 := rfl
theorem z9 : (9 : Int32) = nI 9 := rfl
theorem z10 : (10 : Int32) = nI 10 := rfl
theorem z12 : (12 : Int32) = nI 12 := rfl
theorem z13 : (13 : Int32) = nI 13 := rfl
theorem z14 : (14 : Int32) = nI 14 := rfl
theorem z15 : (15 : Int32) = nI 15 := rfl
theorem z16 : (16 : Int32) = nI 16 := rfl
theorem z20 : (20 : Int32) = nI 20 := rfl
theorem z23 : (23 : Int32) = nI 23 := rfl
theorem z24 : (24 : Int32) = nI 24 := rfl
theorem z30 : (30 : Int32) = nI 30 := rfl
theorem z32 : (32 : Int32) = nI 32 := rfl
theorem z33 : (33 : Int32) = nI 33 := rfl
theorem z39 : (39 : Int32) = nI 39 := rfl
theorem z40 : (40 : Int32) = nI 40 := rfl
theorem z45 : (45 : Int32) = nI 45 := rfl
theorem z46 : (46 : Int32) = nI 46 := rfl
theorem z48 : (48 : Int32) = nI 48 := rfl
theorem z50 : (50 : Int32) = nI 50 := rfl
theorem z60 : (60 : Int32) = nI 60 := rfl
theorem z66 : (66 : Int32) = nI 66 := rfl
theorem z67 : (67 : Int32) = nI 67 := rfl
theorem z100 : (100 : Int32) = nI 100 := rfl
theorem z240 : (240 : Int32) = nI 240 := rfl
theorem z255 : (255 : Int32) = nI 255 := rfl
theorem z999 : (999 : Int32) = nI 999 := rfl
theorem z1000 : (1000 : Int32) = nI 1000 := rfl
theorem z1056 : (1056 : Int32) = nI 1056 := rfl
theorem z9000 : (9000 : Int32) = nI 9000 := rfl
theorem z9999 : (9999 : Int32) = nI 9999 := rfl
theorem z10000 : (10000 : Int32) = nI 10000 := rfl
theorem z65536 : (65536 : Int32) = nI 65536 := rfl
theorem z999999 : (999999 : Int32) = nI 999999 := rfl
theorem rm_nI {a d : Nat} (ha : a < 2 ^ 31) (h0 : 0 < d) (hd : d < 2 ^ 31) : rm (nI a) (nI d) = nI (a % d) := pk_rem ha h0 hd
theorem dv_nI {a d : Nat} (ha : a < 2 ^ 31) (h0 : 0 < d) (hd : d < 2 ^ 31) : nI a / nI d = nI (a / d) := pk_div ha h0 hd
theorem nI_nneg {n : Nat} (h : n < 2 ^ 31) : (nI n < nI 0) = False := by
  have := nI_ltI (a := n) (b := 0) h (by decide)
  simp [this]
theorem nI_notneg {n : Nat} (h : n < 2 ^ 31) : (nI n < 0) = False := by
  have := nI_pos h
  simp [this]
/-- a guard that holds -/
theorem gd_t {α : Type} {c : Prop} [Decidable c] {x : Option α} (h : c) : gd c x = x := by unfold gd; rw [if_pos h]
theorem gdI {α : Type} {n N : Nat} {x : Option α} (h : n < N) (hN : N < 2 ^ 31) : gd (¬ (nI n < 0 ∨ N ≤ (nI n).toNatClampNeg)) x = x := gd_t (nI_in h hN)
/-! between bounds -/
theorem lgc_lt (x y : Int64) : lg_cmp x y < 0 ↔ x < y := by
  unfold lg_cmp
  have a1 : ¬ ((1 : Int32) < 0) := by decide
  have a2 : ¬ ((0 : Int32) < 0) := by decide
  have a3 : (-1 : Int32) < 0 := by decide
  simp only [gt_iff_lt, Int64.lt_iff_toInt_lt, ← Int64.toInt_inj]
  by_cases h : y.toInt < x.toInt
  · rw [if_pos h]; exact ⟨fun q => (a1 q).elim, fun q => by omega⟩
  · rw [if_neg h]
    by_cases h2 : x.toInt = y.toInt
    · rw [if_pos h2]; exact ⟨fun q => (a2 q).elim, fun q => by omega⟩
    · rw [if_neg h2]; exact ⟨fun _ => by omega, fun _ => a3⟩
theorem lgc_gt (x y : Int64) : 0 < lg_cmp x y ↔ y < x := by
  unfold lg_cmp
  have a1 : (0 : Int32) < 1 := by decide
  have a2 : ¬ ((0 : Int32) < 0) := by decide
  have a3 : ¬ ((0 : Int32) < -1) := by decide
  simp only [gt_iff_lt, Int64.lt_iff_toInt_lt, ← Int64.toInt_inj]
  by_cases h : y.toInt < x.toInt
  · rw [if_pos h]; exact ⟨fun _ => h, fun _ => a1⟩
  · rw [if_neg h]
    by_cases h2 : x.toInt = y.toInt
    · rw [if_pos h2]; exact ⟨fun q => (a2 q).elim, fun q => by omega⟩
    · rw [if_neg h2]; exact ⟨fun q => (a3 q).elim, fun q => by omega⟩
theorem i64_lt (a b : Int32) : a.toInt64 < b.toInt64 ↔ a < b := by
  simp [Int64.lt_iff_toInt_lt, Int32.lt_iff_toInt_lt]
theorem in_le (x y : Int32) (μ : MM) : f_X7_in (Int32.toInt64 x) 0 (Int32.toInt64 y) μ = if 0 ≤ x ∧ x ≤ y then 1 else 0 := by
  have h0 : (0 : Int64) = Int32.toInt64 0 := by decide
  unfold f_X7_in
  rw [h0]
  simp only [lgc_lt, lgc_gt, i64_lt]
  have t0 : Int32.toInt 0 = 0 := by decide
  simp only [Int32.lt_iff_toInt_lt, Int32.le_iff_toInt_le, t0]
  by_cases h1 : x.toInt < 0
  · rw [if_pos h1, if_neg (by omega)]
  · rw [if_neg h1]
    by_cases h2 : y.toInt < x.toInt
    · rw [if_pos h2, if_neg (by omega)]
    · rw [if_neg h2, if_pos (by omega)]
/-- a number between 0 and n less 1, or not -/
theorem nI_cases (x : Int32) {n : Nat} (hn : n < 2 ^ 31) : (∃ a, a < n ∧ x = nI a) ∨ ((x < 0 ∨ nI n ≤ x) ∧ ¬ (0 ≤ x ∧ x ≤ nI n - 1)) := by
  rcases pk_ix x hn with h | h | h
  · refine Or.inr ⟨Or.inl h, fun q => ?_⟩
    have t0 : Int32.toInt 0 = 0 := by decide
    simp only [Int32.lt_iff_toInt_lt, Int32.le_iff_toInt_le, t0] at h q
    omega
  · refine Or.inr ⟨Or.inr h, fun q => ?_⟩
    rcases Nat.eq_zero_or_pos n with h0 | h0
    · subst h0
      have e1 : nI 0 - 1 = -1 := by decide
      have t0 : Int32.toInt 0 = 0 := by decide
      have t1 : (-1 : Int32).toInt = -1 := by decide
      rw [e1] at q
      simp only [Int32.le_iff_toInt_le, t0, t1] at q
      omega
    · obtain ⟨k, rfl⟩ : ∃ k, n = k + 1 := ⟨n - 1, by omega⟩
      rw [nI_pred] at q
      have h2 := q.2
      simp only [Int32.le_iff_toInt_le] at h h2
      rw [nI_toInt (by omega)] at h h2
      omega
  · exact Or.inl h
/-- what in() says of a number up to n less 1 -/
theorem in_nI {a n : Nat} (h : a < n) (hn : n < 2 ^ 31) (μ : MM) : f_X7_in (Int32.toInt64 (nI a)) 0 (Int32.toInt64 (nI n - 1)) μ = 1 := by
  rw [in_le]
  obtain ⟨k, rfl⟩ : ∃ k, n = k + 1 := ⟨n - 1, by omega⟩
  rw [nI_pred, if_pos ⟨nI_pos' (by omega), nI_le (by omega) (by omega)⟩]
theorem in_no {x : Int32} {n : Nat} (h : ¬ (0 ≤ x ∧ x ≤ nI n - 1)) (μ : MM) : f_X7_in (Int32.toInt64 x) 0 (Int32.toInt64 (nI n - 1)) μ = 0 := by
  rw [in_le, if_neg h]
theorem X6_yes {a n : Nat} (h : a < n) (hn : n < 2 ^ 31) : (if nI a < 0 then (0 : Int32) else if nI n ≤ nI a then 0 else 1) = 1 := by
  rw [if_neg (nI_pos (by omega)), if_neg (nI_ge h hn)]
theorem X6_no {x : Int32} {n : Nat} (h : x < 0 ∨ nI n ≤ x) : (if x < 0 then (0 : Int32) else if nI n ≤ x then 0 else 1) = 0 := by
  rcases h with h | h
  · rw [if_pos h]
  · by_cases h1 : x < 0
    · rw [if_pos h1]
    · rw [if_neg h1, if_pos h]
/-! the class's cells and rows -/
theorem cell_nI {r i : Nat} (μ : MM) (h : i < aln r) (hn : aln r < 2 ^ 31) : f_X6_cell r (nI i) μ = μ r i := by
  unfold f_X6_cell
  rw [if_neg (nI_pos (by omega)), if_neg (show ¬ Int32.ofNat (aln r) ≤ nI i from nI_ge h hn), nI_clamp (by omega)]
theorem put_nI {r i : Nat} (v : Int32) (μ : MM) (h : i < aln r) (hn : aln r < 2 ^ 31) : f_X6_put r (nI i) v μ = up2 μ r i v := by
  unfold f_X6_put bd
  rw [if_neg (nI_pos (by omega)), if_neg (show ¬ Int32.ofNat (aln r) ≤ nI i from nI_ge h hn), nI_clamp (by omega)]
theorem up2_eq (μ : MM) (r k : Nat) (v : Int32) : up2 μ r k v r k = v := by simp [up2]
theorem up2_ne {μ : MM} {r k : Nat} {v : Int32} {r' k' : Nat} (h : r' ≠ r ∨ k' ≠ k) : up2 μ r k v r' k' = μ r' k' := by
  unfold up2
  rw [if_neg]
  intro q
  rcases h with h | h
  · exact h q.1
  · exact h q.2
theorem up2_ro {μ : MM} {r k : Nat} {v : Int32} {r' : Nat} (h : r' ≠ r) : up2 μ r k v r' = μ r' := by funext k'; exact up2_ne (Or.inl h)
