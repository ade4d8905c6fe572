/-! the dale that has been read becomes the dale -/
theorem em1 : ∀ (n i : Nat) (m : MM), i ≤ 66 → 66 < n + i → ∃ m', f_X7_emptyAll_L2 n (nI i) m = some (nI 66, m') ∧ (∀ r, r ≠ 149 → m' r = m r) ∧ (∀ k, k < i → m' 149 k = m 149 k) ∧ ∀ k, i ≤ k → k < 66 → m' 149 k = 0 := by
  intro n
  induction n with
  | zero => intro i m h1 h2; omega
  | succ n ih =>
    intro i m h1 h2
    simp only [f_X7_emptyAll_L2]
    by_cases h : i = 66
    · subst h
      rw [if_pos (show (66 : Int32) ≤ nI 66 by decide)]
      exact ⟨m, rfl, fun _ _ => rfl, fun _ _ => rfl, fun k k1 k2 => by omega⟩
    · rw [if_neg (show ¬ (66 : Int32) ≤ nI i from nI_ge (b := 66) (by omega) (by omega)), gdI (by omega) (by decide), nI_clamp (by omega), bdE, nI_1]
      obtain ⟨m', e1, e2, e3, e4⟩ := ih (i + 1) (up2 m 149 i 0) (by omega) (by omega)
      refine ⟨m', e1, fun r hr => by rw [e2 r hr, up2_ro hr], fun k hk => by rw [e3 k (by omega), up2_ne (by omega)], fun k k1 k2 => ?_⟩
      by_cases hk : k = i
      · rw [e3 k (by omega), hk, up2_eq]
      · exact e4 k (by omega) k2
theorem em2 : ∀ (n i : Nat) (m : MM), i ≤ 9 → 9 < n + i → ∃ m', f_X7_emptyAll_L23 n (nI i) m = some (nI 9, m') ∧ (∀ r, r ≠ 149 → m' r = m r) ∧ (∀ k, (k < 14 + i ∨ 23 ≤ k) → m' 149 k = m 149 k) ∧ ∀ k, i ≤ k → k < 9 → m' 149 (14 + k) = -1 := by
  intro n
  induction n with
  | zero => intro i m h1 h2; omega
  | succ n ih =>
    intro i m h1 h2
    simp only [f_X7_emptyAll_L23]
    by_cases h : i = 9
    · subst h
      rw [if_pos (show (9 : Int32) ≤ nI 9 by decide)]
      exact ⟨m, rfl, fun _ _ => rfl, fun _ _ => rfl, fun k k1 k2 => by omega⟩
    · rw [if_neg (show ¬ (9 : Int32) ≤ nI i from nI_ge (b := 9) (by omega) (by omega)), show (14 : Int32) + nI i = nI (14 + i) by rw [z14, nI_add], gdI (by omega) (by decide), nI_clamp (by omega), bdE, nI_1]
      obtain ⟨m', e1, e2, e3, e4⟩ := ih (i + 1) (up2 m 149 (14 + i) (-1)) (by omega) (by omega)
      refine ⟨m', e1, fun r hr => by rw [e2 r hr, up2_ro hr], fun k hk => by rw [e3 k (by omega), up2_ne (by omega)], fun k k1 k2 => ?_⟩
      by_cases hk : k = i
      · rw [e3 _ (by omega), hk, up2_eq]
      · exact e4 k (by omega) k2
theorem emX (m : MM) : ∃ m', f_X7_emptyAll m = some m' ∧ (∀ r, r ≠ 149 → m' r = m r) ∧ (∀ k, k < 66 → (k < 14 ∨ 23 ≤ k) → m' 149 k = 0) ∧ ∀ k, k < 9 → m' 149 (14 + k) = -1 := by
  obtain ⟨m1, a1, a2, a3, a4⟩ := em1 FU 0 m (by decide) (by decide)
  obtain ⟨m2, b1, b2, b3, b4⟩ := em2 FU 0 m1 (by decide) (by decide)
  have a1 : f_X7_emptyAll_L2 FU 0 m = some (nI 66, m1) := a1
  have b1 : f_X7_emptyAll_L23 FU 0 m1 = some (nI 9, m2) := b1
  refine ⟨m2, ?_, fun r hr => by rw [b2 r hr, a2 r hr], fun k k1 k2 => by rw [b3 k (by omega), a4 k (by omega) k1], fun k hk => b4 k (by omega) hk⟩
  unfold f_X7_emptyAll
  rw [a1, Option.bind_some, b1]; rfl
theorem trX {F : Nat} (hF : F ≤ 9) : ∀ (j i n : Nat) (m : MM), 1 ≤ i → i ≤ 10 → F ≤ i + j → j < n → m 144 1 = nI F → ∃ m' z, f_X7_takeRead_L52 n (nI i) m = some (z, m') ∧ (∀ r, (r < 145 ∨ 149 < r) → m' r = m r) ∧ (∀ r k, 145 ≤ r → r ≤ 149 → (k < i ∨ F ≤ k) → m' r k = m r k) ∧ ∀ k, i ≤ k → k < F → m' 145 k = m 151 k ∧ m' 146 k = m 152 k ∧ m' 148 k = m 154 k ∧ m' 149 k = m 153 k := by
  have stop : ∀ (i n : Nat) (m : MM), F ≤ i → i ≤ 10 → m 144 1 = nI F → f_X7_takeRead_L52 (n + 1) (nI i) m = some (nI i, m) := by
    intro i n m h1 h2 hm
    simp only [f_X7_takeRead_L52]
    rw [hm, if_pos (nI_le h1 (by omega))]
  intro j
  induction j with
  | zero =>
    intro i n m h1 h10 h2 hn hm
    obtain ⟨n, rfl⟩ : ∃ j, n = j + 1 := ⟨n - 1, by omega⟩
    exact ⟨m, nI i, stop i n m (by omega) h10 hm, fun _ _ => rfl, fun _ _ _ _ _ => rfl, fun k k1 k2 => by omega⟩
  | succ j ih =>
    intro i n m h1 h10 h2 hn hm
    obtain ⟨n, rfl⟩ : ∃ j, n = j + 1 := ⟨n - 1, by omega⟩
    by_cases hi : F ≤ i
    · exact ⟨m, nI i, stop i n m hi h10 hm, fun _ _ => rfl, fun _ _ _ _ _ => rfl, fun k k1 k2 => by omega⟩
    · have hstep : f_X7_takeRead_L52 (n + 1) (nI i) m = f_X7_takeRead_L52 n (nI (i + 1)) (up2 (up2 (up2 (up2 (up2 m 145 i (m 151 i)) 146 i (m 152 i)) 147 i (m 153 i)) 148 i (m 154 i)) 149 i (m 153 i)) := by
        simp only [f_X7_takeRead_L52]
        rw [hm, if_neg (nI_ge (by omega) (by omega)), show (0 : Int32) + nI i = nI i by rw [z0, nI_add, Nat.zero_add]]
        simp only [nI_clamp (show i < 2 ^ 31 by omega), gdI2 (show i < 9 by omega) (show 9 < 2 ^ 31 by decide), gdI2 (show i < 66 by omega) (show 66 < 2 ^ 31 by decide), bd, nI_1]
        simp only [up2_ro (show (152 : Nat) ≠ 145 by decide), up2_ro (show (153 : Nat) ≠ 145 by decide), up2_ro (show (153 : Nat) ≠ 146 by decide), up2_ro (show (154 : Nat) ≠ 145 by decide), up2_ro (show (154 : Nat) ≠ 146 by decide), up2_ro (show (154 : Nat) ≠ 147 by decide), up2_ro (show (147 : Nat) ≠ 148 by decide), up2_eq]
      obtain ⟨m', z, e1, e2, e3, e4⟩ := ih (i + 1) n _ (by omega) (by omega) (by omega) (by omega) (show up2 (up2 (up2 (up2 (up2 m 145 i (m 151 i)) 146 i (m 152 i)) 147 i (m 153 i)) 148 i (m 154 i)) 149 i (m 153 i) 144 1 = nI F by rw [up2_ro (by decide), up2_ro (by decide), up2_ro (by decide), up2_ro (by decide), up2_ro (by decide)]; exact hm)
      refine ⟨m', z, hstep.trans e1, fun r hr => by rw [e2 r hr, up2_ro (by omega), up2_ro (by omega), up2_ro (by omega), up2_ro (by omega), up2_ro (by omega)], fun r k r1 r2 hk => by rw [e3 r k r1 r2 (by omega), up2_ne (by omega), up2_ne (by omega), up2_ne (by omega), up2_ne (by omega), up2_ne (by omega)], fun k k1 k2 => ?_⟩
      by_cases hk : k = i
      · subst hk
        rw [e3 145 k (by decide) (by decide) (by omega), e3 146 k (by decide) (by decide) (by omega), e3 148 k (by decide) (by decide) (by omega), e3 149 k (by decide) (by decide) (by omega)]
        refine ⟨?_, ?_, ?_, ?_⟩
        · rw [up2_ro (by decide), up2_ro (by decide), up2_ro (by decide), up2_ro (by decide), up2_eq]
        · rw [up2_ro (by decide), up2_ro (by decide), up2_ro (by decide), up2_eq]
        · rw [up2_ro (by decide), up2_eq]
        · rw [up2_eq]
      · obtain ⟨k3, k4, k5, k6⟩ := e4 k (by omega) k2
        rw [k3, k4, k5, k6]
        refine ⟨?_, ?_, ?_, ?_⟩ <;> rw [up2_ro (by decide), up2_ro (by decide), up2_ro (by decide), up2_ro (by decide), up2_ro (by decide)]
theorem cpyE {μ : MM} {r0 r1 n k : Nat} (h : k < n) : cpy μ r0 r1 n r1 k = μ r0 k := by unfold cpy; rw [if_pos ⟨rfl, h⟩]
theorem lndC {c : MM} : ∃ c', f_X1_copyFrom 3 8 c = c' ∧ (∀ r, (r < 3 ∨ 7 < r) → c' r = c r) ∧ (c' 3 0 = c 8 0 ∧ c' 3 1 = c 8 1 ∧ c' 3 2 = c 8 2) ∧ ∀ k, k < 9 → c' 4 k = c 9 k ∧ c' 5 k = c 10 k ∧ c' 6 k = c 11 k ∧ c' 7 k = c 12 k := by
  unfold f_X1_copyFrom
  rw [bdE, bdE, bdE, bdE, bdE, bdE, bdE]
  refine ⟨_, rfl, fun r hr => ?_, ⟨?_, ?_, ?_⟩, fun k hk => ⟨?_, ?_, ?_, ?_⟩⟩
  · rw [cpy_off (by omega), cpy_off (by omega), cpy_off (by omega), cpy_off (by omega), up2_ro (by omega), up2_ro (by omega), up2_ro (by omega)]
  · rw [cpy_off (by omega), cpy_off (by omega), cpy_off (by omega), cpy_off (by omega), up2_ne (by omega), up2_ne (by omega), up2_eq]
  · rw [cpy_off (by omega), cpy_off (by omega), cpy_off (by omega), cpy_off (by omega), up2_ne (by omega), up2_eq, up2_ro (by decide)]
  · rw [cpy_off (by omega), cpy_off (by omega), cpy_off (by omega), cpy_off (by omega), up2_eq, up2_ro (by decide), up2_ro (by decide)]
  · rw [cpy_off (by omega), cpy_off (by omega), cpy_off (by omega), cpyE hk, up2_ro (by decide), up2_ro (by decide), up2_ro (by decide)]
  · rw [cpy_off (by omega), cpy_off (by omega), cpyE hk, cpy_off (by omega), up2_ro (by decide), up2_ro (by decide), up2_ro (by decide)]
  · rw [cpy_off (by omega), cpyE hk, cpy_off (by omega), cpy_off (by omega), up2_ro (by decide), up2_ro (by decide), up2_ro (by decide)]
  · rw [cpyE hk, cpy_off (by omega), cpy_off (by omega), cpy_off (by omega), up2_ro (by decide), up2_ro (by decide), up2_ro (by decide)]
theorem begC (c : MM) : ∃ c', f_X5_begin 24 3 c = some c' ∧ (∀ r, (r < 24 ∨ 29 < r) → c' r = c r) ∧ (c' 24 0 = 0 ∧ c' 24 1 = c 3 1 ∧ c' 24 2 = 0 ∧ c' 24 3 = 0 ∧ c' 24 4 = 0 ∧ c' 24 5 = 0 ∧ c' 24 6 = 0 ∧ c' 24 7 = 0) ∧ ∀ k, k < 9 → c' 27 k = c 6 k ∧ c' 28 k = -1 ∧ c' 29 k = 0 := by
  unfold f_X5_begin
  rw [bdE, bdE, bdE, bdE, bdE, bdE, bdE, bdE, bdE]
  obtain ⟨x1, a1, a2, a3⟩ := fillX (r := 24 + 4) (-1) (N := 9) (by decide) (isW_n4 w24) (cpy (up2 (up2 (up2 (up2 (up2 (up2 (up2 (up2 c 24 0 0) 24 1 (up2 c 24 0 0 3 1)) 24 2 0) 24 3 0) 24 4 0) 24 5 0) 24 6 0) 24 7 0) (3 + 3) (24 + 3) 9)
  obtain ⟨x2, b1, b2, b3⟩ := fillX (r := 24 + 5) 0 (N := 9) (by decide) (isW_n5 w24) x1
  rw [a1, Option.bind_some, b1, Option.bind_some]
  have h24 : ∀ k, x2 24 k = up2 (up2 (up2 (up2 (up2 (up2 (up2 (up2 c 24 0 0) 24 1 (up2 c 24 0 0 3 1)) 24 2 0) 24 3 0) 24 4 0) 24 5 0) 24 6 0) 24 7 0 24 k := fun k => by rw [b2 24 (by decide), a2 24 (by decide), cpy_off (by decide)]
  refine ⟨x2, rfl, fun r hr => ?_, ⟨?_, ?_, ?_, ?_, ?_, ?_, ?_, ?_⟩, fun k hk => ⟨?_, ?_, ?_⟩⟩
  · rw [b2 r (by omega), a2 r (by omega), cpy_off (by omega), up2_ro (by omega), up2_ro (by omega), up2_ro (by omega), up2_ro (by omega), up2_ro (by omega), up2_ro (by omega), up2_ro (by omega), up2_ro (by omega)]
  · rw [h24, up2_ne (by omega), up2_ne (by omega), up2_ne (by omega), up2_ne (by omega), up2_ne (by omega), up2_ne (by omega), up2_ne (by omega), up2_eq]
  · rw [h24, up2_ne (by omega), up2_ne (by omega), up2_ne (by omega), up2_ne (by omega), up2_ne (by omega), up2_ne (by omega), up2_eq, up2_ro (by decide)]
  · rw [h24, up2_ne (by omega), up2_ne (by omega), up2_ne (by omega), up2_ne (by omega), up2_ne (by omega), up2_eq]
  · rw [h24, up2_ne (by omega), up2_ne (by omega), up2_ne (by omega), up2_ne (by omega), up2_eq]
  · rw [h24, up2_ne (by omega), up2_ne (by omega), up2_ne (by omega), up2_eq]
  · rw [h24, up2_ne (by omega), up2_ne (by omega), up2_eq]
  · rw [h24, up2_ne (by omega), up2_eq]
  · rw [h24, up2_eq]
  · rw [b2 27 (by decide), a2 27 (by decide)]
    show cpy _ 6 27 9 27 k = _
    rw [cpyE hk, up2_ro (by omega), up2_ro (by omega), up2_ro (by omega), up2_ro (by omega), up2_ro (by omega), up2_ro (by omega), up2_ro (by omega), up2_ro (by omega)]
  · rw [b2 28 (by decide)]; exact a3 k hk
  · exact b3 k hk
