/-! worlds copied -/
theorem fro_b {A : WS} (h : fro A ≤ 1) : nI (fro A) = 0 ∨ nI (fro A) = 1 := by
  rcases (show fro A = 0 ∨ fro A = 1 by omega) with h | h
  · rw [h]; exact Or.inl rfl
  · rw [h]; exact Or.inr rfl
theorem cpC {c : MM} {w p : Nat} (hw : isW w) (hp : isW p) (hne : w ≠ p) (hb : c p 2 = 0 ∨ c p 2 = 1) : ∃ c', f_X5_copyFrom w p c = some c' ∧ (∀ r, (r < w ∨ w + 5 < r) → c' r = c r) ∧ (∀ k, k < 8 → c' w k = c p k) ∧ (∀ k, k < 48 → c' (w + 1) k = c (p + 1) k) ∧ (∀ k, k < 80 → c' (w + 2) k = c (p + 2) k) ∧ (∀ k, k < 9 → c' (w + 3) k = c (p + 3) k) ∧ (∀ k, k < 9 → c' (w + 4) k = c (p + 4) k) ∧ ∀ k, k < 9 → c' (w + 5) k = c (p + 5) k := by
  have hsep : ∀ i j, i < 6 → j < 6 → p + i ≠ w + j := by
    obtain ⟨a, _, rfl⟩ := hw
    obtain ⟨b, _, rfl⟩ := hp
    intro i j h1 h2
    omega
  have hp0 : ∀ j, j < 6 → p ≠ w + j := fun j hj => hsep 0 j (by decide) hj
  have hpw : p ≠ w := hp0 0 (by decide)
  simp only [f_X5_copyFrom, bd]
  rw [show up2 (up2 c w 0 (c p 0)) w 1 (up2 c w 0 (c p 0) p 1) p 2 = c p 2 by rw [up2_ro hpw, up2_ro hpw], gd_t hb]
  refine ⟨_, rfl, ?_, ?_, ?_, ?_, ?_, ?_, ?_⟩
  · intro r hr
    simp only [cpy_off (show r ≠ w + 5 by omega), cpy_off (show r ≠ w + 4 by omega), cpy_off (show r ≠ w + 3 by omega), cpy_off (show r ≠ w + 2 by omega), cpy_off (show r ≠ w + 1 by omega), up2_ro (show r ≠ w by omega)]
  · intro k hk
    simp only [cpy_off (show w ≠ w + 5 by omega), cpy_off (show w ≠ w + 4 by omega), cpy_off (show w ≠ w + 3 by omega), cpy_off (show w ≠ w + 2 by omega), cpy_off (show w ≠ w + 1 by omega), up2_ro hpw]
    rcases (show k = 0 ∨ k = 1 ∨ k = 2 ∨ k = 3 ∨ k = 4 ∨ k = 5 ∨ k = 6 ∨ k = 7 by omega) with rfl | rfl | rfl | rfl | rfl | rfl | rfl | rfl <;> simp [up2]
  · intro k hk
    simp only [cpy_off (show w + 1 ≠ w + 5 by omega), cpy_off (show w + 1 ≠ w + 4 by omega), cpy_off (show w + 1 ≠ w + 3 by omega), cpy_off (show w + 1 ≠ w + 2 by omega)]
    simp only [cpy, hk, and_self, if_true, up2_ro (hsep 1 0 (by decide) (by decide)), up2_ro (show p + 1 ≠ w from hsep 1 0 (by decide) (by decide))]
  · intro k hk
    simp only [cpy_off (show w + 2 ≠ w + 5 by omega), cpy_off (show w + 2 ≠ w + 4 by omega), cpy_off (show w + 2 ≠ w + 3 by omega)]
    rw [show ∀ (μ : MM), cpy μ (p + 2) (w + 2) 80 (w + 2) k = μ (p + 2) k from fun μ => by simp [cpy, hk]]
    simp only [cpy_off (hsep 2 1 (by decide) (by decide)), up2_ro (show p + 2 ≠ w from hsep 2 0 (by decide) (by decide))]
  · intro k hk
    simp only [cpy_off (show w + 3 ≠ w + 5 by omega), cpy_off (show w + 3 ≠ w + 4 by omega)]
    rw [show ∀ (μ : MM), cpy μ (p + 3) (w + 3) 9 (w + 3) k = μ (p + 3) k from fun μ => by simp [cpy, hk]]
    simp only [cpy_off (hsep 3 2 (by decide) (by decide)), cpy_off (hsep 3 1 (by decide) (by decide)), up2_ro (show p + 3 ≠ w from hsep 3 0 (by decide) (by decide))]
  · intro k hk
    simp only [cpy_off (show w + 4 ≠ w + 5 by omega)]
    rw [show ∀ (μ : MM), cpy μ (p + 4) (w + 4) 9 (w + 4) k = μ (p + 4) k from fun μ => by simp [cpy, hk]]
    simp only [cpy_off (hsep 4 3 (by decide) (by decide)), cpy_off (hsep 4 2 (by decide) (by decide)), cpy_off (hsep 4 1 (by decide) (by decide)), up2_ro (show p + 4 ≠ w from hsep 4 0 (by decide) (by decide))]
  · intro k hk
    rw [show ∀ (μ : MM), cpy μ (p + 5) (w + 5) 9 (w + 5) k = μ (p + 5) k from fun μ => by simp [cpy, hk]]
    simp only [cpy_off (hsep 5 4 (by decide) (by decide)), cpy_off (hsep 5 3 (by decide) (by decide)), cpy_off (hsep 5 2 (by decide) (by decide)), cpy_off (hsep 5 1 (by decide) (by decide)), up2_ro (show p + 5 ≠ w from hsep 5 0 (by decide) (by decide))]
/-- the copy holds the same world -/
theorem cpW {c : MM} {L : LG} {w p : Nat} {A : WS} (hL : LI L) (hw : isW w) (hp : isW p) (hne : w ≠ p) (h : CW c p (nF L) A) (hI : IW L A) : ∃ c', f_X5_copyFrom w p c = some c' ∧ (∀ r, (r < w ∨ w + 5 < r) → c' r = c r) ∧ CW c' w (nF L) A := by
  obtain ⟨⟨s1, s2, s3, s4, s5, s6, s7⟩, ht, ⟨E, hE, s8, hl⟩, a1, a2, a3⟩ := h
  have hF := hL.1
  have hT := hI.2.2.2.2.1.1
  have hG := hI.2.2.2.2.2.1.1
  obtain ⟨c', e0, e1, e2, e3, e4, e5, e6, e7⟩ := cpC (c := c) hw hp hne (by rw [s3]; exact fro_b hI.2.1)
  refine ⟨c', e0, e1, ⟨by rw [e2 0 (by decide)]; exact s1, by rw [e2 1 (by decide)]; exact s2, by rw [e2 2 (by decide)]; exact s3, by rw [e2 3 (by decide)]; exact s4, by rw [e2 4 (by decide)]; exact s5, by rw [e2 5 (by decide)]; exact s6, by rw [e2 6 (by decide)]; exact s7⟩, ?_, ⟨E, hE, by rw [e2 7 (by decide)]; exact s8, ?_⟩, ?_, ?_, ?_⟩
  · intro i t hi
    have hlt := (List.getElem?_eq_some_iff.mp hi).1
    obtain ⟨q1, q2, q3, q4⟩ := ht i t hi
    exact ⟨by rw [e3 _ (by omega)]; exact q1, by rw [e3 _ (by omega)]; exact q2, by rw [e3 _ (by omega)]; exact q3, by rw [e3 _ (by omega)]; exact q4⟩
  · intro i t hi
    have hmod := Nat.mod_lt (E + 39 - i) (show 20 > 0 by decide)
    obtain ⟨q1, q2, q3, q4⟩ := hl i t hi
    exact ⟨by rw [e4 _ (by omega)]; exact q1, by rw [e4 _ (by omega)]; exact q2, by rw [e4 _ (by omega)]; exact q3, by rw [e4 _ (by omega)]; exact q4⟩
  · intro a ha; rw [e5 a (by omega)]; exact a1 a ha
  · intro a ha; rw [e6 a (by omega)]; exact a2 a ha
  · intro a ha; rw [e7 a ha]; exact a3 a ha
/-- the reference's world moved within its rows -/
theorem rwM {m m' : MM} {R o R' o' F : Nat} {A : WS} (h : RW m R o F A) (hI : F ≤ 9 ∧ (tls A).length ≤ 12 ∧ (lgs A).length ≤ 20) (e : ∀ k, k < 66 → m' R' (o' + k) = m R (o + k)) : RW m' R' o' F A := by
  obtain ⟨⟨s1, s2, s3, s4, s5, s6, s7⟩, h2, h3, h4, h5, h6⟩ := h
  refine ⟨⟨by rw [e 12 (by decide)]; exact s1, by rw [e 10 (by decide)]; exact s2, by rw [e 11 (by decide)]; exact s3, by rw [e 9 (by decide)]; exact s4, by rw [e 13 (by decide)]; exact s5, by rw [e 32 (by decide)]; exact s6, by rw [e 45 (by decide)]; exact s7⟩, ?_, ?_, ?_, ?_, ?_⟩
  · intro i t ht
    have hl := (List.getElem?_eq_some_iff.mp ht).1
    rw [Nat.add_assoc, e (33 + i) (by omega), ← Nat.add_assoc]
    exact h2 i t ht
  · intro i t ht
    have hl := (List.getElem?_eq_some_iff.mp ht).1
    rw [Nat.add_assoc, e _ (by omega), ← Nat.add_assoc]
    exact h3 i t ht
  · intro a ha; rw [e a (by omega)]; exact h4 a ha
  · intro a ha; rw [Nat.add_assoc, e _ (by omega), ← Nat.add_assoc]; exact h5 a ha
  · intro a ha; rw [Nat.add_assoc, e _ (by omega), ← Nat.add_assoc]; exact h6 a ha
theorem IW.sz {L : LG} {A : WS} (hL : LI L) (h : IW L A) : nF L ≤ 9 ∧ (tls A).length ≤ 12 ∧ (lgs A).length ≤ 20 := ⟨hL.1, h.2.2.2.2.1.1, h.2.2.2.2.2.1.1⟩
/-! the reference's loops that copy -/
theorem cp52 (u : Nat) (hu : u ≤ 15) : ∀ (n i : Nat) (m : MM), m 144 24 = nI u → i ≤ 66 → 66 < n + i → ∃ m', f_X7_remember_L52 n (nI i) m = some (nI 66, m') ∧ (∀ r, r ≠ 157 → m' r = m r) ∧ (∀ k, (k < 66 * u + i ∨ 66 * u + 66 ≤ k) → m' 157 k = m 157 k) ∧ ∀ k, i ≤ k → k < 66 → m' 157 (66 * u + k) = m 149 k := by
  intro n
  induction n with
  | zero => intro i m _ h1 h2; omega
  | succ n ih =>
    intro i m hm h1 h2
    simp only [f_X7_remember_L52, bd]
    by_cases h : i = 66
    · subst h
      rw [if_pos (show (66 : Int32) ≤ nI 66 by decide)]
      exact ⟨m, rfl, fun _ _ => rfl, fun _ _ => rfl, fun k q1 q2 => by omega⟩
    · rw [if_neg (show ¬ (66 : Int32) ≤ nI i from nI_ge (b := 66) (by omega) (by decide)), hm, z66, pk_mul, nI_add, gdI (by omega) (by decide), gdI (by omega) (by decide), nI_clamp (by omega), nI_clamp (by omega), nI_1]
      obtain ⟨m', e1, e2, e3, e4⟩ := ih (i + 1) (up2 m 157 (66 * u + i) (m 149 i)) (by rw [up2_ro (by decide)]; exact hm) (by omega) (by omega)
      refine ⟨m', e1, fun r hr => by rw [e2 r hr, up2_ro hr], fun k hk => by rw [e3 k (by omega), up2_ne (by omega)], fun k q1 q2 => ?_⟩
      by_cases hk : k = i
      · subst hk; rw [e3 _ (by omega), up2_eq]
      · rw [e4 k (by omega) q2, up2_ro (by decide)]
theorem cp12 : ∀ (n i : Nat) (m : MM), 66 ≤ i → i ≤ 1056 → 1056 < n + i → ∃ m', f_X7_remember_L12 n (nI i) m = some (nI 1056, m') ∧ (∀ r, r ≠ 157 → m' r = m r) ∧ (∀ k, k + 66 < i → m' 157 k = m 157 k) ∧ ∀ k, i ≤ k + 66 → k + 66 < 1056 → m' 157 k = m 157 (k + 66) := by
  intro n
  induction n with
  | zero => intro i m _ h1 h2; omega
  | succ n ih =>
    intro i m h0 h1 h2
    simp only [f_X7_remember_L12, bd]
    by_cases h : i = 1056
    · subst h
      rw [if_pos (show (1056 : Int32) ≤ nI 1056 by decide)]
      exact ⟨m, rfl, fun _ _ => rfl, fun _ _ => rfl, fun k q1 q2 => by omega⟩
    · rw [if_neg (show ¬ (1056 : Int32) ≤ nI i from nI_ge (b := 1056) (by omega) (by decide)), z66, pk_sub h0, gdI (by omega) (by decide), gdI (by omega) (by decide), nI_clamp (by omega), nI_clamp (by omega), nI_1]
      obtain ⟨m', e1, e2, e3, e4⟩ := ih (i + 1) (up2 m 157 (i - 66) (m 157 i)) (by omega) (by omega) (by omega)
      refine ⟨m', e1, fun r hr => by rw [e2 r hr, up2_ro hr], fun k hk => by rw [e3 k (by omega), up2_ne (by omega)], fun k q1 q2 => ?_⟩
      by_cases hk : k + 66 = i
      · rw [e3 k (by omega), show i - 66 = k by omega, up2_eq, hk]
      · rw [e4 k (by omega) q2, up2_ne (by omega)]
theorem cpUn (u : Nat) (hu : u ≤ 15) : ∀ (n i : Nat) (m : MM), m 144 24 = nI u → i ≤ 66 → 66 < n + i → ∃ m', f_X7_undo_L22 n (nI i) m = some (nI 66, m') ∧ (∀ r, r ≠ 149 → m' r = m r) ∧ (∀ k, (k < i ∨ 66 ≤ k) → m' 149 k = m 149 k) ∧ ∀ k, i ≤ k → k < 66 → m' 149 k = m 157 (66 * u + k) := by
  intro n
  induction n with
  | zero => intro i m _ h1 h2; omega
  | succ n ih =>
    intro i m hm h1 h2
    simp only [f_X7_undo_L22, bd]
    by_cases h : i = 66
    · subst h
      rw [if_pos (show (66 : Int32) ≤ nI 66 by decide)]
      exact ⟨m, rfl, fun _ _ => rfl, fun _ _ => rfl, fun k q1 q2 => by omega⟩
    · rw [if_neg (show ¬ (66 : Int32) ≤ nI i from nI_ge (b := 66) (by omega) (by decide)), hm, z66, pk_mul, nI_add, gdI (by omega) (by decide), gdI (by omega) (by decide), nI_clamp (by omega), nI_clamp (by omega), nI_1]
      obtain ⟨m', e1, e2, e3, e4⟩ := ih (i + 1) (up2 m 149 i (m 157 (66 * u + i))) (by rw [up2_ro (by decide)]; exact hm) (by omega) (by omega)
      refine ⟨m', e1, fun r hr => by rw [e2 r hr, up2_ro hr], fun k hk => by rw [e3 k (by omega), up2_ne (by omega)], fun k q1 q2 => ?_⟩
      by_cases hk : k = i
      · subst hk; rw [e3 _ (by omega), up2_eq]
      · rw [e4 k (by omega) q2, up2_ro (by decide)]
theorem cpKp (p : Nat) (hp : p ≤ 1) : ∀ (n i : Nat) (m : MM), i ≤ 66 → 66 < n + i → ∃ m', f_X7_keep_L15 (nI p) n (nI i) m = some (nI 66, m') ∧ (∀ r, r ≠ 164 → m' r = m r) ∧ (∀ k, (k < 67 * p + i ∨ 67 * p + 66 ≤ k) → m' 164 k = m 164 k) ∧ ∀ k, i ≤ k → k < 66 → m' 164 (67 * p + k) = m 149 k := by
  intro n
  induction n with
  | zero => intro i m h1 h2; omega
  | succ n ih =>
    intro i m h1 h2
    simp only [f_X7_keep_L15, bd]
    by_cases h : i = 66
    · subst h
      rw [if_pos (show (66 : Int32) ≤ nI 66 by decide)]
      exact ⟨m, rfl, fun _ _ => rfl, fun _ _ => rfl, fun k q1 q2 => by omega⟩
    · rw [if_neg (show ¬ (66 : Int32) ≤ nI i from nI_ge (b := 66) (by omega) (by decide)), z67, pk_mul, nI_add, gdI (by omega) (by decide), gdI (by omega) (by decide), nI_clamp (by omega), nI_clamp (by omega), nI_1]
      obtain ⟨m', e1, e2, e3, e4⟩ := ih (i + 1) (up2 m 164 (67 * p + i) (m 149 i)) (by omega) (by omega)
      refine ⟨m', e1, fun r hr => by rw [e2 r hr, up2_ro hr], fun k hk => by rw [e3 k (by omega), up2_ne (by omega)], fun k q1 q2 => ?_⟩
      by_cases hk : k = i
      · subst hk; rw [e3 _ (by omega), up2_eq]
      · rw [e4 k (by omega) q2, up2_ro (by decide)]
theorem cpGb (p : Nat) (hp : p ≤ 1) : ∀ (n i : Nat) (m : MM), i ≤ 66 → 66 < n + i → ∃ m', f_X7_goBack_L27 (nI p) n (nI i) m = some (nI 66, m') ∧ (∀ r, r ≠ 149 → m' r = m r) ∧ (∀ k, (k < i ∨ 66 ≤ k) → m' 149 k = m 149 k) ∧ ∀ k, i ≤ k → k < 66 → m' 149 k = m 164 (67 * p + k) := by
  intro n
  induction n with
  | zero => intro i m h1 h2; omega
  | succ n ih =>
    intro i m h1 h2
    simp only [f_X7_goBack_L27, bd]
    by_cases h : i = 66
    · subst h
      rw [if_pos (show (66 : Int32) ≤ nI 66 by decide)]
      exact ⟨m, rfl, fun _ _ => rfl, fun _ _ => rfl, fun k q1 q2 => by omega⟩
    · rw [if_neg (show ¬ (66 : Int32) ≤ nI i from nI_ge (b := 66) (by omega) (by decide)), z67, pk_mul, nI_add, gdI (by omega) (by decide), gdI (by omega) (by decide), nI_clamp (by omega), nI_clamp (by omega), nI_1]
      obtain ⟨m', e1, e2, e3, e4⟩ := ih (i + 1) (up2 m 149 i (m 164 (67 * p + i))) (by omega) (by omega)
      refine ⟨m', e1, fun r hr => by rw [e2 r hr, up2_ro hr], fun k hk => by rw [e3 k (by omega), up2_ne (by omega)], fun k q1 q2 => ?_⟩
      by_cases hk : k = i
      · subst hk; rw [e3 _ (by omega), up2_eq]
      · rw [e4 k (by omega) q2, up2_ro (by decide)]
theorem cpKb : ∀ (n i : Nat) (m : MM), i ≤ 66 → 66 < n + i → ∃ m', f_X7_keepBefore_L2 n (nI i) m = some (nI 66, m') ∧ (∀ r, r ≠ 158 → m' r = m r) ∧ (∀ k, k < i → m' 158 k = m 158 k) ∧ ∀ k, i ≤ k → k < 66 → m' 158 k = m 149 k := by
  intro n
  induction n with
  | zero => intro i m h1 h2; omega
  | succ n ih =>
    intro i m h1 h2
    simp only [f_X7_keepBefore_L2, bd]
    by_cases h : i = 66
    · subst h
      rw [if_pos (show (66 : Int32) ≤ nI 66 by decide)]
      exact ⟨m, rfl, fun _ _ => rfl, fun _ _ => rfl, fun k q1 q2 => by omega⟩
    · rw [if_neg (show ¬ (66 : Int32) ≤ nI i from nI_ge (b := 66) (by omega) (by decide)), gdI (by omega) (by decide), gdI (by omega) (by decide), nI_clamp (by omega), nI_1]
      obtain ⟨m', e1, e2, e3, e4⟩ := ih (i + 1) (up2 m 158 i (m 149 i)) (by omega) (by omega)
      refine ⟨m', e1, fun r hr => by rw [e2 r hr, up2_ro hr], fun k hk => by rw [e3 k (by omega), up2_ne (by omega)], fun k q1 q2 => ?_⟩
      by_cases hk : k = i
      · subst hk; rw [e3 _ (by omega), up2_eq]
      · rw [e4 k (by omega) q2, up2_ro (by decide)]
theorem cpPb : ∀ (n i : Nat) (m : MM), i ≤ 66 → 66 < n + i → ∃ m', f_X7_putBack_L2 n (nI i) m = some (nI 66, m') ∧ (∀ r, r ≠ 149 → m' r = m r) ∧ (∀ k, (k < i ∨ 66 ≤ k) → m' 149 k = m 149 k) ∧ ∀ k, i ≤ k → k < 66 → m' 149 k = m 158 k := by
  intro n
  induction n with
  | zero => intro i m h1 h2; omega
  | succ n ih =>
    intro i m h1 h2
    simp only [f_X7_putBack_L2, bd]
    by_cases h : i = 66
    · subst h
      rw [if_pos (show (66 : Int32) ≤ nI 66 by decide)]
      exact ⟨m, rfl, fun _ _ => rfl, fun _ _ => rfl, fun k q1 q2 => by omega⟩
    · rw [if_neg (show ¬ (66 : Int32) ≤ nI i from nI_ge (b := 66) (by omega) (by decide)), gdI (by omega) (by decide), gdI (by omega) (by decide), nI_clamp (by omega), nI_1]
      obtain ⟨m', e1, e2, e3, e4⟩ := ih (i + 1) (up2 m 149 i (m 158 i)) (by omega) (by omega)
      refine ⟨m', e1, fun r hr => by rw [e2 r hr, up2_ro hr], fun k hk => by rw [e3 k (by omega), up2_ne (by omega)], fun k q1 q2 => ?_⟩
      by_cases hk : k = i
      · subst hk; rw [e3 _ (by omega), up2_eq]
      · rw [e4 k (by omega) q2, up2_ro (by decide)]
