/-! the reader: blanks, numbers, ends -/
def skF (tx : Nat → Nat) : Nat → Nat → Nat
  | 0, p => p
  | j + 1, p => if tx p = 32 then skF tx j (p + 1) else p
def sk (tx : Nat → Nat) (n p : Nat) : Nat := skF tx (n - p) p
abbrev dig (t : Nat) : Prop := 48 ≤ t ∧ t ≤ 57
def dgF (tx : Nat → Nat) : Nat → Nat → Nat
  | 0, p => p
  | j + 1, p => if dig (tx p) then dgF tx j (p + 1) else p
def vlF (tx : Nat → Nat) (s : Nat) : Nat → Nat
  | 0 => 0
  | j + 1 => 10 * vlF tx s j + min 9 (tx (s + j) - 48)
theorem skF_le (tx : Nat → Nat) : ∀ j p, p ≤ skF tx j p ∧ skF tx j p ≤ p + j := by
  intro j
  induction j with
  | zero => intro p; exact ⟨Nat.le_refl _, Nat.le_refl _⟩
  | succ j ih =>
    intro p
    simp only [skF]
    split
    · have := ih (p + 1); omega
    · omega
theorem skF_st (tx : Nat → Nat) : ∀ j p, skF tx j p = p + j ∨ tx (skF tx j p) ≠ 32 := by
  intro j
  induction j with
  | zero => intro p; exact Or.inl rfl
  | succ j ih =>
    intro p
    simp only [skF]
    split
    · have := ih (p + 1); omega
    · rename_i h; exact Or.inr h
theorem sk_le {tx : Nat → Nat} {n p : Nat} (h : p ≤ n) : p ≤ sk tx n p ∧ sk tx n p ≤ n := by
  have := skF_le tx (n - p) p
  unfold sk; omega
theorem sk_st {tx : Nat → Nat} {n p : Nat} (h : p ≤ n) : sk tx n p = n ∨ tx (sk tx n p) ≠ 32 := by
  have := skF_st tx (n - p) p
  unfold sk
  rcases this with h | h
  · exact Or.inl (by omega)
  · exact Or.inr h
theorem sk_of {tx : Nat → Nat} {n p : Nat} (h : p = n ∨ tx p ≠ 32) : sk tx n p = p := by
  unfold sk
  rcases h with h | h
  · rw [h, Nat.sub_self]; rfl
  · cases n - p with
    | zero => rfl
    | succ j => simp only [skF]; rw [if_neg h]
theorem dgF_le (tx : Nat → Nat) : ∀ j p, p ≤ dgF tx j p ∧ dgF tx j p ≤ p + j := by
  intro j
  induction j with
  | zero => intro p; exact ⟨Nat.le_refl _, Nat.le_refl _⟩
  | succ j ih =>
    intro p
    simp only [dgF]
    split
    · have := ih (p + 1); omega
    · omega
theorem vlF_lt (tx : Nat → Nat) (s : Nat) {j : Nat} (hj : j ≤ 3) : vlF tx s j ≤ 999 ∧ (j ≤ 2 → vlF tx s j ≤ 99) := by
  have h : j = 0 ∨ j = 1 ∨ j = 2 ∨ j = 3 := by omega
  rcases h with rfl | rfl | rfl | rfl <;> simp only [vlF] <;> omega
/-- the number at p: where it begins, where it ends, its value, its fault -/
def nQ (tx : Nat → Nat) (n p : Nat) : Nat := dgF tx (n - sk tx n p) (sk tx n p)
def nV (tx : Nat → Nat) (n p : Nat) : Nat := vlF tx (sk tx n p) (min (nQ tx n p - sk tx n p) 3)
def nC (tx : Nat → Nat) (n p a b : Nat) : Nat := if nQ tx n p = sk tx n p then 1 else if 3 < nQ tx n p - sk tx n p then 2 else if nV tx n p < a then 2 else if nV tx n p ≤ b then 0 else 2
theorem nQ_le {tx : Nat → Nat} {n p : Nat} (h : p ≤ n) : sk tx n p ≤ nQ tx n p ∧ nQ tx n p ≤ n := by
  have := dgF_le tx (n - sk tx n p) (sk tx n p)
  have := sk_le (tx := tx) h
  unfold nQ; omega
theorem nQ_eq {tx : Nat → Nat} {n p : Nat} : nQ tx n p = sk tx n p ↔ ¬ (sk tx n p < n ∧ dig (tx (sk tx n p))) := by
  unfold nQ
  cases hj : n - sk tx n p with
  | zero => exact ⟨fun _ q => by omega, fun _ => rfl⟩
  | succ j =>
    simp only [dgF]
    have := dgF_le tx j (sk tx n p + 1)
    by_cases hd : dig (tx (sk tx n p))
    · rw [if_pos hd]; exact ⟨fun q => by omega, fun q => absurd ⟨by omega, hd⟩ q⟩
    · rw [if_neg hd]; exact ⟨fun _ q => hd q.2, fun _ => rfl⟩
theorem nV_lt (tx : Nat → Nat) (n p : Nat) : nV tx n p ≤ 999 := (vlF_lt tx _ (Nat.min_le_right _ _)).1
theorem nC_le (tx : Nat → Nat) (n p a b : Nat) : nC tx n p a b ≤ 2 := by 
  unfold nC
  repeat' split
  all_goals omega
theorem nC_ok {tx : Nat → Nat} {n p a b : Nat} (h : nC tx n p a b = 0) : a ≤ nV tx n p ∧ nV tx n p ≤ b := by
  unfold nC at h
  repeat' split at h
  all_goals omega
def PC (c : MM) (tx : Nat → Nat) (n p : Nat) : Prop := c 1 1 = nI n ∧ c 1 2 = nI p ∧ ∀ k, k < n → c 2 k = nI (tx k)
def PR (m : MM) (tx : Nat → Nat) (n p : Nat) : Prop := m 144 10 = nI n ∧ m 144 12 = nI p ∧ ∀ k, k < n → m 150 k = nI (tx k)
theorem cell2 {c : MM} {tx : Nat → Nat} {n p k : Nat} (h : PC c tx n p) (hn : n ≤ 240) (hk : k < n) : f_X6_cell 2 (nI k) c = nI (tx k) := by
  rw [cellC (n := 240) c rfl (by omega) (by decide)]; exact h.2.2 k hk
theorem PC.to {c : MM} {tx : Nat → Nat} {n p : Nat} (h : PC c tx n p) (q : Nat) : PC (up2 c 1 2 (nI q)) tx n q := ⟨by rw [up2_ne (by omega)]; exact h.1, up2_eq _ _ _ _, fun k hk => by rw [up2_ro (by decide)]; exact h.2.2 k hk⟩
theorem PR.to {m : MM} {tx : Nat → Nat} {n p : Nat} (h : PR m tx n p) (q : Nat) : PR (up2 m 144 12 (nI q)) tx n q := ⟨by rw [up2_ne (by omega)]; exact h.1, up2_eq _ _ _ _, fun k hk => by rw [up2_ro (by decide)]; exact h.2.2 k hk⟩
theorem skC {tx : Nat → Nat} {n : Nat} (hn : n ≤ 240) (ht : ∀ k, k < n → tx k ≤ 255) : ∀ (j k f : Nat) (c : MM), k + j = n → j < f → PC c tx n k → ∃ c', f_X4_skipBlanks_L5 f (nI k) c = some (nI (skF tx j k), c') ∧ PC c' tx n (skF tx j k) ∧ (∀ r, r ≠ 1 → c' r = c r) ∧ ∀ i, i ≠ 2 → c' 1 i = c 1 i := by
  intro j
  induction j with
  | zero =>
    intro k f c hk hf hP
    obtain ⟨f, rfl⟩ : ∃ j, f = j + 1 := ⟨f - 1, by omega⟩
    have : k = n := by omega
    subst this
    refine ⟨c, ?_, hP, fun _ _ => rfl, fun _ _ => rfl⟩
    simp only [f_X4_skipBlanks_L5, skF]
    rw [hP.1, if_pos (nI_le (Nat.le_refl k) (by omega))]
  | succ j ih =>
    intro k f c hk hf hP
    obtain ⟨f, rfl⟩ : ∃ j, f = j + 1 := ⟨f - 1, by omega⟩
    have ht' := ht k (by omega)
    simp only [f_X4_skipBlanks_L5, skF]
    rw [hP.1, if_neg (nI_ge (by omega) (by omega)), cell2 hP hn (by omega), bdE, hP.2.1, nI_1, bdE]
    by_cases h : tx k = 32
    · rw [if_pos (show nI (tx k) = 32 by rw [h]; rfl), if_pos h]
      obtain ⟨c', e1, e2, e3, e4⟩ := ih (k + 1) f _ (by omega) (by omega) (hP.to (k + 1))
      exact ⟨c', e1, e2, fun r hr => by rw [e3 r hr, up2_ro hr], fun i hi => by rw [e4 i hi, up2_ne (Or.inr hi)]⟩
    · rw [if_neg (show ¬ nI (tx k) = 32 from nI_neI (b := 32) (by omega) (by decide) h), if_neg h]
      exact ⟨c, rfl, hP, fun _ _ => rfl, fun _ _ => rfl⟩
theorem skipC {tx : Nat → Nat} {n p : Nat} {c : MM} (hn : n ≤ 240) (ht : ∀ k, k < n → tx k ≤ 255) (hp : p ≤ n) (hP : PC c tx n p) : ∃ c', f_X4_skipBlanks c = some c' ∧ PC c' tx n (sk tx n p) ∧ (∀ r, r ≠ 1 → c' r = c r) ∧ ∀ i, i ≠ 2 → c' 1 i = c 1 i := by
  have hFU : (250 : Nat) < FU := by decide
  obtain ⟨c', e1, e2, e3, e4⟩ := skC hn ht (n - p) p FU c (by omega) (by omega) hP
  refine ⟨c', ?_, e2, e3, e4⟩
  unfold f_X4_skipBlanks
  rw [bdE, hP.2.1, e1]; rfl
theorem skR {tx : Nat → Nat} {n : Nat} (hn : n ≤ 240) (ht : ∀ k, k < n → tx k ≤ 255) : ∀ (j k f : Nat) (m : MM), k + j = n → j < f → PR m tx n k → ∃ m', f_X7_here_L0 f m = some m' ∧ PR m' tx n (skF tx j k) ∧ (∀ r, r ≠ 144 → m' r = m r) ∧ ∀ i, i ≠ 12 → m' 144 i = m 144 i := by
  intro j
  induction j with
  | zero =>
    intro k f m hk hf hP
    obtain ⟨f, rfl⟩ : ∃ j, f = j + 1 := ⟨f - 1, by omega⟩
    have : k = n := by omega
    subst this
    refine ⟨m, ?_, hP, fun _ _ => rfl, fun _ _ => rfl⟩
    simp only [f_X7_here_L0]
    rw [hP.1, hP.2.1, if_pos (nI_le (Nat.le_refl k) (by omega))]
  | succ j ih =>
    intro k f m hk hf hP
    obtain ⟨f, rfl⟩ : ∃ j, f = j + 1 := ⟨f - 1, by omega⟩
    have ht' := ht k (by omega)
    simp only [f_X7_here_L0, skF]
    rw [hP.1, hP.2.1, if_neg (nI_ge (by omega) (by omega)), gdI (by omega) (by decide), nI_clamp (by omega), hP.2.2 k (by omega), nI_1, bdE]
    by_cases h : tx k = 32
    · rw [if_pos (show nI (tx k) = 32 by rw [h]; rfl), if_pos h]
      obtain ⟨m', e1, e2, e3, e4⟩ := ih (k + 1) f _ (by omega) (by omega) (hP.to (k + 1))
      exact ⟨m', e1, e2, fun r hr => by rw [e3 r hr, up2_ro hr], fun i hi => by rw [e4 i hi, up2_ne (Or.inr hi)]⟩
    · rw [if_neg (show ¬ nI (tx k) = 32 from nI_neI (b := 32) (by omega) (by decide) h), if_neg h]
      exact ⟨m, rfl, hP, fun _ _ => rfl, fun _ _ => rfl⟩
/-- the letter that stands behind the blanks, or none -/
def ltr (tx : Nat → Nat) (n s : Nat) : Int32 := if s < n then nI (tx s) else -1
theorem hereR {tx : Nat → Nat} {n p : Nat} {m : MM} (hn : n ≤ 240) (ht : ∀ k, k < n → tx k ≤ 255) (hp : p ≤ n) (hP : PR m tx n p) : ∃ m', f_X7_here m = some (ltr tx n (sk tx n p), m') ∧ PR m' tx n (sk tx n p) ∧ (∀ r, r ≠ 144 → m' r = m r) ∧ ∀ i, i ≠ 12 → m' 144 i = m 144 i := by
  have hFU : (250 : Nat) < FU := by decide
  obtain ⟨m', e1, e2, e3, e4⟩ := skR hn ht (n - p) p FU m (by omega) (by omega) hP
  have hs := sk_le (tx := tx) hp
  have e2 : PR m' tx n (sk tx n p) := e2
  refine ⟨m', ?_, e2, e3, e4⟩
  unfold f_X7_here ltr
  rw [e1, Option.bind_some, e2.1, e2.2.1]
  by_cases h : sk tx n p < n
  · rw [if_neg (nI_ge h (by omega)), if_pos h, gdI (by omega) (by decide), nI_clamp (by omega), e2.2.2 _ h]
  · rw [if_pos (nI_le (by omega) (by omega)), if_neg h]
theorem inG (x y z : Int32) (μ : MM) : f_X7_in (Int32.toInt64 x) (Int32.toInt64 y) (Int32.toInt64 z) μ = if x < y then 0 else if z < x then 0 else 1 := by
  unfold f_X7_in
  simp only [lgc_lt, lgc_gt, i64_lt]
theorem in_dig {t : Nat} (h : t ≤ 255) (μ : MM) : f_X7_in (Int32.toInt64 (nI t)) 48 57 μ = if dig t then 1 else 0 := by
  rw [show (48 : Int64) = Int32.toInt64 (nI 48) by decide, show (57 : Int64) = Int32.toInt64 (nI 57) by decide, inG]
  unfold dig
  by_cases h1 : t < 48
  · rw [if_pos (nI_lt h1 (by omega)), if_neg (by omega)]
  · rw [if_neg (nI_nlt (by omega) (by omega))]
    by_cases h2 : 57 < t
    · rw [if_pos (nI_lt h2 (by omega)), if_neg (by omega)]
    · rw [if_neg (nI_nlt (by omega) (by omega)), if_pos (by omega)]
theorem in_dig1 (μ : MM) : f_X7_in (Int32.toInt64 (-1)) 48 57 μ = 0 := by
  rw [show (48 : Int64) = Int32.toInt64 (nI 48) by decide, show (57 : Int64) = Int32.toInt64 (nI 57) by decide, inG, if_pos (by decide)]
theorem isFig {t : Nat} (h : t ≤ 255) (μ : MM) : f_X4_isFigure (nI t) μ = if dig t then 1 else 0 := by
  unfold f_X4_isFigure dig
  by_cases h1 : t < 48
  · rw [if_pos (show nI t < 48 from nI_lt (b := 48) h1 (by omega)), if_neg (by omega)]
  · rw [if_neg (show ¬ nI t < 48 from nI_nlt (b := 48) (by omega) (by omega))]
    by_cases h2 : 57 < t
    · rw [if_pos (show (57 : Int32) < nI t from nI_lt (a := 57) h2 (by omega)), if_neg (by omega)]
    · rw [if_neg (show ¬ (57 : Int32) < nI t from nI_nlt (a := 57) (by omega) (by omega)), if_pos (by omega)]
theorem digV {v t : Nat} (h : dig t) : (10 : Int32) * nI v + nI t - 48 = nI (10 * v + min 9 (t - 48)) := by
  unfold dig at h
  rw [show (48 : Int32) = nI 48 from rfl, z10, pk_mul, nI_add, pk_sub (by omega)]
  congr 1; omega
theorem numLC {tx : Nat → Nat} {n s : Nat} (hn : n ≤ 240) (ht : ∀ k, k < n → tx k ≤ 255) {l1 l2 : Int32} : ∀ (j i f : Nat) (c : MM), s + i + j = n → j < f → PC c tx n (s + i) → ∃ c', f_X4_readNumber_L15 l1 l2 (nI s) f (nI (vlF tx s (min i 3))) (nI (s + i)) c = some (nI (vlF tx s (min (dgF tx j (s + i) - s) 3)), nI (dgF tx j (s + i)), c') ∧ PC c' tx n (dgF tx j (s + i)) ∧ (∀ r, r ≠ 1 → c' r = c r) ∧ ∀ i, i ≠ 2 → c' 1 i = c 1 i := by
  intro j
  induction j with
  | zero =>
    intro i f c hk hf hP
    obtain ⟨f, rfl⟩ : ∃ j, f = j + 1 := ⟨f - 1, by omega⟩
    have : n = s + i := by omega
    subst this
    refine ⟨c, ?_, hP, fun _ _ => rfl, fun _ _ => rfl⟩
    simp only [f_X4_readNumber_L15, dgF]
    rw [hP.1, if_pos (nI_le (Nat.le_refl _) (by omega)), Nat.add_sub_cancel_left]
  | succ j ih =>
    intro i f c hk hf hP
    obtain ⟨f, rfl⟩ : ∃ j, f = j + 1 := ⟨f - 1, by omega⟩
    have ht' := ht (s + i) (by omega)
    simp only [f_X4_readNumber_L15, dgF]
    rw [hP.1, if_neg (nI_ge (by omega) (by omega)), cell2 hP hn (by omega), bdE, isFig ht', bdE, bdE, hP.2.1, pk_sub (by omega), nI_1, bdE]
    by_cases h : dig (tx (s + i))
    · rw [if_pos h, if_neg one_ne, if_pos h]
      obtain ⟨c', e1, e2, e3, e4⟩ := ih (i + 1) f _ (by omega) (by omega) (hP.to (s + i + 1))
      refine ⟨c', ?_, e2, fun r hr => by rw [e3 r hr, up2_ro hr], fun i hi => by rw [e4 i hi, up2_ne (Or.inr hi)]⟩
      refine Eq.trans ?_ e1
      congr 1
      by_cases h3 : 3 ≤ i
      · rw [if_pos (show (3 : Int32) ≤ nI (s + i - s) from nI_le (a := 3) (by omega) (by omega))]
        congr 2; omega
      · rw [if_neg (show ¬ (3 : Int32) ≤ nI (s + i - s) from nI_ge (b := 3) (by omega) (by omega)), bdE, digV h, show min (i + 1) 3 = i + 1 by omega, show min i 3 = i by omega]
        rfl
    · rw [if_neg h, if_pos rfl, if_neg h]
      refine ⟨c, ?_, hP, fun _ _ => rfl, fun _ _ => rfl⟩
      rw [Nat.add_sub_cancel_left]
theorem numLR {tx : Nat → Nat} {n s : Nat} (hn : n ≤ 240) (ht : ∀ k, k < n → tx k ≤ 255) {l1 l2 l3 : Int32} : ∀ (j i f u : Nat) (m : MM), s + i + j = n → j < f → PR m tx n (s + i) → m 144 13 = nI u → u ≤ 100009 → (i ≤ 3 → u = vlF tx s i) → ∃ m' u', f_X7_takeNumber_L42 l1 l2 l3 f m = some m' ∧ PR m' tx n (dgF tx j (s + i)) ∧ m' 144 13 = nI u' ∧ u' ≤ 100009 ∧ (dgF tx j (s + i) - s ≤ 3 → u' = vlF tx s (dgF tx j (s + i) - s)) ∧ (∀ r, r ≠ 144 → m' r = m r) ∧ ∀ i, i ≠ 12 → i ≠ 13 → m' 144 i = m 144 i := by
  intro j
  induction j with
  | zero =>
    intro i f u m hk hf hP h13 hu hv
    obtain ⟨f, rfl⟩ : ∃ j, f = j + 1 := ⟨f - 1, by omega⟩
    have : n = s + i := by omega
    subst this
    refine ⟨m, u, ?_, hP, h13, hu, ?_, fun _ _ => rfl, fun _ _ _ => rfl⟩
    · simp only [f_X7_takeNumber_L42]
      rw [hP.1, hP.2.1, if_pos (nI_le (Nat.le_refl _) (by omega))]
    · simp only [dgF]; rw [Nat.add_sub_cancel_left]; exact hv
  | succ j ih =>
    intro i f u m hk hf hP h13 hu hv
    obtain ⟨f, rfl⟩ : ∃ j, f = j + 1 := ⟨f - 1, by omega⟩
    have ht' := ht (s + i) (by omega)
    simp only [f_X7_takeNumber_L42, dgF]
    rw [hP.1, hP.2.1, if_neg (nI_ge (by omega) (by omega)), gdI (by omega) (by decide), nI_clamp (by omega), hP.2.2 _ (by omega), in_dig ht', bdE, gdI2 (by omega) (by decide), h13]
    by_cases h : dig (tx (s + i))
    · rw [if_pos h, if_neg one_ne, if_pos h]
      have go : ∀ u2, u2 ≤ 100009 → (i + 1 ≤ 3 → u2 = vlF tx s (i + 1)) → ∃ m' u', (bd (up2 m 144 13 (nI u2)) fun μ7 => bd (up2 μ7 144 12 (μ7 144 12 + 1)) fun μ8 => f_X7_takeNumber_L42 l1 l2 l3 f μ8) = some m' ∧ PR m' tx n (dgF tx j (s + i + 1)) ∧ m' 144 13 = nI u' ∧ u' ≤ 100009 ∧ (dgF tx j (s + i + 1) - s ≤ 3 → u' = vlF tx s (dgF tx j (s + i + 1) - s)) ∧ (∀ r, r ≠ 144 → m' r = m r) ∧ ∀ i, i ≠ 12 → i ≠ 13 → m' 144 i = m 144 i := by
        intro u2 h1 h2
        rw [bdE, bdE, up2_ne (by omega), hP.2.1, nI_1]
        have hP2 : PR (up2 m 144 13 (nI u2)) tx n (s + i) := ⟨by rw [up2_ne (by omega)]; exact hP.1, by rw [up2_ne (by omega)]; exact hP.2.1, fun k hk => by rw [up2_ro (by decide)]; exact hP.2.2 k hk⟩
        obtain ⟨m', u', e1, e2, e3, e4, e5, e6, e7⟩ := ih (i + 1) f u2 _ (by omega) (by omega) (hP2.to (s + i + 1)) (by rw [up2_ne (by omega), up2_eq]) h1 h2
        exact ⟨m', u', e1, e2, e3, e4, e5, fun r hr => by rw [e6 r hr, up2_ro hr, up2_ro hr], fun i i1 i2 => by rw [e7 i i1 i2, up2_ne (Or.inr i1), up2_ne (Or.inr i2)]⟩
      by_cases h1 : u ≤ 10000
      · rw [if_pos (show nI u ≤ 10000 from nI_le (b := 10000) h1 (by omega)), Option.bind_some, digV h]
        exact go _ (by omega) (fun hi => by rw [hv (by omega)]; rfl)
      · rw [if_neg (show ¬ nI u ≤ 10000 from nI_ge (a := 10000) (by omega) (by omega)), Option.bind_some]
        refine go u hu (fun hi => ?_)
        have := (vlF_lt tx s (show i ≤ 3 by omega)).1
        have := hv (by omega)
        omega
    · rw [if_neg h, if_pos rfl, if_neg h]
      refine ⟨m, u, rfl, hP, h13, hu, ?_, fun _ _ => rfl, fun _ _ _ => rfl⟩
      rw [Nat.add_sub_cancel_left]; exact hv
theorem markC (x y : Int32) (c : MM) : f_X4_mark x y c = if c 1 3 = 0 then up2 (up2 c 1 3 x) 1 4 y else c := by unfold f_X4_mark; rw [bdE, bdE]
/-- a fault marked: the first stays -/
theorem mark1 {c : MM} {tx : Nat → Nat} {n q : Nat} (x y : Int32) (hP : PC c tx n q) : PC (f_X4_mark x y c) tx n q ∧ (∀ r, r ≠ 1 → f_X4_mark x y c r = c r) ∧ (∀ i, i ≠ 3 → i ≠ 4 → f_X4_mark x y c 1 i = c 1 i) ∧ (c 1 3 ≠ 0 → f_X4_mark x y c 1 3 = c 1 3 ∧ f_X4_mark x y c 1 4 = c 1 4) ∧ (c 1 3 = 0 → f_X4_mark x y c 1 3 = x ∧ f_X4_mark x y c 1 4 = y) := by
  rw [markC]
  by_cases h : c 1 3 = 0
  · rw [if_pos h]
    refine ⟨⟨?_, ?_, ?_⟩, ?_, ?_, fun q => absurd h q, fun _ => ⟨?_, ?_⟩⟩
    · rw [up2_ne (by omega), up2_ne (by omega)]; exact hP.1
    · rw [up2_ne (by omega), up2_ne (by omega)]; exact hP.2.1
    · intro k hk; rw [up2_ro (by decide), up2_ro (by decide)]; exact hP.2.2 k hk
    · intro r hr; rw [up2_ro hr, up2_ro hr]
    · intro i i1 i2; rw [up2_ne (Or.inr i2), up2_ne (Or.inr i1)]
    · rw [up2_ne (by omega), up2_eq]
    · rw [up2_eq]
  · rw [if_neg h]
    exact ⟨hP, fun _ _ => rfl, fun _ _ _ => rfl, fun _ => ⟨rfl, rfl⟩, fun q => absurd q h⟩
/-- what a reading step of the class leaves -/
def StC (c c' : MM) (code at' : Nat) : Prop := (∀ r, r ≠ 1 → c' r = c r) ∧ (∀ i, i ≠ 2 → i ≠ 3 → i ≠ 4 → c' 1 i = c 1 i) ∧ (c 1 3 ≠ 0 ∨ code = 0 → c' 1 3 = c 1 3 ∧ c' 1 4 = c 1 4) ∧ (c 1 3 = 0 → code ≠ 0 → c' 1 3 = nI code ∧ c' 1 4 = nI at')
theorem numC {c : MM} {tx : Nat → Nat} {n p a b : Nat} (hn : n ≤ 240) (ht : ∀ k, k < n → tx k ≤ 255) (hp : p ≤ n) (ha : a ≤ 9) (hb : b ≤ 9) (hP : PC c tx n p) : ∃ c', f_X4_readNumber (nI a) (nI b) c = some (nI (nV tx n p), c') ∧ PC c' tx n (nQ tx n p) ∧ StC c c' (nC tx n p a b) (sk tx n p) := by
  have hFU : (250 : Nat) < FU := by decide
  have hs := sk_le (tx := tx) hp
  have hq := nQ_le (tx := tx) hp
  have hv := nV_lt tx n p
  obtain ⟨c1, e1, e2, e3, e4⟩ := skipC hn ht hp hP
  obtain ⟨c2, g1, g2, g3, g4⟩ := numLC (s := sk tx n p) (l1 := nI a) (l2 := nI b) hn ht (n - sk tx n p) 0 FU c1 (by omega) (by omega) e2
  have g1 : f_X4_readNumber_L15 (nI a) (nI b) (nI (sk tx n p)) FU 0 (nI (sk tx n p)) c1 = some (nI (nV tx n p), nI (nQ tx n p), c2) := g1
  have g2 : PC c2 tx n (nQ tx n p) := g2
  have f3 : c2 1 3 = c 1 3 := by rw [g4 3 (by decide), e4 3 (by decide)]
  have f4 : c2 1 4 = c 1 4 := by rw [g4 4 (by decide), e4 4 (by decide)]
  have mk : ∀ (x : Nat), x ≠ 0 → nC tx n p a b = x → PC (f_X4_mark (nI x) (nI (sk tx n p)) c2) tx n (nQ tx n p) ∧ StC c (f_X4_mark (nI x) (nI (sk tx n p)) c2) (nC tx n p a b) (sk tx n p) := by
    intro x hx hc
    obtain ⟨h1, h2, h3, h4, h5⟩ := mark1 (nI x) (nI (sk tx n p)) g2
    refine ⟨h1, fun r hr => by rw [h2 r hr, g3 r hr, e3 r hr], fun i i1 i2 i3 => by rw [h3 i i2 i3, g4 i i1, e4 i i1], fun q => ?_, fun q1 q2 => ?_⟩
    · rcases q with q | q
      · obtain ⟨k1, k2⟩ := h4 (by rw [f3]; exact q)
        rw [k1, k2]; exact ⟨f3, f4⟩
      · exact absurd (hc ▸ q) hx
    · rw [hc]; exact h5 (by rw [f3]; exact q1)
  unfold f_X4_readNumber
  rw [e1, Option.bind_some, bdE, e2.2.1, g1, Option.bind_some]
  dsimp only
  rw [bdE, bdE]
  by_cases h1 : nQ tx n p = sk tx n p
  · rw [if_pos (show c2 1 2 = nI (sk tx n p) by rw [g2.2.1, h1])]
    obtain ⟨k1, k2⟩ := mk 1 (by decide) (by unfold nC; rw [if_pos h1])
    exact ⟨_, rfl, k1, k2⟩
  · rw [if_neg (show ¬ c2 1 2 = nI (sk tx n p) by rw [g2.2.1]; exact nI_neI (by omega) (by omega) h1)]
    by_cases h2 : 3 < nQ tx n p - sk tx n p
    · rw [if_pos (show (3 : Int32) < c2 1 2 - nI (sk tx n p) by rw [g2.2.1, pk_sub (by omega)]; exact nI_lt (a := 3) h2 (by omega))]
      obtain ⟨k1, k2⟩ := mk 2 (by decide) (by unfold nC; rw [if_neg h1, if_pos h2])
      exact ⟨_, rfl, k1, k2⟩
    · rw [if_neg (show ¬ (3 : Int32) < c2 1 2 - nI (sk tx n p) by rw [g2.2.1, pk_sub (by omega)]; exact nI_nlt (a := 3) (by omega) (by omega))]
      by_cases h3 : nV tx n p < a
      · rw [if_pos (nI_lt h3 (by omega))]
        obtain ⟨k1, k2⟩ := mk 2 (by decide) (by unfold nC; rw [if_neg h1, if_neg h2, if_pos h3])
        exact ⟨_, rfl, k1, k2⟩
      · rw [if_neg (nI_nlt (by omega) (by omega))]
        by_cases h4 : nV tx n p ≤ b
        · rw [if_pos (nI_le h4 (by omega))]
          have hc : nC tx n p a b = 0 := by unfold nC; rw [if_neg h1, if_neg h2, if_neg h3, if_pos h4]
          exact ⟨c2, rfl, g2, fun r hr => by rw [g3 r hr, e3 r hr], fun i i1 i2 i3 => by rw [g4 i i1, e4 i i1], fun _ => ⟨f3, f4⟩, fun _ q => absurd hc q⟩
        · rw [if_neg (nI_ge (by omega) (by omega))]
          obtain ⟨k1, k2⟩ := mk 2 (by decide) (by unfold nC; rw [if_neg h1, if_neg h2, if_neg h3, if_neg h4])
          exact ⟨_, rfl, k1, k2⟩
/-- what a reading step of the reference leaves -/
def StR (m m' : MM) (code at' : Nat) : Prop := (∀ r, r ≠ 144 → m' r = m r) ∧ (∀ k, (k < 11 ∨ 14 < k) → m' 144 k = m 144 k) ∧ (code = 0 → m' 144 11 = m 144 11) ∧ (code ≠ 0 → m' 144 11 = nI at')
theorem numR {m : MM} {tx : Nat → Nat} {n p a b : Nat} (hn : n ≤ 240) (ht : ∀ k, k < n → tx k ≤ 255) (hp : p ≤ n) (ha : a ≤ 9) (hb : b ≤ 9) (hP : PR m tx n p) : ∃ m', f_X7_takeNumber (nI a) (nI b) m = some (nI (nC tx n p a b), m') ∧ PR m' tx n (nQ tx n p) ∧ StR m m' (nC tx n p a b) (sk tx n p) ∧ (nC tx n p a b = 0 → m' 144 13 = nI (nV tx n p)) := by
  have hFU : (250 : Nat) < FU := by decide
  have hs := sk_le (tx := tx) hp
  have hq := nQ_le (tx := tx) hp
  have hv := nV_lt tx n p
  obtain ⟨m1, e1, e2, e3, e4⟩ := hereR hn ht hp hP
  unfold f_X7_takeNumber
  rw [e1, Option.bind_some]
  dsimp only
  have hin : f_X7_in (Int32.toInt64 (ltr tx n (sk tx n p))) 48 57 m1 = if nQ tx n p = sk tx n p then 0 else 1 := by
    unfold ltr
    by_cases h : sk tx n p < n
    · rw [if_pos h, in_dig (ht _ h)]
      by_cases hd : dig (tx (sk tx n p))
      · rw [if_pos hd, if_neg (fun q => (nQ_eq.mp q) ⟨h, hd⟩)]
      · rw [if_neg hd, if_pos (nQ_eq.mpr (fun q => hd q.2))]
    · rw [if_neg h, in_dig1, if_pos (nQ_eq.mpr (fun q => h q.1))]
  rw [hin, bdE]
  by_cases h1 : nQ tx n p = sk tx n p
  · have hc : nC tx n p a b = 1 := by unfold nC; rw [if_pos h1]
    rw [if_pos h1, if_pos rfl, hc, e2.2.1, h1]
    refine ⟨up2 m1 144 11 (nI (sk tx n p)), rfl, ⟨by rw [up2_ne (by omega)]; exact e2.1, by rw [up2_ne (by omega)]; exact e2.2.1, fun k hk => by rw [up2_ro (by decide)]; exact e2.2.2 k hk⟩, ⟨fun r hr => by rw [up2_ro hr, e3 r hr], fun k hk => by rw [up2_ne (by omega), e4 k (by omega)], fun q => absurd q (by decide), fun _ => up2_eq _ _ _ _⟩, fun q => absurd q (by decide)⟩
  · rw [if_neg h1, if_neg one_ne, bdE, bdE, e2.2.1]
    have hP2 : PR (up2 (up2 m1 144 14 (nI (sk tx n p))) 144 13 0) tx n (sk tx n p) := ⟨by rw [up2_ne (by omega), up2_ne (by omega)]; exact e2.1, by rw [up2_ne (by omega), up2_ne (by omega)]; exact e2.2.1, fun k hk => by rw [up2_ro (by decide), up2_ro (by decide)]; exact e2.2.2 k hk⟩
    obtain ⟨m2, u', g1, g2, g3, g4, g5, g6, g7⟩ := numLR (s := sk tx n p) (l1 := nI a) (l2 := nI b) (l3 := ltr tx n (sk tx n p)) hn ht (n - sk tx n p) 0 FU 0 _ (by omega) (by omega) hP2 (up2_eq _ _ _ _) (by omega) (fun _ => rfl)
    have g2 : PR m2 tx n (nQ tx n p) := g2
    have g5 : nQ tx n p - sk tx n p ≤ 3 → u' = vlF tx (sk tx n p) (nQ tx n p - sk tx n p) := g5
    have h14 : m2 144 14 = nI (sk tx n p) := by rw [g7 14 (by decide) (by decide), up2_ne (by omega), up2_eq]
    have h11 : m2 144 11 = m 144 11 := by rw [g7 11 (by decide) (by decide), up2_ne (by omega), up2_ne (by omega), e4 11 (by decide)]
    have fr1 : ∀ r, r ≠ 144 → m2 r = m r := fun r hr => by rw [g6 r hr, up2_ro hr, up2_ro hr, e3 r hr]
    have fr2 : ∀ k, (k < 11 ∨ 14 < k) → m2 144 k = m 144 k := fun k hk => by rw [g7 k (by omega) (by omega), up2_ne (by omega), up2_ne (by omega), e4 k (by omega)]
    have fin : nC tx n p a b = 2 → ∃ m', (some ((f_X7_fails 2 (nI (sk tx n p)) m2).1, (f_X7_fails 2 (nI (sk tx n p)) m2).2)) = some (nI (nC tx n p a b), m') ∧ PR m' tx n (nQ tx n p) ∧ StR m m' (nC tx n p a b) (sk tx n p) ∧ (nC tx n p a b = 0 → m' 144 13 = nI (nV tx n p)) := by
      intro hc
      rw [hc]
      exact ⟨up2 m2 144 11 (nI (sk tx n p)), rfl, ⟨by rw [up2_ne (by omega)]; exact g2.1, by rw [up2_ne (by omega)]; exact g2.2.1, fun k hk => by rw [up2_ro (by decide)]; exact g2.2.2 k hk⟩, ⟨fun r hr => by rw [up2_ro hr, fr1 r hr], fun k hk => by rw [up2_ne (by omega), fr2 k hk], fun q => absurd q (by decide), fun _ => up2_eq _ _ _ _⟩, fun q => absurd q (by decide)⟩
    rw [g1, Option.bind_some, g2.2.1, h14, g3, pk_sub (by omega), inG, bdE, bdE]
    by_cases h2 : 3 < nQ tx n p - sk tx n p
    · rw [if_pos (show (3 : Int32) < nI (nQ tx n p - sk tx n p) from nI_lt (a := 3) h2 (by omega))]
      exact fin (by unfold nC; rw [if_neg h1, if_pos h2])
    · rw [if_neg (show ¬ (3 : Int32) < nI (nQ tx n p - sk tx n p) from nI_nlt (a := 3) (by omega) (by omega))]
      have hu : u' = nV tx n p := by rw [g5 (by omega)]; unfold nV; rw [show min (nQ tx n p - sk tx n p) 3 = nQ tx n p - sk tx n p by omega]
      rw [hu] at g3 ⊢
      by_cases h3 : nV tx n p < a
      · rw [if_pos (nI_lt h3 (by omega)), if_pos rfl]
        exact fin (by unfold nC; rw [if_neg h1, if_neg h2, if_pos h3])
      · rw [if_neg (nI_nlt (by omega) (by omega))]
        by_cases h4 : nV tx n p ≤ b
        · rw [if_neg (nI_nlt h4 (by omega)), if_neg one_ne]
          have hc : nC tx n p a b = 0 := by unfold nC; rw [if_neg h1, if_neg h2, if_neg h3, if_pos h4]
          rw [hc]
          exact ⟨m2, rfl, g2, ⟨fr1, fr2, fun _ => h11, fun q => absurd rfl q⟩, fun _ => g3⟩
        · rw [if_pos (nI_lt (by omega) (by omega)), if_pos rfl]
          exact fin (by unfold nC; rw [if_neg h1, if_neg h2, if_neg h3, if_neg h4])
/-- the end of a clause -/
def cEnd (tx : Nat → Nat) (n p : Nat) : Nat := if sk tx n p < n ∧ tx (sk tx n p) = 59 then 0 else 1
theorem endC {c : MM} {tx : Nat → Nat} {n p : Nat} (hn : n ≤ 240) (ht : ∀ k, k < n → tx k ≤ 255) (hp : p ≤ n) (hP : PC c tx n p) : ∃ c' q, f_X4_readEnd c = some c' ∧ PC c' tx n q ∧ q ≤ n ∧ p ≤ q ∧ (cEnd tx n p = 0 → q = sk tx n p + 1) ∧ StC c c' (cEnd tx n p) (sk tx n p) := by
  have hs := sk_le (tx := tx) hp
  obtain ⟨c1, e1, e2, e3, e4⟩ := skipC hn ht hp hP
  have f3 : c1 1 3 = c 1 3 := e4 3 (by decide)
  have f4 : c1 1 4 = c 1 4 := e4 4 (by decide)
  have mk : cEnd tx n p = 1 → ∃ c' q, some (f_X4_mark 1 (nI (sk tx n p)) c1) = some c' ∧ PC c' tx n q ∧ q ≤ n ∧ p ≤ q ∧ (cEnd tx n p = 0 → q = sk tx n p + 1) ∧ StC c c' (cEnd tx n p) (sk tx n p) := by
    intro hc
    obtain ⟨h1, h2, h3, h4, h5⟩ := mark1 1 (nI (sk tx n p)) e2
    rw [hc]
    refine ⟨_, sk tx n p, rfl, h1, hs.2, hs.1, fun q => absurd q (by decide), fun r hr => by rw [h2 r hr, e3 r hr], fun i i1 i2 i3 => by rw [h3 i i2 i3, e4 i i1], fun q => ?_, fun q1 q2 => h5 (by rw [f3]; exact q1)⟩
    rcases q with q | q
    · obtain ⟨k1, k2⟩ := h4 (by rw [f3]; exact q)
      rw [k1, k2]; exact ⟨f3, f4⟩
    · exact absurd q (by decide)
  unfold f_X4_readEnd
  rw [e1, Option.bind_some, e2.1, e2.2.1, bdE, bdE, bdE]
  by_cases h : sk tx n p < n
  · have ht' := ht _ h
    rw [if_neg (nI_ge h (by omega)), cell2 e2 hn h]
    by_cases h5 : tx (sk tx n p) = 59
    · rw [if_pos (show nI (tx (sk tx n p)) = 59 by rw [h5]; rfl), nI_1]
      have hc : cEnd tx n p = 0 := by unfold cEnd; rw [if_pos ⟨h, h5⟩]
      rw [hc]
      exact ⟨_, sk tx n p + 1, rfl, e2.to _, by omega, by omega, fun _ => rfl, fun r hr => by rw [up2_ro hr, e3 r hr], fun i i1 i2 i3 => by rw [up2_ne (Or.inr i1), e4 i i1], fun _ => ⟨by rw [up2_ne (by omega)]; exact f3, by rw [up2_ne (by omega)]; exact f4⟩, fun _ q => absurd rfl q⟩
    · rw [if_neg (show ¬ nI (tx (sk tx n p)) = 59 from nI_neI (b := 59) (by omega) (by decide) h5)]
      exact mk (by unfold cEnd; rw [if_neg (fun q => h5 q.2)])
  · rw [if_pos (nI_le (by omega) (by omega))]
    exact mk (by unfold cEnd; rw [if_neg (fun q => h q.1)])
