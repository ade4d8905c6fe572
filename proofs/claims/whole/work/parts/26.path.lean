/-! bits of small sets -/
theorem fa_and (a b : Nat) : nI a &&& nI b = nI (a &&& b) := by
  apply Int32.toBitVec_inj.1
  show BitVec.ofNat 32 a &&& BitVec.ofNat 32 b = BitVec.ofNat 32 (a &&& b)
  apply BitVec.eq_of_toNat_eq
  simp [Nat.and_mod_two_pow]
theorem fa_or (a b : Nat) : nI a ||| nI b = nI (a ||| b) := by
  apply Int32.toBitVec_inj.1
  show BitVec.ofNat 32 a ||| BitVec.ofNat 32 b = BitVec.ofNat 32 (a ||| b)
  apply BitVec.eq_of_toNat_eq
  simp [Nat.or_mod_two_pow]
theorem bit_dec : ∀ D, D < 512 → ∀ t, t < 9 → (sr (nI D) (nI t) &&& 1) = if D.testBit t then 1 else 0 := by decide +kernel
theorem sl_dec : ∀ t, t < 10 → sl 1 (nI t) = nI (2 ^ t) := by decide +kernel
theorem holds_nI {D t : Nat} (hD : D < 512) (ht : t < 9) (μ : MM) : f_X6_holds (nI D) (nI t) μ = if D.testBit t then 1 else 0 := by
  unfold f_X6_holds
  rw [bit_dec D hD t ht]
  by_cases h : D.testBit t = true
  · rw [if_pos h]; rfl
  · rw [if_neg h]; rfl
theorem has_nI {D t : Nat} (hD : D < 512) (ht : t < 9) (μ : MM) : f_X7_has (nI D) (nI t) μ = if D.testBit t then 1 else 0 := by
  unfold f_X7_has
  rw [bit_dec D hD t ht]
  by_cases h : D.testBit t = true
  · rw [if_pos h]; rfl
  · rw [if_neg h]; rfl
theorem or_lt {a b : Nat} (ha : a < 512) (hb : b < 512) : a ||| b < 512 := Nat.or_lt_two_pow (n := 9) ha hb
theorem two_lt {t : Nat} (ht : t < 9) : 2 ^ t < 512 := by
  have : ∀ t, t < 9 → 2 ^ t < 512 := by decide
  exact this t ht
def pop (n : Nat) : Nat := n % 2 + n / 2 % 2 + n / 4 % 2 + n / 8 % 2 + n / 16 % 2 + n / 32 % 2 + n / 64 % 2 + n / 128 % 2 + n / 256 % 2
theorem bc_dec0 : ∀ n, n < 512 → f_J6_bitCount_0f7a4 (nI n) (fun _ _ => 0) = nI (pop n) := by decide +kernel
theorem bc_nI {n : Nat} (h : n < 512) (μ : MM) : f_J6_bitCount_0f7a4 (nI n) μ = nI (pop n) := bc_dec0 n h
theorem bits_mu (x : Int32) (μ ν : MM) : ∀ (n : Nat) (a b : Int32), f_X7_bits_L4 x μ n a b = f_X7_bits_L4 x ν n a b
  | 0, a, b => rfl
  | n + 1, a, b => by
    simp only [f_X7_bits_L4, bd]
    rw [bits_mu x μ ν n]
theorem bits_FU (x : Int32) (μ : MM) : f_X7_bits x μ = (f_X7_bits_L4 x (fun _ _ => 0) 10 0 0).bind fun z => some z.1 := by
  have step : ∀ (n : Nat) (a : Int32) (k : Nat), k ≤ 9 → 9 < n + k → f_X7_bits_L4 x (fun _ _ => 0) n a (nI k) = f_X7_bits_L4 x (fun _ _ => 0) (10 - k) a (nI k) := by
    intro n
    induction n with
    | zero => intro a k h1 h2; omega
    | succ n ih =>
      intro a k h1 h2
      obtain ⟨j, hj⟩ : ∃ j, 10 - k = j + 1 := ⟨9 - k, by omega⟩
      rw [hj]
      simp only [f_X7_bits_L4, bd]
      by_cases hk : k = 9
      · subst hk; rw [if_pos (show (9 : Int32) ≤ nI 9 by decide), if_pos (show (9 : Int32) ≤ nI 9 by decide)]
      · rw [if_neg (show ¬ (9 : Int32) ≤ nI k from nI_ge (b := 9) (by omega) (by decide)), if_neg (show ¬ (9 : Int32) ≤ nI k from nI_ge (b := 9) (by omega) (by decide)), nI_1, ih _ _ (by omega) (by omega), show 10 - (k + 1) = j by omega]
  unfold f_X7_bits
  rw [bits_mu x μ (fun _ _ => 0)]
  exact congrArg (fun q => Option.bind q fun z => some z.1) (step FU 0 0 (by omega) (by unfold FU; omega))
theorem bits_dec0 : ∀ n, n < 512 → ((f_X7_bits_L4 (nI n) (fun _ _ => 0) 10 0 0).bind fun z => some z.1) = some (nI (pop n)) := by decide +kernel
theorem bits_nI {n : Nat} (h : n < 512) (μ : MM) : f_X7_bits (nI n) μ = some (nI (pop n)) := by rw [bits_FU, bits_dec0 n h]
/-! the way down -/
def dn (L : LG) (D : Nat) : Nat → Nat → Nat
  | 0, _ => 0
  | k + 1, a => if a = 0 then 0 else 2 ^ nx L a ||| (if D.testBit (nx L a) then 0 else dn L D k (nx L a))
theorem dn_fuel {L : LG} (hI : LI L) (D : Nat) : ∀ (k k' a : Nat), a < nF L → a < k → a < k' → dn L D k a = dn L D k' a
  | 0, k', a, _, h, _ => by omega
  | k + 1, 0, a, _, _, h => by omega
  | k + 1, k' + 1, a, hF, h1, h2 => by
    unfold dn
    by_cases ha : a = 0
    · rw [if_pos ha, if_pos ha]
    · have hx := (hI.2.2.2.2.2 a (by omega) hF).1
      rw [if_neg ha, if_neg ha, dn_fuel hI D k k' (nx L a) (by omega) (by omega) (by omega)]
def dw (L : LG) (D a : Nat) : Nat := dn L D 9 a
theorem dw_0 (L : LG) (D : Nat) : dw L D 0 = 0 := rfl
theorem dw_s {L : LG} (hI : LI L) (D : Nat) {a : Nat} (h0 : 0 < a) (hF : a < nF L) : dw L D a = 2 ^ nx L a ||| (if D.testBit (nx L a) then 0 else dw L D (nx L a)) := by
  have hx := (hI.2.2.2.2.2 a h0 hF).1
  have hF9 := hI.1
  unfold dw
  rw [dn, if_neg (by omega), dn_fuel hI D 8 9 (nx L a) (by omega) (by omega) (by omega)]
theorem dw_lt {L : LG} (hI : LI L) (D : Nat) : ∀ (n a : Nat), a ≤ n → a < nF L → dw L D a < 512 := by
  have hF9 := hI.1
  intro n
  induction n with
  | zero =>
    intro a h _
    obtain rfl : a = 0 := by omega
    rw [dw_0]; decide
  | succ n ih =>
    intro a h hF
    by_cases h0 : a = 0
    · subst h0; rw [dw_0]; decide
    · have hx := (hI.2.2.2.2.2 a (by omega) hF).1
      rw [dw_s hI D (by omega) hF]
      refine or_lt (two_lt (by omega)) ?_
      by_cases hd : D.testBit (nx L a) = true
      · rw [if_pos hd]; decide
      · rw [if_neg hd]; exact ih _ (by omega) (by omega)
/-- the class's and the reference's view of the land and of the dams -/
def Env2 (c m : MM) (L : LG) (D : Nat) : Prop := LI L ∧ LC c L ∧ LR m L ∧ D < 512 ∧ c 24 3 = nI D ∧ m 149 9 = nI D
theorem onFrom {c : MM} {w D t : Nat} (hD : D < 512) (hc : c w 3 = nI D) (ht : t < 9) : f_X5_goesOnFrom w (nI t) c = if D.testBit t then 0 else nI t := by
  simp only [f_X5_goesOnFrom, bd]
  rw [hc, holds_nI hD ht]
  by_cases h : D.testBit t = true
  · simp [h]
  · simp [h]
theorem stops {m : MM} {D t : Nat} (hD : D < 512) (hm : m 149 9 = nI D) (ht : t < 9) : f_X7_stopsAt (nI t) m = if t = 0 ∨ D.testBit t = true then 1 else 0 := by
  simp only [f_X7_stopsAt, bd]
  rw [hm, has_nI hD ht]
  have z : nI t = 0 ↔ t = 0 := nI_eq (b := 0) (by omega) (by decide)
  by_cases h0 : t = 0
  · subst h0; simp [nI_0]
  · rw [if_neg (fun q => h0 (z.mp q))]
    by_cases h : D.testBit t = true
    · simp [h]
    · simp [h, h0]
theorem dnC {c m : MM} {L : LG} {D : Nat} (H : Env2 c m L D) (l1 : Int32) : ∀ (k a : Nat), a ≤ k → a < nF L → ∀ (set n step : Nat), step + a ≤ 8 → a < n → ∃ y z, f_X6_downOf_L7 l1 c n (nI set) (nI a) (nI step) = some (nI (set ||| dw L D a), y, z) := by
  obtain ⟨hI, hC, hR, hD, hc, hm⟩ := H
  have hF9 := hI.1
  have at0 : ∀ (set n step : Nat), step ≤ 8 → 0 < n → ∃ y z, f_X6_downOf_L7 l1 c n (nI set) (nI 0) (nI step) = some (nI (set ||| dw L D 0), y, z) := by
    intro set n step h1 h2
    obtain ⟨n, rfl⟩ : ∃ j, n = j + 1 := ⟨n - 1, by omega⟩
    simp only [f_X6_downOf_L7]
    rw [if_neg (show ¬ (9 : Int32) ≤ nI step from nI_ge (b := 9) (by omega) (by decide)), if_pos (show nI 0 = 0 from rfl), dw_0, Nat.or_zero]
    exact ⟨_, _, rfl⟩
  intro k
  induction k with
  | zero =>
    intro a h hF set n step h1 h2
    obtain rfl : a = 0 := by omega
    exact at0 set n step (by omega) h2
  | succ k ih =>
    intro a h hF set n step h1 h2
    by_cases h0 : a = 0
    · subst h0; exact at0 set n step (by omega) h2
    · have hx := (hI.2.2.2.2.2 a (by omega) hF).1
      obtain ⟨n, rfl⟩ : ∃ j, n = j + 1 := ⟨n - 1, by omega⟩
      simp only [f_X6_downOf_L7, bd]
      rw [if_neg (show ¬ (9 : Int32) ≤ nI step from nI_ge (b := 9) (by omega) (by decide)), if_neg (show ¬ nI a = 0 from nI_neI (b := 0) (by omega) (by decide) h0), cellC (n := 9) c rfl (by omega) (by decide), (hC.2.2 a hF).1, sl_dec _ (by omega), fa_or, onFrom hD hc (by omega), nI_1, dw_s hI D (by omega) hF, ← Nat.or_assoc]
      by_cases hd : D.testBit (nx L a) = true
      · rw [if_pos hd, if_pos hd]
        have := at0 (set ||| 2 ^ nx L a) n (step + 1) (by omega) (by omega)
        rw [dw_0] at this
        exact this
      · rw [if_neg hd, if_neg hd]
        exact ih _ (by omega) (by omega) _ n (step + 1) (by omega) (by omega)
theorem dnR {c m : MM} {L : LG} {D : Nat} (H : Env2 c m L D) (l1 : Int32) : ∀ (k a : Nat), a ≤ k → a < nF L → ∀ (set n : Nat), a < n → ∃ y z, f_X7_downOf_L15 l1 m n (nI set) (nI a) (if a = 0 then 0 else 1) = some (nI (set ||| dw L D a), y, z) := by
  obtain ⟨hI, hC, hR, hD, hc, hm⟩ := H
  have hF9 := hI.1
  intro k
  induction k with
  | zero =>
    intro a h hF set n h2
    obtain rfl : a = 0 := by omega
    obtain ⟨n, rfl⟩ : ∃ j, n = j + 1 := ⟨n - 1, by omega⟩
    simp only [f_X7_downOf_L15, ↓reduceIte]
    rw [dw_0, Nat.or_zero]
    exact ⟨_, _, rfl⟩
  | succ k ih =>
    intro a h hF set n h2
    obtain ⟨n, rfl⟩ : ∃ j, n = j + 1 := ⟨n - 1, by omega⟩
    by_cases h0 : a = 0
    · subst h0
      simp only [f_X7_downOf_L15, ↓reduceIte]
      rw [dw_0, Nat.or_zero]
      exact ⟨_, _, rfl⟩
    · have hx := (hI.2.2.2.2.2 a (by omega) hF).1
      simp only [f_X7_downOf_L15, bd]
      rw [if_neg h0, if_neg one_ne, gdI (by omega) (by decide), nI_clamp (by omega), (hR.2.2.2 a hF).1, sl_dec _ (by omega), fa_or, stops hD hm (by omega), dw_s hI D (by omega) hF, ← Nat.or_assoc]
      by_cases hs : nx L a = 0 ∨ D.testBit (nx L a) = true
      · rw [if_pos hs, if_neg one_ne]
        obtain ⟨n, rfl⟩ : ∃ j, n = j + 1 := ⟨n - 1, by omega⟩
        simp only [f_X7_downOf_L15, ↓reduceIte]
        have e : (if D.testBit (nx L a) = true then 0 else dw L D (nx L a)) = 0 := by
          by_cases hd : D.testBit (nx L a) = true
          · rw [if_pos hd]
          · rw [if_neg hd]
            rcases hs with hs | hs
            · rw [hs, dw_0]
            · exact absurd hs hd
        rw [e, Nat.or_zero]
        exact ⟨_, _, rfl⟩
      · have hd : ¬ D.testBit (nx L a) = true := fun q => hs (Or.inr q)
        have hn0 : ¬ nx L a = 0 := fun q => hs (Or.inl q)
        rw [if_neg hs, if_pos rfl, if_neg hd]
        have := ih (nx L a) (by omega) (by omega) (set ||| 2 ^ nx L a) n (by omega)
        rw [if_neg hn0] at this
        exact this
theorem downX {c m : MM} {L : LG} {D : Nat} (H : Env2 c m L D) {a : Nat} (ha : a < nF L) : f_X6_downOf (nI a) c = some (nI (dw L D a)) ∧ f_X7_downOf (nI a) m = some (nI (dw L D a)) := by
  have hF9 := H.1.1
  constructor
  · obtain ⟨y, z, e⟩ := dnC H (nI a) a a (Nat.le_refl a) ha 0 FU 0 (by omega) (by unfold FU; omega)
    unfold f_X6_downOf
    rw [show (0 : Int32) = nI 0 from rfl, e, Nat.zero_or]; rfl
  · obtain ⟨y, z, e⟩ := dnR H (nI a) a a (Nat.le_refl a) ha 0 FU (by unfold FU; omega)
    simp only [f_X7_downOf, bd]
    have z0' : nI a = 0 ↔ a = 0 := nI_eq (b := 0) (by omega) (by decide)
    have e0 : (if nI a = 0 then (0 : Int32) else 1) = if a = 0 then 0 else 1 := by
      by_cases h : a = 0
      · rw [if_pos h, if_pos (z0'.mpr h)]
      · rw [if_neg h, if_neg (fun q => h (z0'.mp q))]
    rw [e0, show f_X7_downOf_L15 (nI a) m FU 0 = f_X7_downOf_L15 (nI a) m FU (nI 0) from rfl, e, Nat.zero_or]; rfl
