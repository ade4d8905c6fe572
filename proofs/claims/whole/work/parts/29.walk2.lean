/-! hours on the way -/
def hf (L : LG) (fl a s : Nat) : Nat := s + (4 * fa L a + fl - 1) / fl
theorem hf_le {L : LG} (hI : LI L) {fl a s : Nat} (h1 : 1 ≤ fl) (hfl : fl ≤ 9) (h0 : 0 < a) (hF : a < nF L) : s + 1 ≤ hf L fl a s ∧ hf L fl a s ≤ s + 36 := by
  obtain ⟨-, q1, q2, -⟩ := hI.2.2.2.2.2 a h0 hF
  unfold hf
  constructor
  · have : 1 ≤ (4 * fa L a + fl - 1) / fl := (Nat.le_div_iff_mul_le (by omega)).mpr (by omega)
    omega
  · have : (4 * fa L a + fl - 1) / fl ≤ 36 := by
      rw [Nat.div_le_iff_le_mul_add_pred (by omega)]
      have e : 36 ≤ fl * 36 := by omega
      omega
    omega
theorem hf_nI {L : LG} (hI : LI L) {fl a s : Nat} (h1 : 1 ≤ fl) (hfl : fl ≤ 9) (h0 : 0 < a) (hF : a < nF L) : nI s + ((4 * nI (fa L a) + nI fl) - 1) / nI fl = nI (hf L fl a s) := by
  obtain ⟨-, q1, q2, -⟩ := hI.2.2.2.2.2 a h0 hF
  unfold hf
  rw [z4, pk_mul, nI_add, show 4 * fa L a + fl = (4 * fa L a + fl - 1) + 1 by omega, nI_pred, dv_nI (by omega) (by omega) (by omega), nI_add]
  rfl
theorem hoC {c m : MM} {L : LG} {D fl : Nat} {so : Nat → Nat} (H : Env3 c m L D fl so) (h1f : 1 ≤ fl) {b : Nat} (hb : b < nF L) (l1 : Int32) : ∀ (k a : Nat), a < nF L → a < k → k ≤ 9 → ∀ (x n step : Nat), x + 36 * a ≤ 1000 → step + a ≤ 8 → a < n → (∃ q, f_X6_hoursTo_L24 l1 (nI b) (nI fl) c n (nI x) (nI a) (nI step) = some (.inl q) ∧ wlk L D b (hf L fl) k a x = none) ∨ ∃ v, x + 1 ≤ v ∧ v ≤ 1000 ∧ f_X6_hoursTo_L24 l1 (nI b) (nI fl) c n (nI x) (nI a) (nI step) = some (.inr (nI v)) ∧ wlk L D b (hf L fl) k a x = some v := by
  obtain ⟨⟨hI, hC, hR, hD, hc, hm⟩, hfl, e1, e2, e3, e4, e5⟩ := H
  have hF9 := hI.1
  intro k
  induction k with
  | zero => intro a _ h; omega
  | succ k ih =>
    intro a hF h hk9 x n step hx h1 h2
    obtain ⟨n, rfl⟩ : ∃ j, n = j + 1 := ⟨n - 1, by omega⟩
    simp only [f_X6_hoursTo_L24, f_X1_toGoFrom, wlk, bd]
    rw [if_neg (show ¬ (9 : Int32) ≤ nI step from nI_ge (b := 9) (by omega) (by decide))]
    by_cases h0 : a = 0
    · subst h0
      rw [if_pos (show nI 0 = 0 from rfl), if_pos rfl]
      exact Or.inl ⟨_, rfl, rfl⟩
    · have hxl := (hI.2.2.2.2.2 a (by omega) hF).1
      obtain ⟨b1, b2⟩ := hf_le (s := x) hI h1f hfl (by omega : 0 < a) hF
      rw [if_neg (show ¬ nI a = 0 from nI_neI (b := 0) (by omega) (by decide) h0), if_neg h0, cellC (n := 9) c rfl (by omega) (by decide), show 3 + 2 = 5 from rfl, cellC (n := 9) c rfl (by omega) (by decide), (hC.2.2 a hF).1, (hC.2.2 a hF).2.1, gd_t (show ¬ nI fl = 0 from nI_neI (b := 0) (by omega) (by decide) (by omega)), hf_nI hI h1f hfl (by omega) hF]
      by_cases hb2 : nx L a = b
      · rw [if_pos (by rw [hb2]), if_pos hb2]
        exact Or.inr ⟨_, b1, by omega, rfl, rfl⟩
      · rw [if_neg (nI_neI (by omega) (by omega) hb2), if_neg hb2, onFrom hD hc (by omega), nI_1]
        by_cases hd : D.testBit (nx L a) = true
        · rw [if_pos hd, if_pos hd]
          obtain ⟨n, rfl⟩ : ∃ j, n = j + 1 := ⟨n - 1, by omega⟩
          simp only [f_X6_hoursTo_L24]
          rw [if_neg (show ¬ (9 : Int32) ≤ nI (step + 1) from nI_ge (b := 9) (by omega) (by decide))]
          exact Or.inl ⟨_, rfl, trivial⟩
        · rw [if_neg hd, if_neg hd]
          rcases ih (nx L a) (by omega) (by omega) (by omega) (hf L fl a x) n (step + 1) (by omega) (by omega) (by omega) with q | ⟨v, v1, v2, v3, v4⟩
          · exact Or.inl q
          · exact Or.inr ⟨v, by omega, v2, v3, v4⟩
theorem hoR {c m : MM} {L : LG} {D fl : Nat} {so : Nat → Nat} (H : Env3 c m L D fl so) (h1f : 1 ≤ fl) {b : Nat} (hb : b < nF L) (l1 : Int32) : ∀ (k a : Nat), a < nF L → ∀ (x v n : Nat), x + 36 * a ≤ 1000 → a < n → wlk L D b (hf L fl) k a x = some v → b < a ∧ f_X7_hoursTo_L5 l1 (nI b) m n (nI a) (nI x) = some (nI b, nI v) := by
  obtain ⟨⟨hI, hC, hR, hD, hc, hm⟩, hfl, e1, e2, e3, e4, e5⟩ := H
  have hF9 := hI.1
  intro k
  induction k with
  | zero => intro a _ x v n _ _ h; cases h
  | succ k ih =>
    intro a hF x v n hx hn hw
    obtain ⟨n, rfl⟩ : ∃ j, n = j + 1 := ⟨n - 1, by omega⟩
    unfold wlk at hw
    by_cases h0 : a = 0
    · rw [if_pos h0] at hw; cases hw
    · have hxl := (hI.2.2.2.2.2 a (by omega) hF).1
      obtain ⟨b1, b2⟩ := hf_le (s := x) hI h1f hfl (by omega : 0 < a) hF
      rw [if_neg h0] at hw
      have key : ∀ hne : ¬ a = b, f_X7_hoursTo_L5 l1 (nI b) m (n + 1) (nI a) (nI x) = f_X7_hoursTo_L5 l1 (nI b) m n (nI (nx L a)) (nI (hf L fl a x)) := by
        intro hne
        simp only [f_X7_hoursTo_L5, bd]
        rw [if_neg (nI_neI (by omega) (by omega) hne), gdI (by omega) (by decide), e2, gd_t (show ¬ nI fl = 0 from nI_neI (b := 0) (by omega) (by decide) (by omega)), gdI (by omega) (by decide), nI_clamp (by omega), (hR.2.2.2 a hF).1, (hR.2.2.2 a hF).2.1, hf_nI hI h1f hfl (by omega) hF]
      by_cases hb2 : nx L a = b
      · rw [if_pos hb2] at hw
        cases hw
        refine ⟨by omega, ?_⟩
        rw [key (by omega), hb2]
        obtain ⟨n, rfl⟩ : ∃ j, n = j + 1 := ⟨n - 1, by omega⟩
        simp only [f_X7_hoursTo_L5, ↓reduceIte]
      · rw [if_neg hb2] at hw
        by_cases hd : D.testBit (nx L a) = true
        · rw [if_pos hd] at hw; cases hw
        · rw [if_neg hd] at hw
          obtain ⟨q1, q2⟩ := ih (nx L a) (by omega) (hf L fl a x) v n (by omega) (by omega) hw
          exact ⟨by omega, by rw [key (by omega)]; exact q2⟩
theorem hourX {c m : MM} {L : LG} {D fl : Nat} {so : Nat → Nat} (H : Env3 c m L D fl so) (h1f : 1 ≤ fl) {a b : Nat} (ha : a < nF L) (hb : b < nF L) :
    (∃ v, 1 ≤ v ∧ v ≤ 1000 ∧ f_X6_hoursTo (nI a) (nI b) c = some (nI v) ∧ (dw L D a).testBit b = true ∧ f_X7_hoursTo (nI a) (nI b) m = some (nI v)) ∨ (f_X6_hoursTo (nI a) (nI b) c = some (-1) ∧ (dw L D a).testBit b = false) := by
  have hF9 := H.1.1.1
  have hfl := H.2.1
  have hbit := wlk_bit H.1.1 D b (hf L fl) 9 a 0 ha (by omega)
  have e0 : f_X6_hoursTo (nI a) (nI b) c = (f_X6_hoursTo_L24 (nI a) (nI b) (nI fl) c FU (nI 0) (nI a) (nI 0)).bind fun z6 => Sum.elim (fun y7 => some (-1)) (fun r => some r) z6 := by
    simp only [f_X6_hoursTo, bd]
    rw [H.2.2.1, if_pos (show (1 : Int32) ≤ nI fl from nI_le (a := 1) h1f (by omega))]
    rfl
  rcases hoC H h1f hb (nI a) 9 a ha (by omega) (by omega) 0 FU 0 (by omega) (by omega) (by unfold FU; omega) with ⟨q, e1, e2⟩ | ⟨v, hv, hv2, e1, e2⟩
  · refine Or.inr ⟨?_, by rw [hbit, e2]; rfl⟩
    rw [e0, e1]; rfl
  · refine Or.inl ⟨v, by omega, hv2, ?_, by rw [hbit, e2]; rfl, ?_⟩
    · rw [e0, e1]; rfl
    · unfold f_X7_hoursTo
      rw [show f_X7_hoursTo_L5 (nI a) (nI b) m FU (nI a) 0 = f_X7_hoursTo_L5 (nI a) (nI b) m FU (nI a) (nI 0) from rfl, (hoR H h1f hb (nI a) 9 a ha 0 v FU (by omega) (by unfold FU; omega) e2).2]; rfl
theorem hour0 {c m : MM} {L : LG} {D fl : Nat} {so : Nat → Nat} (H : Env3 c m L D fl so) (h0 : fl = 0) (x y : Int32) : f_X6_hoursTo x y c = some (-1) := by
  simp only [f_X6_hoursTo, bd]
  rw [H.2.2.1, h0, if_neg (by decide)]
theorem ok_takes {c m : MM} (h : Rel c m) (x y : Int32) : Ok c m ((f_X6_takes x y c).map fun r => (r, c)) ((f_X7_takes x y m).map fun r => (r, m)) := by
  apply ok_pure h
  obtain ⟨n, L, A, P, I0, I1, hr⟩ := id h
  have H := env3_of hr
  have H2 := H.1
  simp only [f_X6_takes, f_X7_takes, bd]
  rcases farm_cs H2.1 H2.2.1 H2.2.2.1 x with ⟨a, ha, rfl, e1, e2⟩ | ⟨e1, e2⟩
  · rcases farm_cs H2.1 H2.2.1 H2.2.2.1 y with ⟨b, hb, rfl, d1, d2⟩ | ⟨d1, d2⟩
    · rw [e1, e2, if_neg one_ne, if_neg one_ne, d1, d2, if_neg one_ne, if_neg one_ne, (downX H2 ha).2, Option.bind_some, hasD H2 ha hb, H.2.2.2.1]
      by_cases hz : flw A = 0
      · rw [hour0 H hz, hz, if_pos (show nI 0 ≤ 0 by decide)]
        by_cases hbit : (dw L (dmm A) a).testBit b = true
        · rw [if_pos hbit]; exact ⟨_, rfl, rfl⟩
        · rw [if_neg hbit]; exact ⟨_, rfl, rfl⟩
      · have hfl := H.2.1
        rw [if_neg (show ¬ nI (flw A) ≤ 0 from nI_nle (by omega) (by omega))]
        rcases hourX H (by omega) ha hb with ⟨v, v1, v2, q1, q2, q3⟩ | ⟨q1, q2⟩
        · rw [q1, if_pos q2, if_neg one_ne, q3]; exact ⟨_, rfl, rfl⟩
        · rw [q1, q2]; exact ⟨_, rfl, rfl⟩
    · rw [e1, e2, if_neg one_ne, if_neg one_ne, d1, d2, if_pos rfl, if_pos rfl]; exact ⟨_, rfl, rfl⟩
  · rw [e1, e2, if_pos rfl, if_pos rfl]; exact ⟨_, rfl, rfl⟩
/-! words that become a told one -/
theorem m1_ne {v : Nat} (h : v < 2 ^ 31) : ¬ (-1 : Int32) = nI v := by
  intro q
  have h1 : (nI v).toInt = (v : Int) := nI_toInt h
  rw [← q] at h1
  have : (-1 : Int32).toInt = -1 := by decide
  omega
theorem wfL {c m : MM} {L : LG} {D fl : Nat} {so : Nat → Nat} (H : Env3 c m L D fl so) {a b v : Nat} (ha : a < nF L) (hb : b < nF L) (hv : v < nW L) (hbit : (dw L D a).testBit b = true) : ∀ (n w set : Nat), w ≤ nW L → nW L < n + w → set < 512 → ∃ s z z', s < 512 ∧ f_X6_wordsFor_L6 (nI a) (nI b) (nI v) c n (nI set) (nI w) = some (nI s, z) ∧ f_X7_wordsFor_L6 (nI a) (nI b) (nI v) m n (nI set) (nI w) = some (nI s, z') := by
  have hW9 := H.1.1.2.1
  intro n
  induction n with
  | zero => intro w set h1 h2; omega
  | succ n ih =>
    intro w set h1 h2 h3
    simp only [f_X6_wordsFor_L6, f_X7_wordsFor_L6, bd]
    rw [H.1.2.1.1, H.1.2.2.1.1]
    by_cases h : nW L ≤ w
    · rw [if_pos (nI_le h (by omega)), if_pos (nI_le h (by omega))]
      exact ⟨_, _, _, h3, rfl, rfl⟩
    · rw [if_neg (nI_ge (by omega) (by omega)), if_neg (nI_ge (by omega) (by omega)), (downX H.1 ha).2, Option.bind_some, hasD H.1 ha hb, if_pos hbit, if_neg one_ne]
      rcases wordX H ha hb (show w < nW L by omega) with ⟨u, hu, q1, q2, q3⟩ | ⟨q1, q2⟩
      · rw [q1, q3, Option.bind_some, Option.bind_some, nI_1, sl_dec _ (by omega), fa_or, z0, fa_or, Nat.or_zero]
        by_cases huv : u = v
        · rw [if_pos (by rw [huv]), if_pos (by rw [huv])]
          exact ih (w + 1) _ (by omega) (by omega) (or_lt h3 (two_lt (by omega)))
        · rw [if_neg (nI_neI (by omega) (by omega) huv), if_neg (nI_neI (by omega) (by omega) huv)]
          exact ih (w + 1) _ (by omega) (by omega) h3
      · rw [hbit] at q2; cases q2
theorem wfN {c m : MM} {L : LG} {D fl : Nat} {so : Nat → Nat} (H : Env3 c m L D fl so) {a b v : Nat} (ha : a < nF L) (hb : b < nF L) (hv : v < nW L) (hbit : (dw L D a).testBit b = false) : ∀ (n w set : Nat), w ≤ nW L → nW L < n + w → ∃ z, f_X6_wordsFor_L6 (nI a) (nI b) (nI v) c n (nI set) (nI w) = some (nI set, z) := by
  have hW9 := H.1.1.2.1
  intro n
  induction n with
  | zero => intro w set h1 h2; omega
  | succ n ih =>
    intro w set h1 h2
    simp only [f_X6_wordsFor_L6, bd]
    rw [H.1.2.1.1]
    by_cases h : nW L ≤ w
    · rw [if_pos (nI_le h (by omega))]
      exact ⟨_, rfl⟩
    · rw [if_neg (nI_ge (by omega) (by omega))]
      rcases wordX H ha hb (show w < nW L by omega) with ⟨u, hu, q1, q2, q3⟩ | ⟨q1, q2⟩
      · rw [hbit] at q2; cases q2
      · rw [q1, Option.bind_some, nI_1, if_neg (m1_ne (by omega))]
        exact ih (w + 1) _ (by omega) (by omega)
theorem wordsX {c m : MM} {L : LG} {D fl : Nat} {so : Nat → Nat} (H : Env3 c m L D fl so) {a b v : Nat} (ha : a < nF L) (hb : b < nF L) (hv : v < nW L) : ∃ s, s < 512 ∧ f_X6_wordsFor (nI a) (nI b) (nI v) c = some (nI s) ∧ f_X7_wordsFor (nI a) (nI b) (nI v) m = some (nI s) := by
  have hW9 := H.1.1.2.1
  unfold f_X6_wordsFor f_X7_wordsFor
  rw [show f_X6_wordsFor_L6 (nI a) (nI b) (nI v) c FU 0 0 = f_X6_wordsFor_L6 (nI a) (nI b) (nI v) c FU (nI 0) (nI 0) from rfl, show f_X7_wordsFor_L6 (nI a) (nI b) (nI v) m FU 0 0 = f_X7_wordsFor_L6 (nI a) (nI b) (nI v) m FU (nI 0) (nI 0) from rfl]
  by_cases hbit : (dw L D a).testBit b = true
  · obtain ⟨s, z, z', h1, h2, h3⟩ := wfL H ha hb hv hbit FU 0 0 (by omega) (by unfold FU; omega) (by decide)
    rw [h2, h3]
    exact ⟨s, h1, rfl, rfl⟩
  · have hbit' : (dw L D a).testBit b = false := by simpa using hbit
    obtain ⟨z, h2⟩ := wfN H ha hb hv hbit' FU 0 0 (by omega) (by unfold FU; omega)
    have h3 : ∃ z', f_X7_wordsFor_L6 (nI a) (nI b) (nI v) m FU (nI 0) (nI 0) = some (nI 0, z') := by
      obtain ⟨j, hj⟩ : ∃ j, FU = j + 1 := ⟨1999, rfl⟩
      rw [hj]
      simp only [f_X7_wordsFor_L6, bd]
      rw [H.1.2.2.1.1]
      by_cases h : nW L ≤ 0
      · rw [if_pos (nI_le h (by omega))]; exact ⟨_, rfl⟩
      · rw [if_neg (nI_ge (by omega) (by omega)), (downX H.1 ha).2, Option.bind_some, hasD H.1 ha hb, hbit']
        exact ⟨_, rfl⟩
    obtain ⟨z', h3⟩ := h3
    rw [h2, h3]
    exact ⟨0, by decide, rfl, rfl⟩
theorem ok_toSay {c m : MM} (h : Rel c m) (x y z : Int32) : Ok c m ((f_X6_toSay x y z c).map fun r => (r, c)) ((f_X7_toSay x y z m).map fun r => (r, m)) := by
  apply ok_pure h
  obtain ⟨n, L, A, P, I0, I1, hr⟩ := id h
  have H := env3_of hr
  have H2 := H.1
  simp only [f_X6_toSay, f_X7_toSay, bd]
  rcases farm_cs H2.1 H2.2.1 H2.2.2.1 x with ⟨a, ha, rfl, e1, e2⟩ | ⟨e1, e2⟩
  · rcases farm_cs H2.1 H2.2.1 H2.2.2.1 y with ⟨b, hb, rfl, d1, d2⟩ | ⟨d1, d2⟩
    · rcases word_cs H2.1 H2.2.1 H2.2.2.1 z with ⟨w, hw, rfl, g1, g2⟩ | ⟨g1, g2⟩
      · obtain ⟨s, hs, q1, q2⟩ := wordsX H ha hb hw
        rw [e1, e2, if_neg one_ne, if_neg one_ne, d1, d2, if_neg one_ne, if_neg one_ne, g1, g2, if_neg one_ne, if_neg one_ne, q1, q2]
        exact ⟨_, rfl, rfl⟩
      · rw [e1, e2, if_neg one_ne, if_neg one_ne, d1, d2, if_neg one_ne, if_neg one_ne, g1, g2, if_pos rfl, if_pos rfl]; exact ⟨_, rfl, rfl⟩
    · rw [e1, e2, if_neg one_ne, if_neg one_ne, d1, d2, if_pos rfl, if_pos rfl]; exact ⟨_, rfl, rfl⟩
  · rw [e1, e2, if_pos rfl, if_pos rfl]; exact ⟨_, rfl, rfl⟩
theorem orL {c m : MM} {L : LG} {D fl : Nat} {so : Nat → Nat} (H : Env3 c m L D fl so) {b v : Nat} (hb : b < nF L) (hv : v < nW L) (l3 : Int32) : ∀ (n a : Nat) (s : Int32), a ≤ nF L → nF L < n + a → ∃ r z z', f_X6_origin_L51 (nI b) (nI v) l3 c n s (nI a) = some (r, z) ∧ f_X7_origin_L51 (nI b) (nI v) l3 m n s (nI a) = some (r, z') := by
  have hF9 := H.1.1.1
  intro n
  induction n with
  | zero => intro a s h1 h2; omega
  | succ n ih =>
    intro a s h1 h2
    simp only [f_X6_origin_L51, f_X7_origin_L51, bd]
    rw [H.1.2.1.2.1, H.1.2.2.1.2.1]
    by_cases h : nF L ≤ a
    · rw [if_pos (nI_le h (by omega)), if_pos (nI_le h (by omega))]
      exact ⟨_, _, _, rfl, rfl⟩
    · obtain ⟨u, hu, q1, q2⟩ := wordsX H (show a < nF L by omega) hb hv
      rw [if_neg (nI_ge (by omega) (by omega)), if_neg (nI_ge (by omega) (by omega)), q1, q2, Option.bind_some, Option.bind_some, bits_nI hu, bc_nI hu, Option.bind_some, nI_1]
      exact ih (a + 1) _ (by omega) (by omega)
theorem ok_origin {c m : MM} (h : Rel c m) (x y z : Int32) : Ok c m ((f_X6_origin x y z c).map fun r => (r, c)) ((f_X7_origin x y z m).map fun r => (r, m)) := by
  apply ok_pure h
  obtain ⟨n, L, A, P, I0, I1, hr⟩ := id h
  have H := env3_of hr
  have H2 := H.1
  have hF9 := H2.1.1
  simp only [f_X6_origin, f_X7_origin, bd]
  rcases farm_cs H2.1 H2.2.1 H2.2.2.1 x with ⟨b, hb, rfl, e1, e2⟩ | ⟨e1, e2⟩
  · rcases word_cs H2.1 H2.2.1 H2.2.2.1 y with ⟨v, hv, rfl, d1, d2⟩ | ⟨d1, d2⟩
    · rw [e1, e2, if_neg one_ne, if_neg one_ne, d1, d2, if_neg one_ne, if_neg one_ne]
      by_cases hz : z = -1
      · rw [if_pos hz, if_pos hz, if_pos hz, if_pos hz]
        obtain ⟨r, z1, z2, q1, q2⟩ := orL H hb hv z FU 0 0 (by omega) (by unfold FU; omega)
        rw [show f_X6_origin_L51 (nI b) (nI v) z c FU 0 0 = f_X6_origin_L51 (nI b) (nI v) z c FU 0 (nI 0) from rfl, show f_X7_origin_L51 (nI b) (nI v) z m FU 0 0 = f_X7_origin_L51 (nI b) (nI v) z m FU 0 (nI 0) from rfl, q1, q2]
        exact ⟨_, rfl, rfl⟩
      · rw [if_neg hz, if_neg hz, if_neg hz, if_neg hz]
        rcases farm_cs H2.1 H2.2.1 H2.2.2.1 z with ⟨a, ha, rfl, g1, g2⟩ | ⟨g1, g2⟩
        · obtain ⟨s, hs, q1, q2⟩ := wordsX H ha hb hv
          rw [g1, g2, if_neg one_ne, if_neg one_ne, q1, q2]
          exact ⟨_, rfl, rfl⟩
        · rw [g1, g2, if_pos rfl, if_pos rfl]; exact ⟨_, rfl, rfl⟩
    · rw [e1, e2, if_neg one_ne, if_neg one_ne, d1, d2, if_pos rfl, if_pos rfl]; exact ⟨_, rfl, rfl⟩
  · rw [e1, e2, if_pos rfl, if_pos rfl]; exact ⟨_, rfl, rfl⟩
