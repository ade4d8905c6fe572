/-! who stands out -/
theorem loL {c m : MM} {L : LG} {D fl : Nat} {so : Nat → Nat} (H : Env3 c m L D fl so) {hd : Nat → Nat} (e1 : ∀ a, a < 9 → c 29 a = nI (hd a)) (e2 : ∀ a, a < 9 → m 149 (23 + a) = nI (hd a)) : ∀ (n a : Nat) (b q : Int32), a ≤ nF L → nF L < n + a → ∃ r z z' , f_X6_loudest_L6 c n q b (nI a) = some (z, r, z') ∧ ∃ y y', f_X7_loudest_L6 m n b q (nI a) = some (r, y, y') := by
  have hF9 := H.1.1.1
  intro n
  induction n with
  | zero => intro a b q h1 h2; omega
  | succ n ih =>
    intro a b q h1 h2
    simp only [f_X6_loudest_L6, f_X7_loudest_L6, bd]
    rw [H.1.2.1.2.1, H.1.2.2.1.2.1]
    by_cases h : nF L ≤ a
    · rw [if_pos (nI_le h (by omega)), if_pos (nI_le h (by omega))]
      exact ⟨_, _, _, rfl, _, _, rfl⟩
    · have k23 : (23 : Int32) + nI a = nI (23 + a) := by rw [z23, nI_add]
      rw [if_neg (nI_ge (by omega) (by omega)), if_neg (nI_ge (by omega) (by omega)), cellC (n := 9) c rfl (by omega) (by decide), e1 a (by omega), k23, gdI (by omega) (by decide), gdI (by omega) (by decide), gdI (by omega) (by decide), nI_clamp (by omega), e2 a (by omega), nI_1]
      by_cases hq : nI (hd a) ≤ q
      · rw [if_pos hq, if_pos hq, if_pos hq]
        exact ih (a + 1) b q (by omega) (by omega)
      · rw [if_neg hq, if_neg hq, if_neg hq]
        exact ih (a + 1) _ _ (by omega) (by omega)
theorem loudX {c m : MM} {L : LG} {D fl : Nat} {so : Nat → Nat} (H : Env3 c m L D fl so) {hd : Nat → Nat} (e1 : ∀ a, a < 9 → c 29 a = nI (hd a)) (e2 : ∀ a, a < 9 → m 149 (23 + a) = nI (hd a)) : ∃ r, f_X6_loudest c = some r ∧ f_X7_loudest m = some r := by
  have hF9 := H.1.1.1
  obtain ⟨r, z, z', q1, y, y', q2⟩ := loL H e1 e2 FU 0 (-1) 0 (by omega) (by unfold FU; omega)
  refine ⟨r, ?_, ?_⟩
  · unfold f_X6_loudest; rw [show f_X6_loudest_L6 c FU 0 (-1) 0 = f_X6_loudest_L6 c FU 0 (-1) (nI 0) from rfl, q1]; rfl
  · unfold f_X7_loudest; rw [show f_X7_loudest_L6 m FU (-1) 0 0 = f_X7_loudest_L6 m FU (-1) 0 (nI 0) from rfl, q2]; rfl
theorem boL {c m : MM} {L : LG} {D : Nat} (H : Env2 c m L D) : ∀ (n a : Nat) (b q : Int32), a ≤ nF L + 1 → nF L + 1 < n + a → ∃ r z z' , f_X6_bottom_L6 c n q b (nI a) = some (z, r, z') ∧ ∃ y y', f_X7_bottom_L6 m n b q (nI a) = some (r, y, y') := by
  have hF9 := H.1.1
  intro n
  induction n with
  | zero => intro a b q h1 h2; omega
  | succ n ih =>
    intro a b q h1 h2
    simp only [f_X6_bottom_L6, f_X7_bottom_L6, bd]
    rw [H.2.1.2.1, H.2.2.1.2.1]
    by_cases h : nF L ≤ a
    · rw [if_pos (nI_le h (by omega)), if_pos (nI_le h (by omega))]
      exact ⟨_, _, _, rfl, _, _, rfl⟩
    · obtain ⟨v, hv, q1, q2⟩ := upX H (show a < nF L by omega)
      rw [if_neg (nI_ge (by omega) (by omega)), if_neg (nI_ge (by omega) (by omega)), q1, q2, Option.bind_some, Option.bind_some, bc_nI hv, bits_nI hv, Option.bind_some, nI_1]
      by_cases hq : nI (pop v) ≤ q
      · rw [if_pos hq, if_pos hq, if_pos hq]
        exact ih (a + 1) b q (by omega) (by omega)
      · rw [if_neg hq, if_neg hq, if_neg hq]
        exact ih (a + 1) _ _ (by omega) (by omega)
theorem bottomX {c m : MM} {L : LG} {D : Nat} (H : Env2 c m L D) : ∃ r, f_X6_bottom c = some r ∧ f_X7_bottom m = some r := by
  have hF9 := H.1.1
  obtain ⟨r, z, z', q1, y, y', q2⟩ := boL H FU 1 (-1) (-1) (by omega) (by unfold FU; omega)
  refine ⟨r, ?_, ?_⟩
  · unfold f_X6_bottom; rw [show f_X6_bottom_L6 c FU (-1) (-1) 1 = f_X6_bottom_L6 c FU (-1) (-1) (nI 1) from rfl, q1]; rfl
  · unfold f_X7_bottom; rw [show f_X7_bottom_L6 m FU (-1) (-1) 1 = f_X7_bottom_L6 m FU (-1) (-1) (nI 1) from rfl, q2]; rfl
/-- all words stay: both sides of one farm -/
theorem alL {c m : MM} {L : LG} {D fl : Nat} {so : Nat → Nat} (H : Env3 c m L D fl so) {a : Nat} (ha : a < nF L) (l1 : Int32) (hbit : (dw L D a).testBit 0 = true) : ∀ (n w : Nat), w ≤ nW L → nW L < n + w → (∃ z z', f_X6_leavesAllAlone_L2 (nI a) c n (nI w) = some (.inl z) ∧ f_X7_even_L25 l1 (nI a) m n 1 (nI w) = some (1, z')) ∨ (∃ z', f_X6_leavesAllAlone_L2 (nI a) c n (nI w) = some (.inr 0) ∧ f_X7_even_L25 l1 (nI a) m n 1 (nI w) = some (0, z')) := by
  have hW9 := H.1.1.2.1
  have hF9 := H.1.1.1
  intro n
  induction n with
  | zero => intro w h1 h2; omega
  | succ n ih =>
    intro w h1 h2
    simp only [f_X6_leavesAllAlone_L2, f_X7_even_L25]
    rw [H.1.2.1.1, H.1.2.2.1.1]
    by_cases h : nW L ≤ w
    · rw [if_pos (nI_le h (by omega)), if_pos (nI_le h (by omega))]
      exact Or.inl ⟨_, _, rfl, rfl⟩
    · rw [if_neg (nI_ge (by omega) (by omega)), if_neg (nI_ge (by omega) (by omega)), if_neg one_ne]
      rcases wordX H ha (show 0 < nF L by omega) (show w < nW L by omega) with ⟨u, hu, q1, q2, q3⟩ | ⟨q1, q2⟩
      · rw [show f_X6_wordAt (nI a) 0 (nI w) c = some (nI u) from q1, show f_X7_wordAt (nI a) 0 (nI w) m = some (nI u) from q3, Option.bind_some, Option.bind_some, nI_1]
        by_cases huw : u = w
        · rw [if_pos (by rw [huw]), if_pos (by rw [huw])]
          exact ih (w + 1) (by omega) (by omega)
        · rw [if_neg (nI_neI (by omega) (by omega) huw), if_neg (nI_neI (by omega) (by omega) huw)]
          obtain ⟨n, rfl⟩ : ∃ j, n = j + 1 := ⟨n - 1, by omega⟩
          refine Or.inr ?_
          simp only [f_X7_even_L25]
          rw [H.1.2.2.1.1]
          by_cases h9 : nW L ≤ w + 1
          · rw [if_pos (nI_le h9 (by omega))]; exact ⟨_, trivial, rfl⟩
          · rw [if_neg (nI_ge (by omega) (by omega))]; exact ⟨_, trivial, rfl⟩
      · rw [hbit] at q2; cases q2
theorem aloneX {c m : MM} {L : LG} {D fl : Nat} {so : Nat → Nat} (H : Env3 c m L D fl so) {a : Nat} (ha : a < nF L) (l1 : Int32) : ∃ v z, (v = 0 ∨ v = 1) ∧ f_X6_leavesAllAlone (nI a) c = some v ∧ f_X7_even_L25 l1 (nI a) m FU (if (dw L D a).testBit 0 then 1 else 0) 0 = some (v, z) := by
  have hW9 := H.1.1.2.1
  have hF9 := H.1.1.1
  have hW2 := H.1.1.2.2.2.1 (by omega)
  rw [show f_X7_even_L25 l1 (nI a) m FU (if (dw L D a).testBit 0 then 1 else 0) 0 = f_X7_even_L25 l1 (nI a) m FU (if (dw L D a).testBit 0 then 1 else 0) (nI 0) from rfl]
  unfold f_X6_leavesAllAlone
  rw [show f_X6_leavesAllAlone_L2 (nI a) c FU 0 = f_X6_leavesAllAlone_L2 (nI a) c FU (nI 0) from rfl]
  by_cases hbit : (dw L D a).testBit 0 = true
  · rw [if_pos hbit]
    rcases alL H ha l1 hbit FU 0 (by omega) (by unfold FU; omega) with ⟨z, z', q1, q2⟩ | ⟨z', q1, q2⟩
    · rw [q1, q2]; exact ⟨1, _, Or.inr rfl, rfl, rfl⟩
    · rw [q1, q2]; exact ⟨0, _, Or.inl rfl, rfl, rfl⟩
  · have hbit' : (dw L D a).testBit 0 = false := by simpa using hbit
    obtain ⟨j, hj⟩ : ∃ j, FU = j + 1 := ⟨1999, rfl⟩
    rw [if_neg hbit, hj]
    simp only [f_X6_leavesAllAlone_L2, f_X7_even_L25]
    rw [H.1.2.1.1, H.1.2.2.1.1, if_neg (nI_ge (by omega) (by omega)), if_neg (nI_ge (by omega) (by omega))]
    rcases wordX H ha (show 0 < nF L by omega) (show 0 < nW L by omega) with ⟨u, hu, q1, q2, q3⟩ | ⟨q1, q2⟩
    · rw [hbit'] at q2; cases q2
    · rw [show f_X6_wordAt (nI a) 0 (nI 0) c = some (-1) from q1, Option.bind_some, if_neg (m1_ne (by decide))]
      exact ⟨0, _, Or.inl rfl, rfl, rfl⟩
theorem evL {c m : MM} {L : LG} {D fl : Nat} {so : Nat → Nat} (H : Env3 c m L D fl so) : ∀ (n a set : Nat), 0 < a → a ≤ nF L + 1 → nF L + 1 < n + a → ∃ r z z', f_X6_even_L4 c n (nI set) (nI a) = some (r, z) ∧ f_X7_even_L4 m n (nI set) (nI a) = some (r, z') := by
  have hF9 := H.1.1.1
  intro n
  induction n with
  | zero => intro a set h0 h1 h2; omega
  | succ n ih =>
    intro a set h0 h1 h2
    simp only [f_X6_even_L4, f_X7_even_L4, bd]
    rw [H.1.2.1.2.1, H.1.2.2.1.2.1]
    by_cases h : nF L ≤ a
    · rw [if_pos (nI_le h (by omega)), if_pos (nI_le h (by omega))]
      exact ⟨_, _, _, rfl, rfl⟩
    · have ha : a < nF L := by omega
      obtain ⟨v, z, hv, q1, q2⟩ := aloneX H ha (nI set)
      rw [if_neg (nI_ge (by omega) (by omega)), if_neg (nI_ge (by omega) (by omega)), q1, (downX H.1 ha).2, Option.bind_some, Option.bind_some, show f_X7_has (nI (dw L D a)) 0 m = _ from hasD (b := 0) H.1 ha (by omega), q2, Option.bind_some, nI_1, sl_dec _ (by omega), fa_or, z0, fa_or, Nat.or_zero]
      by_cases hv0 : v = nI 0
      · rw [if_pos hv0, if_pos hv0]
        exact ih (a + 1) _ (by omega) (by omega) (by omega)
      · rw [if_neg hv0, if_neg hv0]
        exact ih (a + 1) _ (by omega) (by omega) (by omega)
theorem evenX {c m : MM} {L : LG} {D fl : Nat} {so : Nat → Nat} (H : Env3 c m L D fl so) : ∃ r, f_X6_even c = some r ∧ f_X7_even m = some r := by
  have hF9 := H.1.1.1
  have hW9 := H.1.1.2.1
  unfold f_X6_even f_X7_even
  rw [show f_X6_even_L4 c FU 0 0 = f_X6_even_L4 c FU (nI 0) (nI 0) from rfl, show f_X7_even_L4 m FU 0 1 = f_X7_even_L4 m FU (nI 0) (nI 1) from rfl]
  by_cases hF : nF L = 0
  · obtain ⟨j, hj⟩ : ∃ j, FU = j + 1 := ⟨1999, rfl⟩
    rw [hj]
    simp only [f_X6_even_L4, f_X7_even_L4]
    rw [H.1.2.1.2.1, H.1.2.2.1.2.1, hF, if_pos (show nI 0 ≤ nI 0 by decide), if_pos (show nI 0 ≤ nI 1 by decide)]
    exact ⟨_, rfl, rfl⟩
  · have e0 : f_X6_even_L4 c FU (nI 0) (nI 0) = f_X6_even_L4 c 1999 (nI 0) (nI 1) := by
      obtain ⟨j, hj⟩ : ∃ j, FU = j + 1 ∧ j = 1999 := ⟨1999, rfl, rfl⟩
      rw [hj.1, ← hj.2]
      simp only [f_X6_even_L4, bd]
      rw [H.1.2.1.2.1, if_neg (nI_ge (by omega) (by omega))]
      obtain ⟨v, z, hv, q1, q2⟩ := aloneX H (show 0 < nF L by omega) 0
      rw [q1, Option.bind_some, dw_0] at *
      have e3 : v = 0 := by
        obtain ⟨j', hj'⟩ : ∃ j, FU = j + 1 := ⟨1999, rfl⟩
        rw [hj'] at q2
        simp only [f_X7_even_L25] at q2
        rw [H.1.2.2.1.1, if_neg (show ¬ nI (nW L) ≤ 0 from nI_nle (by have := H.1.1.2.2.2.1 (by omega); omega) (by omega))] at q2
        simp at q2
        exact q2.1.symm
      rw [if_pos e3]
      rfl
    rw [e0]
    obtain ⟨r, z, z', q1, -⟩ := evL H 1999 1 0 (by omega) (by omega) (by omega)
    obtain ⟨r2, z2, z2', q3, q4⟩ := evL H FU 1 0 (by omega) (by omega) (by unfold FU; omega)
    have mono : ∀ (n a : Nat) (s : Int32) (r : Int32 × Int32), f_X6_even_L4 c n s (nI a) = some r → f_X6_even_L4 c (n + 1) s (nI a) = some r := by
      intro n
      induction n with
      | zero => intro a s r h; cases h
      | succ n ih =>
        intro a s r h
        simp only [f_X6_even_L4, bd] at h ⊢
        by_cases h9 : c 3 2 ≤ nI a
        · rw [if_pos h9] at h ⊢; exact h
        · rw [if_neg h9] at h ⊢
          rw [nI_1] at h ⊢
          cases hq : f_X6_leavesAllAlone (nI a) c with
          | none => rw [hq] at h; cases h
          | some v =>
            rw [hq, Option.bind_some] at h
            rw [Option.bind_some]
            by_cases hv : v = 0
            · rw [if_pos hv] at h ⊢; exact ih _ _ _ h
            · rw [if_neg hv] at h ⊢; exact ih _ _ _ h
    have q5 := mono 1999 1 _ _ q1
    rw [show (1999 + 1 : Nat) = FU from rfl, q3] at q5
    cases q5
    rw [q1, q4]
    exact ⟨_, rfl, rfl⟩
/-- the class's most and the reference's: -1 beside 0, or the same -/
def mostR (x y : Int32) : Prop := (x = -1 ∧ y = 0) ∨ ∃ k, 1 ≤ k ∧ k ≤ 1000 ∧ x = nI k ∧ y = nI k
theorem m1_le : ((-1 : Int32) ≤ -1) := by decide
theorem loL2 {c m : MM} {L : LG} {D fl : Nat} {so : Nat → Nat} (H : Env3 c m L D fl so) (h1f : 1 ≤ fl) : ∀ (n n2 a : Nat) (b q q2 : Int32), mostR q q2 → a ≤ nF L + 1 → nF L + 1 < n + a → nF L + 1 < n2 + a → ∃ r z z' , f_X6_longest_L6 c n q b (nI a) = some (z, r, z') ∧ ∃ y y', f_X7_longest_L6 m n2 b q2 (nI a) = some (r, y, y') := by
  have hF9 := H.1.1.1
  have hfl := H.2.1
  intro n
  induction n with
  | zero => intro n2 a b q q2 hq h1 h2; omega
  | succ n ih =>
    intro n2 a b q q2 hq h1 h2 h3
    obtain ⟨n2, rfl⟩ : ∃ j, n2 = j + 1 := ⟨n2 - 1, by omega⟩
    simp only [f_X6_longest_L6, f_X7_longest_L6, bd]
    rw [H.1.2.1.2.1, H.1.2.2.1.2.1]
    by_cases h : nF L ≤ a
    · rw [if_pos (nI_le h (by omega)), if_pos (nI_le h (by omega))]
      exact ⟨_, _, _, rfl, _, _, rfl⟩
    · have ha : a < nF L := by omega
      rw [if_neg (nI_ge (by omega) (by omega)), if_neg (nI_ge (by omega) (by omega)), H.2.2.2.1, if_neg (show ¬ nI fl ≤ 0 from nI_nle (by omega) (by omega)), (downX H.1 ha).2, Option.bind_some, show f_X7_has (nI (dw L D a)) 0 m = _ from hasD (b := 0) H.1 ha (by omega), nI_1]
      rcases hourX H h1f ha (show 0 < nF L by omega) with ⟨v, v1, v2, e1, e2, e3⟩ | ⟨e1, e2⟩
      · rw [show f_X6_hoursTo (nI a) 0 c = some (nI v) from e1, if_pos e2, if_neg one_ne, show f_X7_hoursTo (nI a) 0 m = some (nI v) from e3]
        simp only [Option.bind_some]
        have hiff : nI v ≤ q ↔ nI v ≤ q2 := by
          rcases hq with ⟨rfl, rfl⟩ | ⟨k, k1, k2, rfl, rfl⟩
          · constructor
            · intro w
              exfalso
              simp only [Int32.le_iff_toInt_le] at w
              rw [nI_toInt (by omega)] at w
              have : (-1 : Int32).toInt = -1 := by decide
              omega
            · intro w
              exact absurd w (nI_nle (by omega) (by omega))
          · exact Iff.rfl
        by_cases hle : nI v ≤ q
        · rw [if_pos hle, if_pos (hiff.mp hle), if_pos (hiff.mp hle)]
          exact ih n2 (a + 1) b q q2 hq (by omega) (by omega) (by omega)
        · rw [if_neg hle, if_neg (fun w => hle (hiff.mpr w)), if_neg (fun w => hle (hiff.mpr w))]
          exact ih n2 (a + 1) _ _ _ (Or.inr ⟨v, v1, v2, rfl, rfl⟩) (by omega) (by omega) (by omega)
      · have z : (if (dw L D a).testBit 0 = true then (1 : Int32) else 0) = 0 := by rw [e2]; rfl
        rw [show f_X6_hoursTo (nI a) 0 c = some (-1) from e1, if_pos z]
        simp only [Option.bind_some]
        have h4 : (-1 : Int32) ≤ q := by
          rcases hq with ⟨rfl, -⟩ | ⟨k, k1, k2, rfl, -⟩
          · exact m1_le
          · simp only [Int32.le_iff_toInt_le]
            rw [nI_toInt (by omega)]
            have : (-1 : Int32).toInt = -1 := by decide
            omega
        have h5 : (0 : Int32) ≤ q2 := by
          rcases hq with ⟨-, rfl⟩ | ⟨k, k1, k2, -, rfl⟩
          · decide
          · exact nI_pos' (by omega)
        rw [if_pos h4, if_pos h5, if_pos h5]
        exact ih n2 (a + 1) b q q2 hq (by omega) (by omega) (by omega)
theorem longX {c m : MM} {L : LG} {D fl : Nat} {so : Nat → Nat} (H : Env3 c m L D fl so) : ∃ r, f_X6_longest c = some r ∧ f_X7_longest m = some r := by
  have hF9 := H.1.1.1
  have hfl := H.2.1
  unfold f_X6_longest f_X7_longest
  rw [show f_X6_longest_L6 c FU (-1) (-1) 0 = f_X6_longest_L6 c FU (-1) (-1) (nI 0) from rfl, show f_X7_longest_L6 m FU (-1) 0 1 = f_X7_longest_L6 m FU (-1) 0 (nI 1) from rfl]
  by_cases hz : fl = 0
  · have hc : ∀ (n a : Nat), a ≤ nF L → nF L < n + a → ∃ z, f_X6_longest_L6 c n (-1) (-1) (nI a) = some (-1, -1, z) := by
      intro n
      induction n with
      | zero => intro a h1 h2; omega
      | succ n ih =>
        intro a h1 h2
        simp only [f_X6_longest_L6]
        rw [H.1.2.1.2.1]
        by_cases h : nF L ≤ a
        · rw [if_pos (nI_le h (by omega))]; exact ⟨_, rfl⟩
        · rw [if_neg (nI_ge (by omega) (by omega)), hour0 H hz, Option.bind_some, if_pos m1_le, nI_1]
          exact ih (a + 1) (by omega) (by omega)
    obtain ⟨z, e⟩ := hc FU 0 (by omega) (by unfold FU; omega)
    obtain ⟨j, hj⟩ : ∃ j, FU = j + 1 := ⟨1999, rfl⟩
    rw [e, hj]
    simp only [f_X7_longest_L6]
    rw [H.1.2.2.1.2.1, H.2.2.2.1, hz, if_pos (show nI 0 ≤ 0 by decide)]
    refine ⟨-1, rfl, ?_⟩
    by_cases h : nI (nF L) ≤ nI 1
    · rw [if_pos h]; rfl
    · rw [if_neg h]; rfl
  · by_cases hF : nF L = 0
    · obtain ⟨j, hj⟩ : ∃ j, FU = j + 1 := ⟨1999, rfl⟩
      rw [hj]
      simp only [f_X6_longest_L6, f_X7_longest_L6]
      rw [H.1.2.1.2.1, H.1.2.2.1.2.1, hF, if_pos (show nI 0 ≤ nI 0 by decide), if_pos (show nI 0 ≤ nI 1 by decide)]
      exact ⟨_, rfl, rfl⟩
    · have e0 : f_X6_longest_L6 c FU (-1) (-1) (nI 0) = f_X6_longest_L6 c 1999 (-1) (-1) (nI 1) := by
        obtain ⟨j, hj⟩ : ∃ j, FU = j + 1 ∧ j = 1999 := ⟨1999, rfl, rfl⟩
        rw [hj.1, ← hj.2]
        simp only [f_X6_longest_L6]
        rw [H.1.2.1.2.1, if_neg (nI_ge (by omega) (by omega))]
        rcases hourX H (by omega) (show 0 < nF L by omega) (show 0 < nF L by omega) with ⟨v, v1, v2, e1, e2, e3⟩ | ⟨e1, e2⟩
        · rw [dw_0] at e2; simp at e2
        · rw [show f_X6_hoursTo (nI 0) 0 c = some (-1) from e1, Option.bind_some, if_pos m1_le]; rfl
      obtain ⟨r, z, z', q1, y, y', q2⟩ := loL2 H (by omega) 1999 FU 1 (-1) (-1) 0 (Or.inl ⟨rfl, rfl⟩) (by omega) (by omega) (by unfold FU; omega)
      rw [e0, q1, q2]
      exact ⟨_, rfl, rfl⟩
theorem ok_told {c m : MM} (h : Rel c m) (x : Int32) : Ok c m ((f_X6_told x c).map fun r => (r, c)) ((f_X7_told x m).map fun r => (r, m)) := by
  apply ok_pure h
  obtain ⟨n, L, A, P, I0, I1, hr⟩ := id h
  have H := env3_of hr
  obtain ⟨⟨hn, t1, t2, t3⟩, h2, ⟨hI, hC, hR⟩, ⟨⟨⟨⟨s1, s2, s3, s4, s5, s6, s7⟩, ht, hl, ha1, ha2, ha3⟩, ⟨⟨r1, r2, r3, r4, r5, r6, r7⟩, rt, rl, ra1, ra2, ra3⟩, hW⟩, h4b⟩, ⟨p1, p2, p3, p4⟩, h6, h7, ⟨k, hk, e1, e2, e3⟩, ⟨j, hj, d1, d2, d3⟩⟩ := hr
  simp only [Nat.zero_add] at r1 r2 r3 r4 r5 r6 r7 ra3
  obtain ⟨v9, w1, w2⟩ := loudX H (hd := hrd A) ha3 (fun a ha => ra3 a ha)
  obtain ⟨v10, w3, w4⟩ := bottomX H.1
  obtain ⟨v11, w5, w6⟩ := evenX H
  obtain ⟨v12, w7, w8⟩ := longX H
  unfold f_X6_told f_X7_told
  rw [w1, w2, w3, w4, w5, w6, w7, w8, hC.1, hC.2.1, hR.1, hR.2.1, t1, t2, s1, s2, s3, s4, s5, s6, s7, r1, r2, r3, r4, r5, r6, r7, e1, e2, d1, d2, p2, p3]
  have hfr : (if nI (fro A) = 0 then some (0 : Int32) else some 1) = some (nI (fro A)) := by
    have := hW.2.1
    rcases (show fro A = 0 ∨ fro A = 1 by omega) with h | h
    · rw [h]; rfl
    · rw [h]; rfl
  rw [hfr]
  simp only [Option.bind_some]
  by_cases x0 : x = 0
  · rw [if_pos x0]; exact ⟨_, rfl, rfl⟩
  rw [if_neg x0]
  by_cases x1 : x = 1
  · rw [if_pos x1]; exact ⟨_, rfl, rfl⟩
  rw [if_neg x1]
  by_cases x2 : x = 2
  · rw [if_pos x2]; exact ⟨_, rfl, rfl⟩
  rw [if_neg x2]
  by_cases x3 : x = 3
  · rw [if_pos x3]; exact ⟨_, rfl, rfl⟩
  rw [if_neg x3]
  by_cases x4 : x = 4
  · rw [if_pos x4]; exact ⟨_, rfl, rfl⟩
  rw [if_neg x4]
  by_cases x5 : x = 5
  · rw [if_pos x5]; exact ⟨_, rfl, rfl⟩
  rw [if_neg x5]
  by_cases x6 : x = 6
  · rw [if_pos x6]; exact ⟨_, rfl, rfl⟩
  rw [if_neg x6]
  by_cases x7 : x = 7
  · rw [if_pos x7]; exact ⟨_, rfl, rfl⟩
  rw [if_neg x7]
  by_cases x8 : x = 8
  · rw [if_pos x8]; exact ⟨_, rfl, rfl⟩
  rw [if_neg x8]
  by_cases x9 : x = 9
  · rw [if_pos x9]; exact ⟨_, rfl, rfl⟩
  rw [if_neg x9]
  by_cases x10 : x = 10
  · rw [if_pos x10]; exact ⟨_, rfl, rfl⟩
  rw [if_neg x10]
  by_cases x11 : x = 11
  · rw [if_pos x11]; exact ⟨_, rfl, rfl⟩
  rw [if_neg x11]
  by_cases x12 : x = 12
  · rw [if_pos x12]; exact ⟨_, rfl, rfl⟩
  rw [if_neg x12]
  by_cases x13 : x = 13
  · rw [if_pos x13]; exact ⟨_, rfl, rfl⟩
  rw [if_neg x13]
  by_cases x14 : x = 14
  · rw [if_pos x14]; exact ⟨_, rfl, rfl⟩
  rw [if_neg x14]
  by_cases x15 : x = 15
  · rw [if_pos x15]; exact ⟨_, rfl, rfl⟩
  rw [if_neg x15]
  by_cases x16 : x = 16
  · rw [if_pos x16]; exact ⟨_, rfl, rfl⟩
  rw [if_neg x16]
  exact ⟨_, rfl, rfl⟩
