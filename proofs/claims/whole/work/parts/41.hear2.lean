theorem bitOr (H to a : Nat) : (H ||| 2 ^ to).testBit a = (H.testBit a || decide (to = a)) := by rw [Nat.testBit_or, Nat.testBit_two_pow]
/-- what contradicts: the set behind one more that is heard -/
def unA (H U : Nat) (A : WS) (to x : Nat) : Nat := if H.testBit to = true ∧ lat A to ≠ x + 1 then U ||| 2 ^ to else U
theorem hearR {m : MM} {L : LG} {A : WS} {H U to x sd : Nat} (hL : LI L) (hX : RX m (nF L) A) (hI : IX L A) (hh : hrs A ≤ 9300) (hHU : HU m H U A) (hHl : H < 512) (hlat : ∀ a, a < 9 → H.testBit a = true → 1 ≤ lat A a) (hto : to < 9) (hx : x < nW L) (hsd : sd ≤ 8) : ∃ m', f_X7_hears (nI to) (nI x) (nI sd) m = some m' ∧ RX m' (nF L) (hearA A to x sd) ∧ HU m' (H ||| 2 ^ to) (unA H U A to x) (hearA A to x sd) ∧ (∀ r, r ≠ 149 → r ≠ 155 → r ≠ 156 → m' r = m r) ∧ ∀ j, 32 ≤ j → j ≤ 44 → m' 149 j = m 149 j := by
  obtain ⟨⟨s1, s2, s3, s4, s5, s7⟩, hl, a1, a2, a3⟩ := hX
  have hF9 := hL.1
  have hW9 := hL.2.1
  have hlen := hI.2.2.2.2.1.1
  have hhd := hI.2.2.2.2.2.2.2.2 to hto
  have k14 : (14 : Int32) + nI to = nI (14 + to) := by rw [z14, nI_add]
  have k23 : (23 : Int32) + nI to = nI (23 + to) := by rw [z23, nI_add]
  have r23 := a3 to hto
  rw [Nat.zero_add] at r23
  obtain ⟨u1, u2⟩ := hHU to hto
  unfold f_X7_hears
  rw [k14, k23, nI_clamp (n := 14 + to) (by omega), nI_clamp (n := 23 + to) (by omega), nI_clamp (n := to) (by omega), gdI2 (by omega) (by decide), bdE, gdI2 (by omega) (by decide), gdI2 (by omega) (by decide)]
  rw [show up2 m 149 (14 + to) (nI x) 149 (23 + to) = nI (hrd A to) by rw [up2_ne (by omega)]; exact r23]
  have hj2 : (if (999999 : Int32) ≤ nI (hrd A to) then (0 : Int32) else 1) = nI (min 999999 (hrd A to + 1) - hrd A to) := by
    by_cases h9 : 999999 ≤ hrd A to
    · rw [if_pos (show (999999 : Int32) ≤ nI (hrd A to) from nI_le (a := 999999) h9 (by omega)), Nat.min_eq_left (by omega), show 999999 - hrd A to = 0 by omega]; rfl
    · rw [if_neg (show ¬ (999999 : Int32) ≤ nI (hrd A to) from nI_ge (b := 999999) (by omega) (by decide)), Nat.min_eq_right (by omega), show hrd A to + 1 - hrd A to = 1 by omega]; rfl
  rw [hj2, bdE, gdI2 (by omega) (by decide), nI_add, show hrd A to + (min 999999 (hrd A to + 1) - hrd A to) = min 999999 (hrd A to + 1) by omega, bdE, gdI2 (by omega) (by decide)]
  generalize hm1 : up2 (up2 m 149 (14 + to) (nI x)) 149 (23 + to) (nI (min 999999 (hrd A to + 1))) = m1
  have f1 : ∀ r, r ≠ 149 → m1 r = m r := fun r hr => by rw [← hm1, up2_ro hr, up2_ro hr]
  have f2 : ∀ k, k ≠ 14 + to → k ≠ 23 + to → m1 149 k = m 149 k := fun k q1 q2 => by rw [← hm1, up2_ne (Or.inr q2), up2_ne (Or.inr q1)]
  have f3 : m1 149 (14 + to) = nI x := by rw [← hm1, up2_ne (by omega), up2_eq]
  have f4 : m1 149 (23 + to) = nI (min 999999 (hrd A to + 1)) := by rw [← hm1, up2_eq]
  -- unlike
  have hU : (if m1 156 to = 0 then gd (¬ (nI to < 0 ∨ 9 ≤ to)) (if m1 155 to < 0 then some 0 else gd (¬ (nI to < 0 ∨ 9 ≤ to)) (if m1 155 to = nI x then some 0 else some 1)) else some 1) = some (if (unA H U A to x).testBit to then (1 : Int32) else 0) := by
    rw [f1 156 (by decide), f1 155 (by decide), u1, u2, gdI2 (by omega) (by decide), gdI2 (by omega) (by decide)]
    unfold unA
    by_cases hut : U.testBit to = true
    · rw [if_pos hut, if_neg one_ne]
      by_cases hc : H.testBit to = true ∧ lat A to ≠ x + 1
      · rw [if_pos hc, if_pos (by rw [bitOr]; simp)]
      · rw [if_neg hc, if_pos hut]
    · rw [if_neg hut, if_pos rfl]
      by_cases hht : H.testBit to = true
      · rw [if_pos hht]
        have hl1 := hlat to hto hht
        have hlW := hI.2.2.2.2.2.2.2.1 to hto
        obtain ⟨q, hq⟩ : ∃ q, lat A to = q + 1 := ⟨lat A to - 1, by omega⟩
        rw [hq, nI_pred, if_neg (nI_pos (by omega))]
        by_cases hqx : q = x
        · rw [if_pos (show nI q = nI x by rw [hqx]), if_neg (show ¬ (H.testBit to = true ∧ q + 1 ≠ x + 1) from fun z => z.2 (by omega)), if_neg hut]
        · rw [if_neg (nI_neI (by omega) (by omega) hqx), if_pos (show H.testBit to = true ∧ q + 1 ≠ x + 1 from ⟨hht, by omega⟩), if_pos (by rw [bitOr]; simp)]
      · rw [if_neg hht, if_pos (show (-1 : Int32) < 0 by decide), if_neg (show ¬ (H.testBit to = true ∧ lat A to ≠ x + 1) from fun q => hht q.1), if_neg hut]
  rw [hU, Option.bind_some, gdI2 (by omega) (by decide), vb_of (by split <;> simp), bdE, gdI2 (by omega) (by decide), bdE]
  generalize hm2 : up2 (up2 m1 156 to (if (unA H U A to x).testBit to then (1 : Int32) else 0)) 155 to (nI x) = m2
  have g1 : ∀ r, r ≠ 155 → r ≠ 156 → m2 r = m1 r := fun r q1 q2 => by rw [← hm2, up2_ro q1, up2_ro q2]
  have g45 : m2 149 45 = nI (lgs A).length := by rw [g1 149 (by decide) (by decide), f2 45 (by omega) (by omega)]; exact s7
  have hHU2 : HU m2 (H ||| 2 ^ to) (unA H U A to x) (hearA A to x sd) := by
    intro a ha
    obtain ⟨v1, v2⟩ := hHU a ha
    show _ = (if (H ||| 2 ^ to).testBit a then nI (if a = to then x + 1 else lat A a) - 1 else -1) ∧ _
    by_cases hat : a = to
    · subst hat
      refine ⟨?_, ?_⟩
      · rw [← hm2, up2_eq, if_pos (by rw [bitOr]; simp), if_pos rfl, nI_pred]
      · rw [← hm2, up2_ro (by decide), up2_eq]
    · have hta : ¬ to = a := fun q => hat q.symm
      refine ⟨?_, ?_⟩
      · rw [← hm2, up2_ne (Or.inr hat), up2_ro (by decide), f1 155 (by decide), v1, bitOr, if_neg hat]; simp [hta]
      · rw [← hm2, up2_ro (by decide), up2_ne (Or.inr hat), f1 156 (by decide), v2]
        have : (unA H U A to x).testBit a = U.testBit a := by
          unfold unA
          split
          · rw [bitOr]; simp [hta]
          · rfl
        rw [this]
  -- the log
  have hlog : ∃ m3, (if m2 149 45 = 20 then (f_X7_hears_L102 (nI to) (nI x) (nI sd) FU 1 m2).bind fun z9 => bd (up2 z9.2 149 45 ((z9.2 149 45) - 1)) fun μ10 => some μ10 else some m2) = some m3 ∧ (∀ r, r ≠ 149 → m3 r = m2 r) ∧ (∀ k, k < 45 → m3 149 k = m2 149 k) ∧ m3 149 45 = nI (min 19 (lgs A).length) ∧ ∀ i t, (lgs A)[i]? = some t → i < 19 → m3 149 (46 + (min 19 (lgs A).length - 1 - i)) = nI (pkL t) := by
    by_cases h20 : (lgs A).length = 20
    · obtain ⟨m3, e1, e2, e3, e4⟩ := lgR (nI to) (nI x) (nI sd) FU 1 m2 (by omega) (by omega) (by unfold FU; omega)
      refine ⟨up2 m3 149 45 (nI 19), ?_, fun r hr => by rw [up2_ro hr, e2 r hr], fun k hk => by rw [up2_ne (by omega), e3 k (by omega)], by rw [up2_eq, Nat.min_eq_left (by omega)], fun i t hi hi19 => ?_⟩
      · rw [g45, h20, if_pos (show nI 20 = 20 from rfl), show f_X7_hears_L102 (nI to) (nI x) (nI sd) FU 1 m2 = f_X7_hears_L102 (nI to) (nI x) (nI sd) FU (nI 1) m2 from rfl, e1, Option.bind_some, bdE]
        show some (up2 m3 149 45 (m3 149 45 - 1)) = _
        rw [e3 45 (by omega), g45, h20]; rfl
      · rw [Nat.min_eq_left (by omega), up2_ne (by omega), e4 _ (by omega) (by omega), g1 149 (by decide) (by decide), f2 _ (by omega) (by omega)]
        have := hl i t hi
        rw [h20] at this
        rw [← this]
        congr 1
        omega
    · refine ⟨m2, ?_, fun _ _ => rfl, fun _ _ => rfl, by rw [g45, Nat.min_eq_right (by omega)], fun i t hi hi19 => ?_⟩
      · rw [g45, if_neg (show ¬ nI (lgs A).length = 20 from nI_neI (b := 20) (by omega) (by decide) h20)]
      · rw [Nat.min_eq_right (by omega), g1 149 (by decide) (by decide), f2 _ (by omega) (by omega)]
        have := hl i t hi
        rw [Nat.zero_add] at this
        exact this
  obtain ⟨m3, e0, e1, e2, e3, e4⟩ := hlog
  have h12 : m3 149 12 = nI (hrs A) := by rw [e2 12 (by decide), g1 149 (by decide) (by decide), f2 12 (by omega) (by omega)]; exact s1
  rw [e0, Option.bind_some, e3, z46, nI_add, gdI (by omega) (by decide), nI_clamp (by omega), h12, z1000, z100, z10, pk_mul, pk_mul, pk_mul, nI_add, nI_add, nI_add, bdE, show up2 m3 149 (46 + min 19 (lgs A).length) (nI (1000 * hrs A + 100 * to + 10 * x + sd)) 149 45 = nI (min 19 (lgs A).length) by rw [up2_ne (by omega)]; exact e3, nI_1, bdE]
  have base : ∀ k, k < 45 → k ≠ 14 + to → k ≠ 23 + to → up2 (up2 m3 149 (46 + min 19 (lgs A).length) (nI (1000 * hrs A + 100 * to + 10 * x + sd))) 149 45 (nI (min 19 (lgs A).length + 1)) 149 k = m 149 k := fun k q1 q2 q3 => by rw [up2_ne (by omega), up2_ne (by omega), e2 k q1, g1 149 (by decide) (by decide), f2 k q2 q3]
  have hle : (((to, x, hrs A, sd) :: lgs A).take 20).length = min 19 (lgs A).length + 1 := by rw [List.length_take]; simp; omega
  refine ⟨_, rfl, ⟨⟨?_, ?_, ?_, ?_, ?_, ?_⟩, ?_, ?_, ?_, ?_⟩, ?_, ?_, ?_⟩
  · rw [base 12 (by omega) (by omega) (by omega)]; exact s1
  · rw [base 10 (by omega) (by omega) (by omega)]; exact s2
  · rw [base 11 (by omega) (by omega) (by omega)]; exact s3
  · rw [base 9 (by omega) (by omega) (by omega)]; exact s4
  · rw [base 13 (by omega) (by omega) (by omega)]; exact s5
  · rw [up2_eq]; show _ = nI (((to, x, hrs A, sd) :: lgs A).take 20).length; rw [hle]
  · intro i t hi
    have hi : (((to, x, hrs A, sd) :: lgs A).take 20)[i]? = some t := hi
    have hil := (List.getElem?_eq_some_iff.mp hi).1
    rw [take20] at hi
    show up2 (up2 m3 149 (46 + min 19 (lgs A).length) _) 149 45 _ 149 (0 + 46 + ((((to, x, hrs A, sd) :: lgs A).take 20).length - 1 - i)) = _
    rw [hle] at hil ⊢
    rw [if_pos (by omega)] at hi
    rw [up2_ne (by omega)]
    cases i with
    | zero =>
      rw [List.getElem?_cons_zero] at hi
      cases hi
      rw [show 0 + 46 + (min 19 (lgs A).length + 1 - 1 - 0) = 46 + min 19 (lgs A).length by omega, up2_eq]
      rfl
    | succ i =>
      rw [List.getElem?_cons_succ] at hi
      rw [up2_ne (by omega), show 0 + 46 + (min 19 (lgs A).length + 1 - 1 - (i + 1)) = 46 + (min 19 (lgs A).length - 1 - i) by omega]
      exact e4 i t hi (by omega)
  · intro a ha
    rw [Nat.zero_add, base a (by omega) (by omega) (by omega)]
    have := a1 a ha
    rw [Nat.zero_add] at this
    exact this
  · intro a ha
    show _ = nI (if a = to then x + 1 else lat A a) - 1
    rw [Nat.zero_add]
    by_cases hat : a = to
    · subst hat
      rw [if_pos rfl, nI_pred, up2_ne (by omega), up2_ne (by omega), e2 _ (by omega), g1 149 (by decide) (by decide), f3]
    · rw [if_neg hat, base _ (by omega) (by omega) (by omega)]
      have := a2 a ha
      rw [Nat.zero_add] at this
      exact this
  · intro a ha
    show _ = nI (if a = to then min 999999 (hrd A a + 1) else hrd A a)
    rw [Nat.zero_add]
    by_cases hat : a = to
    · subst hat
      rw [if_pos rfl, up2_ne (by omega), up2_ne (by omega), e2 _ (by omega), g1 149 (by decide) (by decide), f4]
    · rw [if_neg hat, base _ (by omega) (by omega) (by omega)]
      have := a3 a ha
      rw [Nat.zero_add] at this
      exact this
  · intro a ha
    rw [up2_ro (by decide), up2_ro (by decide), up2_ro (by decide), up2_ro (by decide), e1 155 (by decide), e1 156 (by decide)]
    exact hHU2 a ha
  · intro r q1 q2 q3
    rw [up2_ro q1, up2_ro q1, e1 r q1, g1 r q2 q3, f1 r q1]
  · intro j q1 q2
    exact base j (by omega) (by omega) (by omega)
