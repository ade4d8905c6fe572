/-! a clause of becks, a clause of a farm -/
theorem le0 {k : Nat} (hk : k ≤ 9) : (nI k ≤ 0) ↔ k = 0 := by
  constructor
  · intro h
    by_cases h0 : k = 0
    · exact h0
    · exact absurd h (nI_nle (by omega) (by omega))
  · intro h; rw [h]; decide
theorem eq0 {k : Nat} (hk : k ≤ 9) : (nI k = 0) ↔ k = 0 := by
  constructor
  · intro h
    by_cases h0 : k = 0
    · exact h0
    · exact absurd h (nI_neI (b := 0) (by omega) (by decide) h0)
  · intro h; rw [h]; rfl
/-- how a step of the reference joins a step before -/
theorem chainX {m : MM} {tx : Nat → Nat} {n q k a x y R F : Nat} (hn : n ≤ 240) (ht : ∀ k, k < n → tx k ≤ 255) (hq : q ≤ n) (hk : k ≤ 2) (hx : x ≤ 9) (hy : y ≤ 9) (hR : 151 ≤ R) (hR9 : aln R = 9) (hF : F < 9) (hP : k = 0 → PR m tx n q) (h11 : k ≠ 0 → m 144 11 = nI a) : ∃ m', (if nI k ≤ 0 then (f_X7_into R (nI F) (nI x) (nI y) m).bind fun z => some (z.1, z.2) else some (nI k, m)) = some (nI (if k = 0 then nC tx n q x y else k), m') ∧ ((if k = 0 then nC tx n q x y else k) = 0 → PR m' tx n (nQ tx n q)) ∧ (∀ r, r ≠ 144 → r ≠ R → m' r = m r) ∧ (∀ k, k ≠ F → m' R k = m R k) ∧ (∀ k, (k < 11 ∨ 14 < k) → m' 144 k = m 144 k) ∧ ((if k = 0 then nC tx n q x y else k) = 0 → m' 144 11 = m 144 11 ∧ m' R F = nI (nV tx n q)) ∧ ((if k = 0 then nC tx n q x y else k) ≠ 0 → m' 144 11 = nI (if k = 0 then sk tx n q else a)) := by
  by_cases h0 : k = 0
  · simp only [if_pos h0]
    rw [if_pos ((le0 (by omega)).mpr h0)]
    obtain ⟨m', e1, e2, e3, e4, e5, e6, e7⟩ := intoR hn ht hq hx hy hR hR9 hF (hP h0)
    rw [e1]
    exact ⟨m', rfl, fun _ => e2, e3, e4, e5, e6, e7⟩
  · simp only [if_neg h0]
    rw [if_neg (fun z => h0 ((le0 (by omega)).mp z))]
    exact ⟨m, rfl, fun z => absurd z h0, fun _ _ _ => rfl, fun _ _ => rfl, fun _ _ => rfl, fun z => absurd z h0, fun _ => h11 h0⟩
theorem kk_le {k1 k2 : Nat} (h1 : k1 ≤ 2) (h2 : k2 ≤ 2) : (if k1 = 0 then k2 else k1) ≤ 2 := by split <;> omega
theorem cEnd_le (tx : Nat → Nat) (n p : Nat) : cEnd tx n p ≤ 2 := by unfold cEnd; split <;> omega
theorem becksX {c m : MM} {tx : Nat → Nat} {n p : Nat} (hn : n ≤ 240) (ht : ∀ k, k < n → tx k ≤ 255) (hp : p ≤ n) (hC : PC c tx n p) (hR : PR m tx n p) (h3 : c 1 3 = 0) (h8 : c 8 2 = nI 0) : ∃ c' m' code, code ≤ 3 ∧ f_X4_readBecks 8 c = some c' ∧ (f_X7_takeBeck m).bind tail = some (nI code, m') ∧ ClX c m c' m' tx n p code := by
  have hs1 := sk_le (tx := tx) hp
  have hq1 := nQ_le (tx := tx) hp
  have hs2 := sk_le (tx := tx) hq1.2
  have hq2 := nQ_le (tx := tx) hq1.2
  have hs3 := sk_le (tx := tx) hq2.2
  obtain ⟨c1, a1, a2, a3⟩ := numC (a := 2) (b := 9) hn ht hp (by decide) (by decide) hC
  obtain ⟨c2, b1, b2, b3⟩ := numC (a := 0) (b := 9) hn ht hq1.2 (by decide) (by decide) a2
  obtain ⟨c3, q, d1, d2, d3, d3', d4, d5⟩ := endC hn ht hq2.2 b2
  have kl1 := nC_le tx n p 2 9
  have kl2 := nC_le tx n (nQ tx n p) 0 9
  have kl3 := cEnd_le tx n (nQ tx n (nQ tx n p))
  have S := (a3.tr b3 (by omega)).tr d5 (by have := kk_le kl1 kl2; omega)
  have a1 : f_X4_readNumber 2 9 c = some (nI (nV tx n p), c1) := a1
  have b1 : f_X4_readNumber 0 9 c1 = some (nI (nV tx n (nQ tx n p)), c2) := b1
  -- the reference
  obtain ⟨m1, e1, e2, ⟨e3, e4, e5, e6⟩, e7⟩ := numR (a := 2) (b := 9) hn ht hp (by decide) (by decide) hR
  have e1 : f_X7_takeNumber 2 9 m = some (nI (nC tx n p 2 9), m1) := e1
  have hT : ∃ m4, f_X7_takeBeck m = some (nI (if nC tx n p 2 9 = 0 then nC tx n (nQ tx n p) 0 9 else nC tx n p 2 9), m4) ∧ PR m4 tx n (if nC tx n p 2 9 = 0 then nQ tx n (nQ tx n p) else nQ tx n p) ∧ (∀ r, r ≠ 144 → m4 r = m r) ∧ (∀ k, (k < 11 ∨ 17 < k) → m4 144 k = m 144 k) ∧ ((if nC tx n p 2 9 = 0 then nC tx n (nQ tx n p) 0 9 else nC tx n p 2 9) = 0 → m4 144 11 = m 144 11 ∧ m4 144 15 = nI (nV tx n p) ∧ m4 144 16 = nI (nV tx n (nQ tx n p)) ∧ m4 144 17 = nI 1) ∧ ((if nC tx n p 2 9 = 0 then nC tx n (nQ tx n p) 0 9 else nC tx n p 2 9) ≠ 0 → m4 144 11 = nI (if nC tx n p 2 9 = 0 then sk tx n (nQ tx n p) else sk tx n p)) := by
    have hP2 : PR (up2 (up2 m1 144 15 (m1 144 13)) 144 17 1) tx n (nQ tx n p) := e2.of (by rw [up2_ne (by omega), up2_ne (by omega)]) (by rw [up2_ne (by omega), up2_ne (by omega)]) (by rw [up2_ro (by decide), up2_ro (by decide)])
    unfold f_X7_takeBeck
    rw [e1, Option.bind_some, bdE, bdE]
    by_cases k0 : nC tx n p 2 9 = 0
    · simp only [if_pos k0]
      rw [if_pos ((le0 (by omega)).mpr k0)]
      obtain ⟨m3, g1, g2, ⟨g3, g4, g5, g6⟩, g7⟩ := numR (a := 0) (b := 9) hn ht hq1.2 (by decide) (by decide) hP2
      have g1 : f_X7_takeNumber 0 9 (up2 (up2 m1 144 15 (m1 144 13)) 144 17 1) = some (nI (nC tx n (nQ tx n p) 0 9), m3) := g1
      rw [g1, Option.bind_some, Option.bind_some]
      refine ⟨up2 m3 144 16 (m3 144 13), rfl, g2.of (by rw [up2_ne (by omega)]) (by rw [up2_ne (by omega)]) (up2_ro (by decide)), fun r hr => by rw [up2_ro hr, g3 r hr, up2_ro hr, up2_ro hr, e3 r hr], fun k hk => by rw [up2_ne (by omega), g4 k (by omega), up2_ne (by omega), up2_ne (by omega), e4 k (by omega)], fun z => ⟨?_, ?_, ?_, ?_⟩, fun z => ?_⟩
      · rw [up2_ne (by omega), g5 z, up2_ne (by omega), up2_ne (by omega), e5 k0]
      · rw [up2_ne (by omega), g4 15 (by omega), up2_ne (by omega), up2_eq]; exact e7 k0
      · rw [up2_eq]; exact g7 z
      · rw [up2_ne (by omega), g4 17 (by omega), up2_eq]; rfl
      · rw [up2_ne (by omega)]; exact g6 z
    · simp only [if_neg k0]
      rw [if_neg (fun z => k0 ((le0 (by omega)).mp z)), Option.bind_some]
      refine ⟨up2 (up2 (up2 m1 144 15 (m1 144 13)) 144 17 1) 144 16 ((up2 (up2 m1 144 15 (m1 144 13)) 144 17 1) 144 13), rfl, hP2.of (by rw [up2_ne (by omega)]) (by rw [up2_ne (by omega)]) (up2_ro (by decide)), fun r hr => by rw [up2_ro hr, up2_ro hr, up2_ro hr, e3 r hr], fun k hk => by rw [up2_ne (by omega), up2_ne (by omega), up2_ne (by omega), e4 k (by omega)], fun z => absurd z k0, fun z => ?_⟩
      rw [up2_ne (by omega), up2_ne (by omega), up2_ne (by omega)]; exact e6 k0
  obtain ⟨m4, t1, t2, t3, t4, t5, t6⟩ := hT
  obtain ⟨m5, u1, u2, u3, u4, u5⟩ := tailX hn ht (by split <;> omega) (by have := kk_le kl1 kl2; omega) (fun _ => t2) t6
  have hcl : f_X4_readBecks 8 c = if c3 1 3 = 0 then some (f_X1_addFarm 8 0 0 0 0 (up2 (up2 c3 8 0 (nI (nV tx n p))) 8 1 (nI (nV tx n (nQ tx n p))))) else some c3 := by
    unfold f_X4_readBecks
    rw [a1, Option.bind_some, b1, Option.bind_some, d1, Option.bind_some, bdE, bdE, bdE]
  by_cases hk : nC tx n p 2 9 = 0
  · simp only [if_pos hk] at S t1 t2 t5 t6 u1 u4 u5
    by_cases hk2 : (if nC tx n (nQ tx n p) 0 9 = 0 then cEnd tx n (nQ tx n (nQ tx n p)) else nC tx n (nQ tx n p) 0 9) = 0
    · -- read
      have hk3 : nC tx n (nQ tx n p) 0 9 = 0 := by
        by_cases z : nC tx n (nQ tx n p) 0 9 = 0
        · exact z
        · rw [if_neg z] at hk2; exact absurd hk2 z
      have hk4 : cEnd tx n (nQ tx n (nQ tx n p)) = 0 := by rw [if_pos hk3] at hk2; exact hk2
      obtain ⟨f3, f4⟩ := S.2.2.1 (Or.inr hk2)
      have h33 : c3 1 3 = 0 := by rw [f3]; exact h3
      obtain ⟨v1a, v1b⟩ := nC_ok hk
      obtain ⟨v2a, v2b⟩ := nC_ok hk3
      obtain ⟨c4, w1, w2, w3, w4, w5, w6, w7, w8, w9⟩ := addC (c := up2 (up2 c3 8 0 (nI (nV tx n p))) 8 1 (nI (nV tx n (nQ tx n p)))) (F := 0) (a := 0) (b := 0) (d := 0) (e := 0) (by decide) (by rw [up2_ne (by omega), up2_ne (by omega), S.1 8 (by decide)]; exact h8)
      have w1 : f_X1_addFarm 8 0 0 0 0 (up2 (up2 c3 8 0 (nI (nV tx n p))) 8 1 (nI (nV tx n (nQ tx n p)))) = c4 := w1
      obtain ⟨t5a, t5b, t5c, t5d⟩ := t5 hk3
      obtain ⟨u4a, u4b⟩ := u4 hk2
      rw [hk2] at u1
      refine ⟨c4, m5, 0, by decide, by rw [hcl, if_pos h33, w1], by rw [t1, Option.bind_some, u1], fun r r1 r2 => by rw [w2 r r2, up2_ro (by omega), up2_ro (by omega), S.1 r r1], fun i i1 i2 i3 => by rw [w2 1 (by decide), up2_ro (by decide), up2_ro (by decide), S.2.1 i i1 i2 i3], fun r r1 r2 => by rw [u2 r r1, t3 r r1], fun k hk => by rw [u3 k (by omega) (by omega), t4 k hk], ⟨q, by omega, d3, ⟨by rw [w2 1 (by decide), up2_ro (by decide), up2_ro (by decide)]; exact d2.1, by rw [w2 1 (by decide), up2_ro (by decide), up2_ro (by decide)]; exact d2.2.1, fun k hk => by rw [w2 2 (by decide), up2_ro (by decide), up2_ro (by decide)]; exact d2.2.2 k hk⟩, fun _ => ?_⟩, fun _ => ⟨?_, ?_, ?_, (1, nV tx n p, fun _ => 0, fun _ => 0, fun _ => 0), nV tx n (nQ tx n p), fun _ => 0, ?_⟩, fun z => absurd rfl z⟩
      · have := d4 hk4
        exact ⟨by omega, this ▸ u4a⟩
      · rw [w2 1 (by decide), up2_ro (by decide), up2_ro (by decide)]; exact h33
      · rw [w2 1 (by decide), up2_ro (by decide), up2_ro (by decide)]; exact f4
      · rw [u4b]; exact t5a
      · refine ⟨⟨by show 1 ≤ 9; decide, by show nV tx n p ≤ 9; omega, fun z => absurd z (by show ¬ (1 = 0); decide), fun _ => by show 2 ≤ nV tx n p; omega, ⟨rfl, rfl, rfl⟩, fun a h1 h2 => ?_⟩, ⟨by omega, rfl, fun a _ => by show 0 ≤ 4; decide, fun z => absurd z (by show ¬ (1 = 0); decide)⟩, ⟨w4, ?_, ?_, ?_, fun _ => ⟨?_, ?_⟩⟩, fun a ha => ?_, fun a h1 h2 => ?_⟩
        · have h2 : a < 1 := h2
          omega
        · rw [w3 0 (by decide), up2_ne (by omega), up2_eq]
        · rw [w3 1 (by decide), up2_eq]
        · rw [u3 17 (by decide) (by decide)]; exact t5d
        · rw [u3 15 (by decide) (by decide)]; exact t5b
        · rw [u3 16 (by decide) (by decide)]; exact t5c
        · have ha : a < 1 := ha
          have : a = 0 := by omega
          subst this
          exact ⟨w6, w7, w8, w9⟩
        · have h2 : a < 1 := h2
          omega
    · -- a fault
      obtain ⟨f3, f4⟩ := S.2.2.2 h3 hk2
      have hle : (if nC tx n (nQ tx n p) 0 9 = 0 then cEnd tx n (nQ tx n (nQ tx n p)) else nC tx n (nQ tx n p) 0 9) ≤ 2 := kk_le kl2 kl3
      refine ⟨c3, m5, _, by omega, by rw [hcl, if_neg (by rw [f3]; exact fun z => hk2 ((eq0 (by omega)).mp z))], by rw [t1, Option.bind_some, u1], fun r r1 r2 => S.1 r r1, S.2.1, fun r r1 r2 => by rw [u2 r r1, t3 r r1], fun k hk => by rw [u3 k (by omega) (by omega), t4 k hk], ⟨q, by omega, d3, d2, fun z => absurd z hk2⟩, fun z => absurd z hk2, fun _ => ⟨f3, _, f4, u5 hk2⟩⟩
  · simp only [if_neg hk] at S t1 t2 t5 t6 u1 u4 u5
    obtain ⟨f3, f4⟩ := S.2.2.2 h3 hk
    refine ⟨c3, m5, _, by omega, by rw [hcl, if_neg (by rw [f3]; exact fun z => hk ((eq0 (by omega)).mp z))], by rw [t1, Option.bind_some, u1], fun r r1 r2 => S.1 r r1, S.2.1, fun r r1 r2 => by rw [u2 r r1, t3 r r1], fun k hk => by rw [u3 k (by omega) (by omega), t4 k hk], ⟨q, by omega, d3, d2, fun z => absurd z hk⟩, fun z => absurd z hk, fun _ => ⟨f3, _, f4, u5 hk⟩⟩
def upF (f : Nat → Nat) (F v : Nat) : Nat → Nat := fun a => if a = F then v else f a
theorem upF_eq (f : Nat → Nat) (F v : Nat) : upF f F v F = v := if_pos rfl
theorem upF_ne {f : Nat → Nat} {F v a : Nat} (h : a ≠ F) : upF f F v a = f a := if_neg h
theorem farmX {c m : MM} {tx : Nat → Nat} {n p : Nat} {L : LG} {f : Nat} {so : Nat → Nat} (hn : n ≤ 240) (ht : ∀ k, k < n → tx k ≤ 255) (hp : p ≤ n) (hC : PC c tx n p) (hR : PR m tx n p) (h3 : c 1 3 = 0) (hD : DR c m L f so) (hF0 : 0 < nF L) (hF9 : nF L < 9) : ∃ c' m' code, code ≤ 3 ∧ f_X4_readFarm 8 c = some c' ∧ (f_X7_takeFarm m).bind tail = some (nI code, m') ∧ ClX c m c' m' tx n p code := by
  obtain ⟨hI, ⟨D1, D2, D3, D4⟩, ⟨D5, D6, D7, D8, D9⟩, D10, D11⟩ := hD
  obtain ⟨D9a, D9b⟩ := D9 hF0
  have hW9 := hI.2.1
  have hW2 := hI.2.2.2.1 hF0
  obtain ⟨F', hF'⟩ : ∃ F', nF L = F' + 1 := ⟨nF L - 1, by omega⟩
  obtain ⟨W', hW'⟩ : ∃ W', nW L = W' + 1 := ⟨nW L - 1, by omega⟩
  have hq1 := nQ_le (tx := tx) hp
  have hq2 := nQ_le (tx := tx) hq1.2
  have hq3 := nQ_le (tx := tx) hq2.2
  have hq4 := nQ_le (tx := tx) hq3.2
  have hs1 := sk_le (tx := tx) hp
  have hs2 := sk_le (tx := tx) hq1.2
  have hs3 := sk_le (tx := tx) hq2.2
  have hs4 := sk_le (tx := tx) hq3.2
  have hs5 := sk_le (tx := tx) hq4.2
  generalize hQ1 : nQ tx n p = q1 at *
  generalize hQ2 : nQ tx n q1 = q2 at *
  generalize hQ3 : nQ tx n q2 = q3 at *
  generalize hQ4 : nQ tx n q3 = q4 at *
  obtain ⟨c1, a1, a2, a3⟩ := numC (a := 0) (b := F') hn ht hp (by decide) (by omega) hC
  rw [hQ1] at a2
  obtain ⟨c2, b1, b2, b3⟩ := numC (a := 1) (b := 9) hn ht hq1.2 (by decide) (by decide) a2
  rw [hQ2] at b2
  obtain ⟨c3, d1, d2, d3⟩ := numC (a := 0) (b := 4) hn ht hq2.2 (by decide) (by decide) b2
  rw [hQ3] at d2
  obtain ⟨c4, g1, g2, g3⟩ := numC (a := 0) (b := W') hn ht hq3.2 (by decide) (by omega) d2
  rw [hQ4] at g2
  obtain ⟨c5, q, i1, i2, i3, i4, i5, i6⟩ := endC hn ht hq4.2 g2
  have kl1 := nC_le tx n p 0 F'
  have kl2 := nC_le tx n q1 1 9
  have kl3 := nC_le tx n q2 0 4
  have kl4 := nC_le tx n q3 0 W'
  have kl5 := cEnd_le tx n q4
  generalize hK1 : nC tx n p 0 F' = k1 at *
  generalize hK2 : nC tx n q1 1 9 = k2 at *
  generalize hK3 : nC tx n q2 0 4 = k3 at *
  generalize hK4 : nC tx n q3 0 W' = k4 at *
  generalize hK5 : cEnd tx n q4 = k5 at *
  have kk2 := kk_le kl1 kl2
  have kk3 := kk_le kk2 kl3
  have kk4 := kk_le kk3 kl4
  have kk5 := kk_le kk4 kl5
  have S := (((a3.tr b3 (by omega)).tr d3 (by omega)).tr g3 (by omega)).tr i6 (by omega)
  have e82 : c 8 2 - 1 = nI F' := by rw [D5, hF', nI_pred]
  have e80 : c3 8 0 - 1 = nI W' := by rw [d3.1 8 (by decide), b3.1 8 (by decide), a3.1 8 (by decide), D6, hW', nI_pred]
  have a1 : f_X4_readNumber 0 (nI F') c = some (nI (nV tx n p), c1) := a1
  have b1 : f_X4_readNumber 1 9 c1 = some (nI (nV tx n q1), c2) := b1
  have d1 : f_X4_readNumber 0 4 c2 = some (nI (nV tx n q2), c3) := d1
  have g1 : f_X4_readNumber 0 (nI W') c3 = some (nI (nV tx n q3), c4) := g1
  have hcl : f_X4_readFarm 8 c = if c5 1 3 = 0 then some (f_X1_addFarm 8 (nI (nV tx n p)) (nI (nV tx n q1)) (nI (nV tx n q2)) (nI (nV tx n q3)) c5) else some c5 := by
    unfold f_X4_readFarm
    rw [e82, a1, Option.bind_some, b1, Option.bind_some, d1, Option.bind_some, e80, g1, Option.bind_some, i1, Option.bind_some, bdE]
  -- the reference
  obtain ⟨m1, r1, r2, r3, r4, r5, r6, r7⟩ := intoR (a := 0) (b := F') (R := 151) (F := nF L) hn ht hp (by decide) (by omega) (by decide) rfl hF9 hR
  rw [hQ1] at r2
  rw [hK1] at r1 r6 r7
  have hP1 : PR (up2 m1 144 17 (nI (nF L + 1))) tx n q1 := r2.of (up2_ne (by omega)) (up2_ne (by omega)) (up2_ro (by decide))
  obtain ⟨m2, s1, s2, s3, s4, s5, s6, s7⟩ := chainX (k := k1) (a := sk tx n p) (x := 1) (y := 9) (R := 152) (F := nF L) hn ht hq1.2 kl1 (by decide) (by decide) (by decide) rfl hF9 (fun _ => hP1) (fun z => by rw [up2_ne (by omega)]; exact r7 z)
  rw [hK2] at s1 s2 s6 s7
  rw [hQ2] at s2
  obtain ⟨m3, t1, t2, t3, t4, t5, t6, t7⟩ := chainX (x := 0) (y := 4) (R := 153) (F := nF L) hn ht hq2.2 kk2 (by decide) (by decide) (by decide) rfl hF9 s2 s7
  rw [hK3] at t1 t2 t6 t7
  rw [hQ3] at t2
  obtain ⟨m4, u1, u2, u3, u4, u5, u6, u7⟩ := chainX (x := 0) (y := W') (R := 154) (F := nF L) hn ht hq3.2 kk3 (by decide) (by omega) (by decide) rfl hF9 t2 t7
  rw [hK4] at u1 u2 u6 u7
  rw [hQ4] at u2
  obtain ⟨m5, v1, v2, v3, v4, v5⟩ := tailX hn ht hq4.2 (by omega) u2 u7
  rw [hK5] at v1 v4 v5
  have e15 : m3 144 15 - 1 = nI W' := by rw [t5 15 (by omega), s5 15 (by omega), up2_ne (by omega), r5 15 (by omega), D9a, hW', nI_pred]
  have e17 : m1 144 17 + 1 = nI (nF L + 1) := by rw [r5 17 (by omega), D8, nI_1]
  have r1 : f_X7_into 151 (nI (nF L)) 0 (nI F') m = some (nI k1, m1) := r1
  have hrf : f_X7_takeFarm m = some (nI (if (if (if k1 = 0 then k2 else k1) = 0 then k3 else if k1 = 0 then k2 else k1) = 0 then k4 else if (if k1 = 0 then k2 else k1) = 0 then k3 else if k1 = 0 then k2 else k1), m4) := by
    unfold f_X7_takeFarm
    rw [bdE, D8, show nI (nF L) - 1 = nI F' by rw [hF', nI_pred], r1, Option.bind_some, bdE]
    dsimp only
    rw [e17]
    have s1 : (if nI k1 ≤ 0 then (f_X7_into 152 (nI (nF L)) 1 9 (up2 m1 144 17 (nI (nF L + 1)))).bind fun z => some (z.1, z.2) else some (nI k1, up2 m1 144 17 (nI (nF L + 1)))) = _ := s1
    rw [s1, Option.bind_some, bdE]
    dsimp only
    have t1 : (if nI (if k1 = 0 then k2 else k1) ≤ 0 then (f_X7_into 153 (nI (nF L)) 0 4 m2).bind fun z => some (z.1, z.2) else some (nI (if k1 = 0 then k2 else k1), m2)) = _ := t1
    rw [t1, Option.bind_some, bdE]
    dsimp only
    rw [e15]
    exact u1
  have kk := kk5
  by_cases hk : (if (if (if (if k1 = 0 then k2 else k1) = 0 then k3 else if k1 = 0 then k2 else k1) = 0 then k4 else if (if k1 = 0 then k2 else k1) = 0 then k3 else if k1 = 0 then k2 else k1) = 0 then k5 else if (if (if k1 = 0 then k2 else k1) = 0 then k3 else if k1 = 0 then k2 else k1) = 0 then k4 else if (if k1 = 0 then k2 else k1) = 0 then k3 else if k1 = 0 then k2 else k1) = 0
  · have z1 : k1 = 0 := by
      by_cases z : k1 = 0
      · exact z
      · simp only [if_neg z] at hk; exact hk
    have z2 : k2 = 0 := by
      by_cases z : k2 = 0
      · exact z
      · simp only [if_pos z1, if_neg z] at hk; exact hk
    have z3 : k3 = 0 := by
      by_cases z : k3 = 0
      · exact z
      · simp only [if_pos z1, if_pos z2, if_neg z] at hk; exact hk
    have z4 : k4 = 0 := by
      by_cases z : k4 = 0
      · exact z
      · simp only [if_pos z1, if_pos z2, if_pos z3, if_neg z] at hk; exact hk
    have z5 : k5 = 0 := by
      simp only [if_pos z1, if_pos z2, if_pos z3, if_pos z4] at hk; exact hk
    subst z1
    subst z2
    subst z3
    subst z4
    subst z5
    simp only [if_true] at S s1 s2 s6 s7 t1 t2 t6 t7 u1 u2 u6 u7 v1 v4 v5 hrf
    obtain ⟨f3, f4⟩ := S.2.2.1 (Or.inr rfl)
    have h53 : c5 1 3 = 0 := by rw [f3]; exact h3
    obtain ⟨x1a, x1b⟩ := nC_ok hK1
    obtain ⟨x2a, x2b⟩ := nC_ok hK2
    obtain ⟨x3a, x3b⟩ := nC_ok hK3
    obtain ⟨x4a, x4b⟩ := nC_ok hK4
    obtain ⟨c6, w1, w2, w3, w4, w5, w6, w7, w8, w9⟩ := addC (c := c5) (F := nF L) (a := nV tx n p) (b := nV tx n q1) (d := nV tx n q2) (e := nV tx n q3) hF9 (by rw [S.1 8 (by decide)]; exact D5)
    obtain ⟨v4a, v4b⟩ := v4 trivial
    obtain ⟨u6a, u6b⟩ := u6 trivial
    obtain ⟨t6a, t6b⟩ := t6 trivial
    obtain ⟨s6a, s6b⟩ := s6 trivial
    obtain ⟨r6a, r6b⟩ := r6 rfl
    refine ⟨c6, m5, 0, by decide, by rw [hcl, if_pos h53, w1], by rw [hrf, Option.bind_some, v1], fun r r1 r2 => by rw [w2 r r2, S.1 r r1], fun i i1 i2 i3 => by rw [w2 1 (by decide), S.2.1 i i1 i2 i3], fun r y1 y2 => by rw [v2 r y1, u3 r y1 (by omega), t3 r y1 (by omega), s3 r y1 (by omega), up2_ro y1, r3 r y1 (by omega)], fun k hk => by rw [v3 k (by omega) (by omega), u5 k (by omega), t5 k (by omega), s5 k (by omega), up2_ne (by omega), r5 k (by omega)], ⟨q, by omega, i3, ⟨by rw [w2 1 (by decide)]; exact i2.1, by rw [w2 1 (by decide)]; exact i2.2.1, fun k hk => by rw [w2 2 (by decide)]; exact i2.2.2 k hk⟩, fun _ => ?_⟩, fun _ => ⟨?_, ?_, ?_, (nF L + 1, nW L, upF (nx L) (nF L) (nV tx n p), upF (fa L) (nF L) (nV tx n q1), upF (ky L) (nF L) (nV tx n q3)), f, upF so (nF L) (nV tx n q2), ?_⟩, fun z => absurd rfl z⟩
    · have := i5 rfl
      exact ⟨by omega, this ▸ v4a⟩
    · rw [w2 1 (by decide)]; exact h53
    · rw [w2 1 (by decide)]; exact f4
    · rw [v4b, u6a, t6a, s6a, up2_ne (by omega), r6a]
    · have hne : ∀ {a : Nat}, a < nF L → a ≠ nF L := fun h => by omega
      refine ⟨⟨by show nF L + 1 ≤ 9; omega, hW9, fun z => absurd z (by show ¬ (nF L + 1 = 0); omega), fun _ => hW2, ⟨?_, ?_, ?_⟩, fun a h1 h2 => ?_⟩, ⟨D1, ?_, fun a ha => ?_, fun z => absurd z (by show ¬ (nF L + 1 = 0); omega)⟩, ⟨w4, ?_, ?_, ?_, fun _ => ⟨?_, ?_⟩⟩, fun a ha => ?_, fun a h1 h2 => ?_⟩
      · show upF (nx L) (nF L) (nV tx n p) 0 = 0; rw [upF_ne (by omega)]; exact hI.2.2.2.2.1.1
      · show upF (fa L) (nF L) (nV tx n q1) 0 = 0; rw [upF_ne (by omega)]; exact hI.2.2.2.2.1.2.1
      · show upF (ky L) (nF L) (nV tx n q3) 0 = 0; rw [upF_ne (by omega)]; exact hI.2.2.2.2.1.2.2
      · have h2 : a < nF L + 1 := h2
        show upF (nx L) (nF L) (nV tx n p) a < a ∧ 1 ≤ upF (fa L) (nF L) (nV tx n q1) a ∧ upF (fa L) (nF L) (nV tx n q1) a ≤ 9 ∧ upF (ky L) (nF L) (nV tx n q3) a < nW L
        by_cases haF : a = nF L
        · rw [haF, upF_eq, upF_eq, upF_eq]; omega
        · rw [upF_ne haF, upF_ne haF, upF_ne haF]; exact hI.2.2.2.2.2 a h1 (by omega)
      · rw [upF_ne (by omega)]; exact D2
      · have ha : a < nF L + 1 := ha
        by_cases haF : a = nF L
        · rw [haF, upF_eq]; omega
        · rw [upF_ne haF]; exact D3 a (by omega)
      · rw [w3 0 (by decide), S.1 8 (by decide)]; exact D6
      · rw [w3 1 (by decide), S.1 8 (by decide)]; exact D7
      · rw [v3 17 (by decide) (by decide), u5 17 (by omega), t5 17 (by omega), s5 17 (by omega), up2_eq]
      · rw [v3 15 (by decide) (by decide), u5 15 (by omega), t5 15 (by omega), s5 15 (by omega), up2_ne (by omega), r5 15 (by omega)]; exact D9a
      · rw [v3 16 (by decide) (by decide), u5 16 (by omega), t5 16 (by omega), s5 16 (by omega), up2_ne (by omega), r5 16 (by omega)]; exact D9b
      · have ha : a < nF L + 1 := ha
        show c6 9 a = nI (upF (nx L) (nF L) (nV tx n p) a) ∧ c6 10 a = nI (upF (fa L) (nF L) (nV tx n q1) a) ∧ c6 11 a = nI (upF so (nF L) (nV tx n q2) a) ∧ c6 12 a = nI (upF (ky L) (nF L) (nV tx n q3) a)
        by_cases haF : a = nF L
        · rw [haF, upF_eq, upF_eq, upF_eq, upF_eq]; exact ⟨w6, w7, w8, w9⟩
        · obtain ⟨y1, y2, y3, y4⟩ := w5 a haF
          rw [upF_ne haF, upF_ne haF, upF_ne haF, upF_ne haF, y1, y2, y3, y4, S.1 9 (by decide), S.1 10 (by decide), S.1 11 (by decide), S.1 12 (by decide)]
          exact D10 a (by omega)
      · have h2 : a < nF L + 1 := h2
        show m5 151 a = nI (upF (nx L) (nF L) (nV tx n p) a) ∧ m5 152 a = nI (upF (fa L) (nF L) (nV tx n q1) a) ∧ m5 153 a = nI (upF so (nF L) (nV tx n q2) a) ∧ m5 154 a = nI (upF (ky L) (nF L) (nV tx n q3) a)
        have g1 : m5 151 = m1 151 := by rw [v2 151 (by decide), u3 151 (by decide) (by decide), t3 151 (by decide) (by decide), s3 151 (by decide) (by decide), up2_ro (by decide)]
        have g2 : m5 152 = m2 152 := by rw [v2 152 (by decide), u3 152 (by decide) (by decide), t3 152 (by decide) (by decide)]
        have g3 : m5 153 = m3 153 := by rw [v2 153 (by decide), u3 153 (by decide) (by decide)]
        have g4 : m5 154 = m4 154 := v2 154 (by decide)
        rw [g1, g2, g3, g4]
        by_cases haF : a = nF L
        · rw [haF, upF_eq, upF_eq, upF_eq, upF_eq]; exact ⟨r6b, s6b, t6b, u6b⟩
        · rw [upF_ne haF, upF_ne haF, upF_ne haF, upF_ne haF, r4 a haF, s4 a haF, t4 a haF, u4 a haF, up2_ro (by decide), r3 152 (by decide) (by decide), s3 153 (by decide) (by decide), up2_ro (by decide), r3 153 (by decide) (by decide), t3 154 (by decide) (by decide), s3 154 (by decide) (by decide), up2_ro (by decide), r3 154 (by decide) (by decide)]
          exact D11 a h1 (by omega)
  · obtain ⟨f3, f4⟩ := S.2.2.2 h3 hk
    refine ⟨c5, m5, _, by omega, by rw [hcl, if_neg (by rw [f3]; exact fun z => hk ((eq0 (by omega)).mp z))], by rw [hrf, Option.bind_some, v1], fun r r1 r2 => S.1 r r1, S.2.1, fun r y1 y2 => by rw [v2 r y1, u3 r y1 (by omega), t3 r y1 (by omega), s3 r y1 (by omega), up2_ro y1, r3 r y1 (by omega)], fun k hk => by rw [v3 k (by omega) (by omega), u5 k (by omega), t5 k (by omega), s5 k (by omega), up2_ne (by omega), r5 k (by omega)], ⟨q, by omega, i3, i2, fun z => absurd z hk⟩, fun z => absurd z hk, fun _ => ⟨f3, _, f4, v5 hk⟩⟩
