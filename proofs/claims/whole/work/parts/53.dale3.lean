theorem nilG {α : Type} {P : Prop} {i : Nat} {t : α} (h : ([] : List α)[i]? = some t) : P := by simp at h
theorem nilM {α : Type} {P : Prop} {t : α} (h : t ∈ ([] : List α)) : P := by simp at h
theorem takeX {m : MM} {F W f : Nat} (hF : F ≤ 9) (h17 : m 144 17 = nI F) (h15 : 0 < F → m 144 15 = nI W ∧ m 144 16 = nI f) (h0 : F = 0 → W = 0 ∧ f = 0) : ∃ m', f_X7_takeRead m = some m' ∧ (∀ r, (r < 144 ∨ 149 < r) → m' r = m r) ∧ (∀ k, 3 ≤ k → m' 144 k = m 144 k) ∧ (m' 144 0 = nI W ∧ m' 144 1 = nI F) ∧ (∀ r, 145 ≤ r → r ≤ 148 → m' r 0 = m r 0) ∧ (∀ k, 1 ≤ k → k < F → m' 145 k = m 151 k ∧ m' 146 k = m 152 k ∧ m' 148 k = m 154 k ∧ m' 149 k = m 153 k) ∧ m' 149 0 = 0 ∧ m' 149 10 = nI f ∧ (∀ k, k < 66 → 9 ≤ k → k ≠ 10 → (k < 14 ∨ 23 ≤ k) → m' 149 k = 0) ∧ ∀ k, k < 9 → m' 149 (14 + k) = -1 := by
  have j1 : (if m 144 17 = 0 then (0 : Int32) else m 144 15) = nI W := by
    by_cases hz : F = 0
    · rw [if_pos (show m 144 17 = 0 by rw [h17, hz]; rfl), (h0 hz).1]; rfl
    · rw [if_neg (show ¬ m 144 17 = 0 by rw [h17]; exact nI_neI (b := 0) (by omega) (by decide) hz)]; exact (h15 (by omega)).1
  have q17 : up2 (up2 m 144 0 (nI W)) 144 1 (nI F) 144 17 = m 144 17 := by rw [up2_ne (by omega), up2_ne (by omega)]
  have j4 : (if up2 (up2 m 144 0 (nI W)) 144 1 (nI F) 144 17 = 0 then (0 : Int32) else up2 (up2 m 144 0 (nI W)) 144 1 (nI F) 144 16) = nI f := by
    by_cases hz : F = 0
    · rw [if_pos (show up2 (up2 m 144 0 (nI W)) 144 1 (nI F) 144 17 = 0 by rw [q17, h17, hz]; rfl), (h0 hz).2]; rfl
    · rw [if_neg (show ¬ up2 (up2 m 144 0 (nI W)) 144 1 (nI F) 144 17 = 0 by rw [q17, h17]; exact nI_neI (b := 0) (by omega) (by decide) hz), up2_ne (by omega), up2_ne (by omega)]; exact (h15 (by omega)).2
  obtain ⟨m1, a1, a2, a3, a4⟩ := emX (up2 (up2 (up2 m 144 0 (nI W)) 144 1 (nI F)) 144 2 (nI f))
  have hFU : (20 : Nat) < FU := by decide
  obtain ⟨m2, z, b1, b2, b3, b4⟩ := trX hF 9 1 FU m1 (by decide) (by decide) (by omega) (by omega) (by rw [a2 144 (by decide), up2_ne (by omega), up2_eq])
  have b1 : f_X7_takeRead_L52 FU 1 m1 = some (z, m2) := b1
  have q2 : m2 144 2 = nI f := by rw [b2 144 (by omega), a2 144 (by decide), up2_eq]
  refine ⟨up2 m2 149 10 (nI f), ?_, fun r hr => ?_, fun k hk => ?_, ⟨?_, ?_⟩, fun r r1 r2 => ?_, fun k k1 k2 => ?_, ?_, up2_eq _ _ _ _, fun k k1 k2 k3 k4 => ?_, fun k hk => ?_⟩
  · unfold f_X7_takeRead
    rw [j1, bdE, bdE, up2_ne (by omega), h17, bdE, j4, bdE, bdE, a1, Option.bind_some, b1, Option.bind_some]
    dsimp only
    rw [q2, bdE]
  · rw [up2_ro (by omega), b2 r (by omega), a2 r (by omega), up2_ro (by omega), up2_ro (by omega), up2_ro (by omega)]
  · rw [up2_ro (by decide), b2 144 (by omega), a2 144 (by decide), up2_ne (by omega), up2_ne (by omega), up2_ne (by omega)]
  · rw [up2_ro (by decide), b2 144 (by omega), a2 144 (by decide), up2_ne (by omega), up2_ne (by omega), up2_eq]
  · rw [up2_ro (by decide), b2 144 (by omega), a2 144 (by decide), up2_ne (by omega), up2_eq]
  · rw [up2_ro (by omega), b3 r 0 (by omega) (by omega) (by omega), a2 r (by omega), up2_ro (by omega), up2_ro (by omega), up2_ro (by omega)]
  · obtain ⟨y1, y2, y3, y4⟩ := b4 k k1 k2
    rw [up2_ro (by decide), up2_ro (by decide), up2_ro (by decide), up2_ne (by omega), y1, y2, y3, y4]
    refine ⟨?_, ?_, ?_, ?_⟩ <;> rw [a2 _ (by decide), up2_ro (by decide), up2_ro (by decide), up2_ro (by decide)]
  · rw [up2_ne (by omega), b3 149 0 (by omega) (by omega) (by omega)]; exact a3 0 (by decide) (by omega)
  · rw [up2_ne (by omega), b3 149 k (by omega) (by omega) (by omega)]; exact a3 k k1 k4
  · rw [up2_ne (by omega), b3 149 _ (by omega) (by omega) (by omega)]; exact a4 k hk
theorem ok_dale {c m : MM} (h : Rel c m) : Ok c m (f_X6_dale c) (f_X7_dale m) := by
  obtain ⟨n, L, A, P, I0, I1, hr⟩ := id h
  obtain ⟨⟨hn, t1, t2, tt⟩, h2, ⟨hI, hC, hR⟩, ⟨h4, h4b⟩, ⟨p1, p2, p3, e, p4, p5, p6⟩, h6, h7, h8, h9⟩ := id hr
  obtain ⟨tx, htx⟩ : ∃ tx : Nat → Nat, ∀ k, k < n → tx k ≤ 255 ∧ c 2 k = nI (tx k) ∧ m 150 k = nI (tx k) := by
    refine ⟨fun k => if hk : k < n then (tt k hk).choose else 0, fun k hk => ?_⟩
    have := (tt k hk).choose_spec
    simp only [dif_pos hk]
    exact this
  have ht : ∀ k, k < n → tx k ≤ 255 := fun k hk => (htx k hk).1
  -- the class before the first clause
  generalize hc0 : up2 (up2 (up2 (f_X1_clear 8 c) 1 2 0) 1 3 0) 1 4 (-1) = c0
  have hcl8 : f_X1_clear 8 c = up2 (up2 (up2 c 8 0 0) 8 1 0) 8 2 0 := by unfold f_X1_clear; rw [bdE, bdE, bdE]
  have f0 : ∀ r, r ≠ 1 → r ≠ 8 → c0 r = c r := fun r r1 r2 => by rw [← hc0, up2_ro r1, up2_ro r1, up2_ro r1, hcl8, up2_ro r2, up2_ro r2, up2_ro r2]
  have f8 : c0 8 0 = 0 ∧ c0 8 1 = 0 ∧ c0 8 2 = 0 := by
    rw [← hc0, up2_ro (by decide), up2_ro (by decide), up2_ro (by decide), hcl8]
    refine ⟨?_, ?_, up2_eq _ _ _ _⟩
    · rw [up2_ne (by omega), up2_ne (by omega), up2_eq]
    · rw [up2_ne (by omega), up2_eq]
  have f1 : c0 1 1 = nI n ∧ c0 1 2 = nI 0 ∧ c0 1 3 = 0 ∧ c0 1 4 = -1 := by
    rw [← hc0]
    refine ⟨?_, ?_, ?_, up2_eq _ _ _ _⟩
    · rw [up2_ne (by omega), up2_ne (by omega), up2_ne (by omega), hcl8, up2_ro (by decide), up2_ro (by decide), up2_ro (by decide)]; exact t1
    · rw [up2_ne (by omega), up2_ne (by omega), up2_eq]; rfl
    · rw [up2_ne (by omega), up2_eq]
  have hPC : PC c0 tx n 0 := ⟨f1.1, f1.2.1, fun k hk => by rw [f0 2 (by decide) (by decide)]; exact (htx k hk).2.1⟩
  obtain ⟨c1, s1, s2, s3, s4⟩ := skipC hn ht (Nat.zero_le _) hPC
  -- the reference before the first clause
  generalize hm0 : up2 (up2 (up2 m 144 11 (-1)) 144 12 0) 144 17 0 = m0
  have g0 : ∀ r, r ≠ 144 → m0 r = m r := fun r r1 => by rw [← hm0, up2_ro r1, up2_ro r1, up2_ro r1]
  have g1 : ∀ k, (k < 11 ∨ 17 < k) → m0 144 k = m 144 k := fun k hk => by rw [← hm0, up2_ne (by omega), up2_ne (by omega), up2_ne (by omega)]
  have g2 : m0 144 11 = -1 ∧ m0 144 12 = nI 0 ∧ m0 144 17 = nI 0 := by
    rw [← hm0]
    refine ⟨?_, ?_, up2_eq _ _ _ _⟩
    · rw [up2_ne (by omega), up2_ne (by omega), up2_eq]
    · rw [up2_ne (by omega), up2_eq]; rfl
  have hPR : PR m0 tx n 0 := ⟨by rw [g1 10 (by omega)]; exact t2, g2.2.1, fun k hk => by rw [g0 150 (by decide)]; exact (htx k hk).2.2⟩
  have hD : DR c1 m0 (0, 0, fun _ => 0, fun _ => 0, fun _ => 0) 0 (fun _ => 0) := by
    refine ⟨⟨by show 0 ≤ 9; decide, by show 0 ≤ 9; decide, fun _ => rfl, fun z => absurd z (by show ¬ (0 < 0); decide), ⟨rfl, rfl, rfl⟩, fun a _ z => absurd z (Nat.not_lt_zero _)⟩, ⟨by decide, rfl, fun a z => absurd z (Nat.not_lt_zero _), fun _ => rfl⟩, ⟨?_, ?_, ?_, g2.2.2, fun z => absurd z (by show ¬ (0 < 0); decide)⟩, fun a z => absurd z (Nat.not_lt_zero _), fun a _ z => absurd z (Nat.not_lt_zero _)⟩
    · rw [s3 8 (by decide)]; exact f8.2.2
    · rw [s3 8 (by decide)]; exact f8.1
    · rw [s3 8 (by decide)]; exact f8.2.1
  have hs := sk_le (tx := tx) (Nat.zero_le n)
  have hFU : (250 : Nat) < FU := by decide
  obtain ⟨c2, m2, code, z, o1, o2, o3, o4, o5, o6, o7, o8⟩ := readX hn ht n (sk tx n 0) 0 0 FU FU c1 m0 _ _ _ (by omega) hs.2 (Nat.zero_le _) rfl (Nat.zero_le _) (by omega) (by omega) s2 hPR (by rw [s4 3 (by decide)]; exact f1.2.2.1) (by rw [s4 4 (by decide)]; exact f1.2.2.2) g2.1 hD
  have o1 : f_X4_readInto_L25 8 FU 0 c1 = some (z, c2) := o1
  have hrd : f_X4_readInto 8 c = some c2 := by
    unfold f_X4_readInto
    rw [bdE, bdE, bdE, bdE, hc0, s1, Option.bind_some, o1]; rfl
  have fr1 : ∀ r, r ≠ 1 → (r < 8 ∨ 12 < r) → c2 r = c r := fun r r1 r2 => by rw [o4 r r1 r2, s3 r r1, f0 r r1 (by omega)]
  have fr2 : ∀ r, r ≠ 144 → (r < 151 ∨ 154 < r) → m2 r = m r := fun r r1 r2 => by rw [o5 r r1 r2, g0 r r1]
  have fr3 : ∀ k, (k < 11 ∨ 17 < k) → m2 144 k = m 144 k := fun k hk => by rw [o6 k hk, g1 k hk]
  have hX0 : f_X6_dale c = if up2 c2 1 1 0 1 3 = 0 then (f_X5_begin 24 3 (f_X1_copyFrom 3 8 (up2 c2 1 1 0))).bind fun x4 => some ((up2 (up2 (up2 (up2 x4 17 3 0) 21 2 0) 0 8 0) 13 2 0) 3 2, up2 (up2 (up2 (up2 x4 17 3 0) 21 2 0) 0 8 0) 13 2 0) else some (-10 - up2 c2 1 1 0 1 3, up2 c2 1 1 0) := by
    unfold f_X6_dale
    rw [hrd, Option.bind_some, bdE, bdE]; rfl
  have hY0 : f_X7_dale m = if nI code ≤ 0 then (f_X7_takeRead (up2 m2 144 10 0)).bind fun x8 => some ((up2 (up2 (up2 (up2 (up2 x8 144 27 0) 144 31 0) 144 24 0) 165 0 0) 165 1 0) 144 1, up2 (up2 (up2 (up2 (up2 x8 144 27 0) 144 31 0) 144 24 0) 165 0 0) 165 1 0) else some (-10 - nI code, up2 m2 144 10 0) := by
    unfold f_X7_dale
    rw [bdE, bdE, bdE, hm0, o2, Option.bind_some, bdE, narB0]; rfl
  rw [hX0, hY0]
  by_cases hc : code = 0
  · subst hc
    obtain ⟨y1, y2, y3, L', f, so, hI', ⟨D1, D2, D3, D4⟩, ⟨D5, D6, D7, D8, D9⟩, D10, D11⟩ := o7 rfl
    rw [if_pos (show up2 c2 1 1 0 1 3 = 0 by rw [up2_ne (by omega)]; exact y1), if_pos (show nI 0 ≤ 0 by decide)]
    have hF9 := hI'.1
    obtain ⟨c3, a1, a2, ⟨a3, a4, a5⟩, a6⟩ := lndC (c := up2 c2 1 1 0)
    obtain ⟨c4, b1, b2, ⟨b3, b4, b5, b6, b7, b8, b9, b10⟩, b11⟩ := begC c3
    have q0 : ∀ r, r ≠ 1 → (r < 3 ∨ 12 < r) → (r < 24 ∨ 29 < r) → c4 r = c r := fun r r1 r2 r3 => by rw [b2 r (by omega), a2 r (by omega), up2_ro r1, fr1 r r1 (by omega)]
    have hm17 : up2 m2 144 10 0 144 17 = nI (nF L') := by rw [up2_ne (by omega)]; exact D8
    obtain ⟨m3, k1, k2, k3, ⟨k4, k5⟩, k6, k7, k8, k9, k10, k11⟩ := takeX (W := nW L') (f := f) hF9 hm17 (fun z => by rw [up2_ne (by omega), up2_ne (by omega)]; exact D9 z) (fun z => ⟨hI'.2.2.1 z, D4 z⟩)
    rw [a1, b1, k1, Option.bind_some, Option.bind_some]
    have w0 : ∀ r, (r < 144 ∨ 149 < r) → (r < 151 ∨ 154 < r) → m3 r = m r := fun r r1 r2 => by rw [k2 r r1, up2_ro (by omega), fr2 r (by omega) r2]
    have w1 : ∀ k, 3 ≤ k → k ≠ 10 → (k < 11 ∨ 17 < k) → m3 144 k = m 144 k := fun k k1 k2 k4 => by rw [k3 k k1, up2_ne (Or.inr k2), fr3 k k4]
    generalize hCC : up2 (up2 (up2 (up2 c4 17 3 0) 21 2 0) 0 8 0) 13 2 0 = C
    generalize hMM : up2 (up2 (up2 (up2 (up2 m3 144 27 0) 144 31 0) 144 24 0) 165 0 0) 165 1 0 = M
    have C0 : ∀ r, r ≠ 0 → r ≠ 13 → r ≠ 17 → r ≠ 21 → C r = c4 r := fun r r1 r2 r3 r4 => by rw [← hCC, up2_ro r2, up2_ro r1, up2_ro r4, up2_ro r3]
    have M0 : ∀ r, r ≠ 144 → r ≠ 165 → M r = m3 r := fun r r1 r2 => by rw [← hMM, up2_ro r2, up2_ro r2, up2_ro r1, up2_ro r1, up2_ro r1]
    have M1 : ∀ k, k ≠ 24 → k ≠ 27 → k ≠ 31 → M 144 k = m3 144 k := fun k k1 k2 k3 => by rw [← hMM, up2_ro (by decide), up2_ro (by decide), up2_ne (Or.inr k1), up2_ne (Or.inr k3), up2_ne (Or.inr k2)]
    have r32 : C 3 2 = nI (nF L') := by rw [C0 3 (by decide) (by decide) (by decide) (by decide), b2 3 (by omega), a5, up2_ro (by decide)]; exact D5
    have r30 : C 3 0 = nI (nW L') := by rw [C0 3 (by decide) (by decide) (by decide) (by decide), b2 3 (by omega), a3, up2_ro (by decide)]; exact D6
    have e31 : c3 3 1 = nI f := by rw [a4, up2_ro (by decide)]; exact D7
    have s1' : M 144 1 = nI (nF L') := by rw [M1 1 (by decide) (by decide) (by decide)]; exact k5
    rw [r32, s1']
    have hl9 : ∀ a, a < nF L' → a < 9 := fun a ha => by omega
    refine ⟨_, _, _, rfl, rfl, 0, L', ((0, f, 0, 0, 0), [], [], so, fun _ => 0, fun _ => 0), [], none, none, ⟨Nat.zero_le _, ?_, ?_, fun k hk => absurd hk (Nat.not_lt_zero _)⟩, ?_, ⟨hI', ⟨r30, r32, fun a ha => ⟨?_, ?_, ?_⟩⟩, ⟨?_, s1', ⟨?_, ?_, ?_⟩, fun a ha => ?_⟩⟩, ⟨⟨⟨⟨?_, ?_, ?_, ?_, ?_, ?_, ?_⟩, fun i t hi => nilG hi, ⟨0, by decide, ?_, fun i t hi => nilG hi⟩, fun a ha => ?_, fun a ha => ?_, fun a ha => ?_⟩, ⟨⟨?_, ?_, ?_, ?_, ?_, ?_, ?_⟩, fun i t hi => nilG hi, fun i t hi => nilG hi, fun a ha => ?_, fun a ha => ?_, fun a ha => ?_⟩, D1, by show 0 ≤ 1; decide, ⟨Nat.two_pow_pos _, rfl⟩, by show 0 ≤ 999999; decide, ⟨by show 0 ≤ 12; decide, fun t z => nilM z⟩, ⟨by show 0 ≤ 20; decide, fun t z => nilM z⟩, D3, D2, fun _ _ => Nat.zero_le _, fun _ _ => Nat.zero_le _⟩, by show 0 ≤ 9060; decide⟩, ⟨by decide, ?_, ?_, e, p4, ?_, fun i B z => nilG z⟩, ⟨0, by decide, ?_, ⟨by decide, ?_⟩, ⟨by decide, ?_⟩⟩, ⟨?_, ?_⟩, ⟨0, by decide, ?_, ?_, fun i z => absurd z (Nat.not_lt_zero _)⟩, ⟨0, by decide, ?_, ?_, fun i z => absurd z (Nat.not_lt_zero _)⟩⟩
    · rw [C0 1 (by decide) (by decide) (by decide) (by decide), b2 1 (by omega), a2 1 (by omega), up2_eq]; rfl
    · rw [M1 10 (by decide) (by decide) (by decide), k3 10 (by decide), up2_eq]; rfl
    · rw [C0 1 (by decide) (by decide) (by decide) (by decide), b2 1 (by omega), a2 1 (by omega), up2_ne (by omega), y2, M1 11 (by decide) (by decide) (by decide), k3 11 (by decide), up2_ne (by omega), y3]
    · rw [C0 4 (by decide) (by decide) (by decide) (by decide), b2 4 (by omega), (a6 a (hl9 a ha)).1, up2_ro (by decide)]; exact (D10 a ha).1
    · rw [C0 5 (by decide) (by decide) (by decide) (by decide), b2 5 (by omega), (a6 a (hl9 a ha)).2.1, up2_ro (by decide)]; exact (D10 a ha).2.1
    · rw [C0 7 (by decide) (by decide) (by decide) (by decide), b2 7 (by omega), (a6 a (hl9 a ha)).2.2.2, up2_ro (by decide)]; exact (D10 a ha).2.2.2
    · rw [M1 0 (by decide) (by decide) (by decide)]; exact k4
    · rw [M0 145 (by decide) (by decide), k6 145 (by decide) (by decide), up2_ro (by decide), fr2 145 (by decide) (by decide)]; exact hR.2.2.1.1
    · rw [M0 146 (by decide) (by decide), k6 146 (by decide) (by decide), up2_ro (by decide), fr2 146 (by decide) (by decide)]; exact hR.2.2.1.2.1
    · rw [M0 148 (by decide) (by decide), k6 148 (by decide) (by decide), up2_ro (by decide), fr2 148 (by decide) (by decide)]; exact hR.2.2.1.2.2
    · rw [M0 145 (by decide) (by decide), M0 146 (by decide) (by decide), M0 148 (by decide) (by decide)]
      by_cases ha0 : a = 0
      · subst ha0
        rw [k6 145 (by decide) (by decide), k6 146 (by decide) (by decide), k6 148 (by decide) (by decide), up2_ro (by decide), up2_ro (by decide), up2_ro (by decide), fr2 145 (by decide) (by decide), fr2 146 (by decide) (by decide), fr2 148 (by decide) (by decide), hR.2.2.1.1, hR.2.2.1.2.1, hR.2.2.1.2.2, hI'.2.2.2.2.1.1, hI'.2.2.2.2.1.2.1, hI'.2.2.2.2.1.2.2]
        exact ⟨rfl, rfl, rfl⟩
      · obtain ⟨u1, u2, u3, u4⟩ := k7 a (by omega) ha
        obtain ⟨v1, v2, v3, v4⟩ := D11 a (by omega) ha
        rw [u1, u2, u3, up2_ro (by decide), up2_ro (by decide), up2_ro (by decide)]
        exact ⟨v1, v2, v4⟩
    · rw [C0 24 (by decide) (by decide) (by decide) (by decide)]; exact b3
    · rw [C0 24 (by decide) (by decide) (by decide) (by decide), b4]; exact e31
    · rw [C0 24 (by decide) (by decide) (by decide) (by decide)]; exact b5
    · rw [C0 24 (by decide) (by decide) (by decide) (by decide)]; exact b6
    · rw [C0 24 (by decide) (by decide) (by decide) (by decide)]; exact b7
    · rw [C0 24 (by decide) (by decide) (by decide) (by decide)]; exact b8
    · rw [C0 24 (by decide) (by decide) (by decide) (by decide)]; exact b9
    · rw [C0 24 (by decide) (by decide) (by decide) (by decide)]; exact b10
    · show C 27 a = _
      rw [C0 27 (by decide) (by decide) (by decide) (by decide), (b11 a (hl9 a ha)).1, (a6 a (hl9 a ha)).2.2.1, up2_ro (by decide)]; exact (D10 a ha).2.2.1
    · show C 28 a = _
      rw [C0 28 (by decide) (by decide) (by decide) (by decide), (b11 a (hl9 a ha)).2.1]; rfl
    · show C 29 a = _
      rw [C0 29 (by decide) (by decide) (by decide) (by decide), (b11 a ha).2.2]; rfl
    · rw [M0 149 (by decide) (by decide), k10 _ (by decide) (by decide) (by decide) (by decide)]; rfl
    · rw [M0 149 (by decide) (by decide)]; exact k9
    · rw [M0 149 (by decide) (by decide), k10 _ (by decide) (by decide) (by decide) (by decide)]; rfl
    · rw [M0 149 (by decide) (by decide), k10 _ (by decide) (by decide) (by decide) (by decide)]; rfl
    · rw [M0 149 (by decide) (by decide), k10 _ (by decide) (by decide) (by decide) (by decide)]; rfl
    · rw [M0 149 (by decide) (by decide), k10 _ (by decide) (by decide) (by decide) (by decide)]; rfl
    · rw [M0 149 (by decide) (by decide), k10 _ (by decide) (by decide) (by decide) (by decide)]; rfl
    · rw [M0 149 (by decide) (by decide), Nat.zero_add]
      by_cases ha0 : a = 0
      · subst ha0
        rw [k8]
        show 0 = nI (so 0)
        rw [D2]; rfl
      · obtain ⟨u1, u2, u3, u4⟩ := k7 a (by omega) ha
        rw [u4, up2_ro (by decide)]
        exact (D11 a (by omega) ha).2.2.1
    · rw [M0 149 (by decide) (by decide), Nat.zero_add, k11 a ha]; rfl
    · rw [M0 149 (by decide) (by decide), k10 _ (by omega) (by omega) (by omega) (by omega)]; rfl
    · rw [← hMM, up2_ro (by decide), up2_ro (by decide), up2_eq]; rfl
    · rw [← hCC, up2_eq]; rfl
    · rw [← hCC, up2_ne (by omega), up2_ro (by decide), up2_ro (by decide), up2_ro (by decide), q0 13 (by decide) (by decide) (by decide)]; exact p5
    · rw [← hCC, up2_ro (by decide), up2_eq]; rfl
    · rw [← hMM, up2_ne (by omega), up2_eq]
    · rw [← hMM, up2_eq]
    · rw [← hCC, up2_ro (by decide), up2_ne (by omega), up2_ro (by decide), up2_ro (by decide), q0 0 (by decide) (by decide) (by decide), M1 8 (by decide) (by decide) (by decide), w1 8 (by decide) (by decide) (by decide)]; exact h7.1
    · rw [← hCC, up2_ro (by decide), up2_ne (by omega), up2_ro (by decide), up2_ro (by decide), q0 0 (by decide) (by decide) (by decide)]; exact h7.2
    · rw [← hCC, up2_ro (by decide), up2_ro (by decide), up2_ro (by decide), up2_eq]; rfl
    · rw [← hMM, up2_ro (by decide), up2_ro (by decide), up2_ne (by omega), up2_ne (by omega), up2_eq]; rfl
    · rw [← hCC, up2_ro (by decide), up2_ro (by decide), up2_eq]; rfl
    · rw [← hMM, up2_ro (by decide), up2_ro (by decide), up2_ne (by omega), up2_eq]; rfl
  · obtain ⟨y1, a, y2, y3⟩ := o8 hc
    have hz : ¬ nI code = 0 := nI_neI (b := 0) (by omega) (by decide) hc
    rw [if_neg (show ¬ up2 c2 1 1 0 1 3 = 0 by rw [up2_ne (by omega), y1]; exact hz), if_neg (show ¬ nI code ≤ 0 from nI_nle (by omega) (by omega)), up2_ne (by omega), y1]
    refine ⟨_, _, _, rfl, rfl, 0, L, A, P, I0, I1, ?_⟩
    have q0 : ∀ r, r ≠ 1 → (r < 8 ∨ 12 < r) → up2 c2 1 1 0 r = c r := fun r r1 r2 => by rw [up2_ro r1, fr1 r r1 r2]
    have w0 : ∀ r, r ≠ 144 → (r < 151 ∨ 154 < r) → up2 m2 144 10 0 r = m r := fun r r1 r2 => by rw [up2_ro r1, fr2 r r1 r2]
    have w1 : ∀ k, k ≠ 10 → (k < 11 ∨ 17 < k) → up2 m2 144 10 0 144 k = m 144 k := fun k k1 k2 => by rw [up2_ne (Or.inr k1), fr3 k k2]
    refine ⟨⟨Nat.zero_le _, up2_eq _ _ _ _, up2_eq _ _ _ _, fun k hk => absurd hk (Nat.not_lt_zero _)⟩, by rw [up2_ne (by omega), up2_ne (by omega), y2, y3], ⟨hI, hC.eq (by rw [q0 3 (by decide) (by decide)]) (by rw [q0 3 (by decide) (by decide)]) (q0 4 (by decide) (by decide)) (q0 5 (by decide) (by decide)) (q0 7 (by decide) (by decide)), hR.eq (w1 0 (by decide) (by decide)) (w1 1 (by decide) (by decide)) (w0 145 (by decide) (by decide)) (w0 146 (by decide) (by decide)) (w0 148 (by decide) (by decide))⟩, ⟨h4.eq hI.F (fun k hk => q0 _ (by omega) (by omega)) (fun k hk => by rw [w0 149 (by decide) (by decide)]), h4b⟩, ?_, ?_, ?_, ?_, ?_⟩
    · exact (show RPast c m L P from ⟨p1, p2, p3, e, p4, p5, p6⟩).eq hI.F (by rw [q0 13 (by decide) (by decide)]) (by rw [q0 13 (by decide) (by decide)]) (fun r r1 r2 => q0 r (by omega) (by omega)) (w1 24 (by decide) (by decide)) (w0 157 (by decide) (by decide))
    · exact h6.eq hI.F (by rw [q0 0 (by decide) (by decide)]) (fun r r1 r2 => q0 r (by omega) (by omega)) (q0 16 (by decide) (by decide)) (w0 164 (by decide) (by decide)) (w0 165 (by decide) (by decide))
    · exact h7.eq (by rw [q0 0 (by decide) (by decide)]) (w1 8 (by decide) (by decide))
    · exact h8.eq (by rw [q0 17 (by decide) (by decide)]) (q0 18 (by decide) (by decide)) (q0 19 (by decide) (by decide)) (w1 27 (by decide) (by decide)) (w0 159 (by decide) (by decide)) (w0 160 (by decide) (by decide))
    · exact h9.eq (by rw [q0 21 (by decide) (by decide)]) (q0 22 (by decide) (by decide)) (q0 23 (by decide) (by decide)) (w1 31 (by decide) (by decide)) (w0 162 (by decide) (by decide)) (w0 163 (by decide) (by decide))
