/-! the text, clause by clause -/
theorem DR.of {c m c' m' : MM} {L : LG} {f : Nat} {so : Nat → Nat} (h : DR c m L f so) (hc : ∀ r, 8 ≤ r → r ≤ 12 → c' r = c r) (e15 : m' 144 15 = m 144 15) (e16 : m' 144 16 = m 144 16) (e17 : m' 144 17 = m 144 17) (hm : ∀ r, 151 ≤ r → r ≤ 154 → m' r = m r) : DR c' m' L f so := by
  unfold DR at *
  rw [hc 8 (by omega) (by omega), hc 9 (by omega) (by omega), hc 10 (by omega) (by omega), hc 11 (by omega) (by omega), hc 12 (by omega) (by omega), e15, e16, e17, hm 151 (by omega) (by omega), hm 152 (by omega) (by omega), hm 153 (by omega) (by omega), hm 154 (by omega) (by omega)]
  exact h
theorem ClX.pre {c m c1 m1 c' m' : MM} {tx : Nat → Nat} {n p code : Nat} (h : ClX c1 m1 c' m' tx n (p + 1) code) (a1 : ∀ r, r ≠ 1 → c1 r = c r) (a2 : ∀ i, i ≠ 2 → c1 1 i = c 1 i) (b1 : ∀ r, r ≠ 144 → m1 r = m r) (b2 : ∀ k, k ≠ 12 → m1 144 k = m 144 k) : ClX c m c' m' tx n p code := by
  obtain ⟨h1, h2, h3, h4, ⟨q, q1, q2, q3, q4⟩, h5, h6⟩ := h
  refine ⟨fun r r1 r2 => by rw [h1 r r1 r2, a1 r r1], fun i i1 i2 i3 => by rw [h2 i i1 i2 i3, a2 i i1], fun r r1 r2 => by rw [h3 r r1 r2, b1 r r1], fun k hk => by rw [h4 k hk, b2 k (by omega)], ⟨q, by omega, q2, q3, fun z => ⟨by omega, (q4 z).2⟩⟩, fun z => ?_, h6⟩
  obtain ⟨k1, k2, k3, k4⟩ := h5 z
  exact ⟨k1, by rw [k2, a2 4 (by decide)], by rw [k3, b2 11 (by decide)], k4⟩
theorem markX {c m m1 : MM} {tx : Nat → Nat} {n p x : Nat} (hx : x ≠ 0) (hp : p ≤ n) (hC : PC c tx n p) (h3 : c 1 3 = 0) (b1 : ∀ r, r ≠ 144 → m1 r = m r) (b2 : ∀ k, k ≠ 12 → m1 144 k = m 144 k) : ClX c m (f_X4_mark (nI x) (nI p) c) (up2 m1 144 11 (nI p)) tx n p x := by
  obtain ⟨h1, h2, h4, h5, h6⟩ := mark1 (nI x) (nI p) hC
  obtain ⟨k1, k2⟩ := h6 h3
  exact ⟨fun r r1 r2 => h2 r r1, fun i i1 i2 i3 => h4 i i2 i3, fun r r1 r2 => by rw [up2_ro r1, b1 r r1], fun k hk => by rw [up2_ne (by omega), b2 k (by omega)], ⟨p, Nat.le_refl _, hp, h1, fun z => absurd z hx⟩, fun z => absurd z hx, fun _ => ⟨k1, p, k2, up2_eq _ _ _ _⟩⟩
theorem clauseX {c m : MM} {tx : Nat → Nat} {n p : Nat} {L : LG} {f : Nat} {so : Nat → Nat} (hn : n ≤ 240) (ht : ∀ k, k < n → tx k ≤ 255) (hp : p < n) (h32 : tx p ≠ 32) (hC : PC c tx n p) (hR : PR m tx n p) (h3 : c 1 3 = 0) (hD : DR c m L f so) : ∃ c' m' code, code ≤ 3 ∧ f_X4_readClause 8 c = some c' ∧ f_X7_takeClause m = some (nI code, m') ∧ ClX c m c' m' tx n p code := by
  obtain ⟨m1, e1, e2, e3, e4⟩ := hereR hn ht (Nat.le_of_lt hp) hR
  have hsk : sk tx n p = p := sk_of (Or.inr h32)
  have ht' := ht p hp
  have hF9 := hD.1.1
  rw [hsk] at e1 e2
  unfold ltr at e1
  rw [if_pos hp] at e1
  have hce : f_X6_cell 2 (c 1 2) c = nI (tx p) := by rw [hC.2.1, cell2 hC hn hp]
  have h82 := hD.2.2.1.1
  have h17 : m1 144 17 = nI (nF L) := by rw [e4 17 (by decide)]; exact hD.2.2.1.2.2.2.1
  have hD1 : DR (up2 c 1 2 (nI (p + 1))) (up2 m1 144 12 (nI (p + 1))) L f so := hD.of (fun r r1 r2 => up2_ro (by omega)) (by rw [up2_ne (by omega), e4 15 (by decide)]) (by rw [up2_ne (by omega), e4 16 (by decide)]) (by rw [up2_ne (by omega), e4 17 (by decide)]) (fun r r1 r2 => by rw [up2_ro (by omega), e3 r (by omega)])
  have x1 : ∀ r, r ≠ 1 → up2 c 1 2 (nI (p + 1)) r = c r := fun r hr => up2_ro hr
  have x2 : ∀ i, i ≠ 2 → up2 c 1 2 (nI (p + 1)) 1 i = c 1 i := fun i hi => up2_ne (Or.inr hi)
  have x3 : ∀ r, r ≠ 144 → up2 m1 144 12 (nI (p + 1)) r = m r := fun r hr => by rw [up2_ro hr, e3 r hr]
  have x4 : ∀ k, k ≠ 12 → up2 m1 144 12 (nI (p + 1)) 144 k = m 144 k := fun k hk => by rw [up2_ne (Or.inr hk), e4 k hk]
  by_cases h98 : tx p = 98
  · rw [tC98 (m1 := m1) (by rw [e1, h98]; rfl), rC98 (by rw [hce, h98]; rfl), hC.2.1, e2.2.1, nI_1]
    by_cases hF : nF L = 0
    · rw [if_pos (show c 8 2 = 0 by rw [h82, hF]; rfl), if_pos (show m1 144 17 ≤ 0 by rw [h17, hF]; decide)]
      obtain ⟨c', m', code, k1, k2, k3, k4⟩ := becksX hn ht (by omega) (hC.to (p + 1)) (e2.to (p + 1)) (by rw [up2_ne (by omega)]; exact h3) (by rw [up2_ro (by decide), h82, hF])
      exact ⟨c', m', code, k1, k2, k3, k4.pre x1 x2 x3 x4⟩
    · rw [if_neg (show ¬ c 8 2 = 0 by rw [h82]; exact nI_neI (b := 0) (by omega) (by decide) hF), if_neg (show ¬ m1 144 17 ≤ 0 by rw [h17]; exact nI_nle (by omega) (by omega))]
      exact ⟨_, _, 3, by decide, rfl, rfl, markX (x := 3) (by decide) (by omega) hC h3 e3 e4⟩
  · by_cases h102 : tx p = 102
    · rw [tC102 (m1 := m1) (by rw [e1, h102]; rfl), rC102 (by rw [hce, h102]; rfl), hC.2.1, e2.2.1, nI_1]
      by_cases hF : nF L = 0
      · rw [if_pos (show c 8 2 < 9 by rw [h82, hF]; decide), if_pos (show c 8 2 = 0 by rw [h82, hF]; rfl), if_pos (show m1 144 17 = 0 by rw [h17, hF]; rfl)]
        exact ⟨_, _, 1, by decide, rfl, rfl, markX (x := 1) (by decide) (by omega) hC h3 e3 e4⟩
      · rw [if_neg (show ¬ m1 144 17 = 0 by rw [h17]; exact nI_neI (b := 0) (by omega) (by decide) hF)]
        by_cases hN : nF L = 9
        · rw [if_neg (show ¬ c 8 2 < 9 by rw [h82, hN]; decide), if_pos (show m1 144 17 = 9 by rw [h17, hN]; rfl)]
          exact ⟨_, _, 3, by decide, rfl, rfl, markX (x := 3) (by decide) (by omega) hC h3 e3 e4⟩
        · rw [if_pos (show c 8 2 < 9 by rw [h82]; exact nI_lt (b := 9) (by omega) (by omega)), if_neg (show ¬ c 8 2 = 0 by rw [h82]; exact nI_neI (b := 0) (by omega) (by decide) hF), if_neg (show ¬ m1 144 17 = 9 by rw [h17]; exact nI_neI (b := 9) (by omega) (by decide) hN)]
          obtain ⟨c', m', code, k1, k2, k3, k4⟩ := farmX hn ht (by omega) (hC.to (p + 1)) (e2.to (p + 1)) (by rw [up2_ne (by omega)]; exact h3) hD1 (by omega) (by omega)
          exact ⟨c', m', code, k1, k2, k3, k4.pre x1 x2 x3 x4⟩
    · have n1 : ¬ nI (tx p) = 98 := nI_neI (b := 98) (by omega) (by decide) h98
      have n2 : ¬ nI (tx p) = 102 := nI_neI (b := 102) (by omega) (by decide) h102
      rw [tCo e1 n1 n2, rCo hce n1 n2, hC.2.1, e2.2.1]
      exact ⟨_, _, 1, by decide, rfl, rfl, markX (x := 1) (by decide) (by omega) hC h3 e3 e4⟩
/-- what the reading leaves -/
def RdX (c m c' m' : MM) (code : Nat) : Prop := (∀ r, r ≠ 1 → (r < 8 ∨ 12 < r) → c' r = c r) ∧ (∀ r, r ≠ 144 → (r < 151 ∨ 154 < r) → m' r = m r) ∧ (∀ k, (k < 11 ∨ 17 < k) → m' 144 k = m 144 k) ∧ (code = 0 → c' 1 3 = 0 ∧ c' 1 4 = -1 ∧ m' 144 11 = -1 ∧ ∃ L f so, DR c' m' L f so) ∧ (code ≠ 0 → c' 1 3 = nI code ∧ ∃ a, c' 1 4 = nI a ∧ m' 144 11 = nI a)
theorem readX {tx : Nat → Nat} {n : Nat} (hn : n ≤ 240) (ht : ∀ k, k < n → tx k ≤ 255) : ∀ (j p p0 l f1 f2 : Nat) (c m : MM) (L : LG) (f : Nat) (so : Nat → Nat), n - p ≤ j → p ≤ n → p0 ≤ n → sk tx n p0 = p → l ≤ p → j + 1 < f1 → j + 1 < f2 → PC c tx n p → PR m tx n p0 → c 1 3 = 0 → c 1 4 = -1 → m 144 11 = -1 → DR c m L f so → ∃ c' m' code z, f_X4_readInto_L25 8 f1 (nI l) c = some (z, c') ∧ f_X7_dale_L17 f2 0 m = some (nI code, m') ∧ code ≤ 3 ∧ RdX c m c' m' code := by
  intro j
  induction j with
  | zero =>
    intro p p0 l f1 f2 c m L f so hj hp hp0 hsk hl hf1 hf2 hC hR h3 h4 h11 hD
    obtain ⟨f1, rfl⟩ : ∃ j, f1 = j + 1 := ⟨f1 - 1, by omega⟩
    obtain ⟨f2, rfl⟩ : ∃ j, f2 = j + 1 := ⟨f2 - 1, by omega⟩
    have : p = n := by omega
    obtain ⟨m1, e1, e2, e3, e4⟩ := hereR hn ht hp0 hR
    rw [hsk] at e1 e2
    unfold ltr at e1
    rw [if_neg (by omega)] at e1
    refine ⟨c, m1, 0, nI l, ?_, ?_, by decide, fun _ _ _ => rfl, fun r r1 _ => e3 r r1, fun k hk => e4 k (by omega), fun _ => ⟨h3, h4, by rw [e4 11 (by decide)]; exact h11, L, f, so, hD.of (fun _ _ _ => rfl) (e4 15 (by decide)) (e4 16 (by decide)) (e4 17 (by decide)) (fun r r1 r2 => e3 r (by omega))⟩, fun z => absurd rfl z⟩
    · simp only [f_X4_readInto_L25]
      by_cases h240 : (240 : Int32) ≤ nI l
      · rw [if_pos h240]
      · rw [if_neg h240, hC.1, hC.2.1, if_pos (nI_le (by omega) (by omega))]
    · simp only [f_X7_dale_L17]
      rw [if_pos trivial, e1, Option.bind_some, if_pos (show (-1 : Int32) < 0 by decide)]; rfl
  | succ j ih =>
    intro p p0 l f1 f2 c m L f so hj hp hp0 hsk hl hf1 hf2 hC hR h3 h4 h11 hD
    obtain ⟨f1, rfl⟩ : ∃ j, f1 = j + 1 := ⟨f1 - 1, by omega⟩
    obtain ⟨f2, rfl⟩ : ∃ j, f2 = j + 1 := ⟨f2 - 1, by omega⟩
    obtain ⟨m1, e1, e2, e3, e4⟩ := hereR hn ht hp0 hR
    rw [hsk] at e1 e2
    unfold ltr at e1
    have hD1 : DR c m1 L f so := hD.of (fun _ _ _ => rfl) (e4 15 (by decide)) (e4 16 (by decide)) (e4 17 (by decide)) (fun r r1 r2 => e3 r (by omega))
    by_cases hpn : p < n
    · rw [if_pos hpn] at e1
      have h32 : tx p ≠ 32 := by
        rcases sk_st (tx := tx) hp0 with h | h
        · rw [hsk] at h; omega
        · rw [hsk] at h; exact h
      obtain ⟨c2, m2, code, k1, k2, k3, g1, g2, g3, g4, ⟨q, q1, q2, q3, q4⟩, g5, g6⟩ := clauseX hn ht hpn h32 hC e2 h3 hD1
      obtain ⟨c3, s1, s2, s3, s4⟩ := skipC hn ht q2 q3
      have ht' := ht p hpn
      have hcl : f_X4_readInto_L25 8 (f1 + 1) (nI l) c = f_X4_readInto_L25 8 f1 (nI (l + 1)) c3 := by
        simp only [f_X4_readInto_L25]
        rw [if_neg (show ¬ (240 : Int32) ≤ nI l from nI_ge (b := 240) (by omega) (by omega)), hC.1, hC.2.1, if_neg (nI_ge hpn (by omega)), if_pos h3, k2, Option.bind_some, s1, Option.bind_some, nI_1]
      have hrf : f_X7_dale_L17 (f2 + 1) 0 m = f_X7_dale_L17 f2 (nI code) m2 := by
        simp only [f_X7_dale_L17]
        rw [if_pos trivial, e1, Option.bind_some, if_neg (nI_pos (by omega)), k3, Option.bind_some]
      have hsq := sk_le (tx := tx) q2
      by_cases hc0 : code = 0
      · subst hc0
        obtain ⟨y1, y2, y3, L', f', so', y4⟩ := g5 rfl
        obtain ⟨q4a, q4b⟩ := q4 rfl
        obtain ⟨c', m', code', z, o1, o2, o3, o4, o5, o6, o7, o8⟩ := ih (sk tx n q) q (l + 1) f1 f2 c3 m2 L' f' so' (by omega) hsq.2 q2 rfl (by omega) (by omega) (by omega) s2 q4b (by rw [s4 3 (by decide)]; exact y1) (by rw [s4 4 (by decide), y2]; exact h4) (by rw [y3, e4 11 (by decide)]; exact h11) (y4.of (fun r r1 r2 => s3 r (by omega)) rfl rfl rfl (fun _ _ _ => rfl))
        exact ⟨c', m', code', z, hcl.trans o1, hrf.trans o2, o3, fun r r1 r2 => by rw [o4 r r1 r2, s3 r r1, g1 r r1 r2], fun r r1 r2 => by rw [o5 r r1 r2, g3 r r1 r2, e3 r r1], fun k hk => by rw [o6 k hk, g4 k hk, e4 k (by omega)], o7, o8⟩
      · obtain ⟨y1, a, y2, y3⟩ := g6 hc0
        obtain ⟨f1, rfl⟩ : ∃ j, f1 = j + 1 := ⟨f1 - 1, by omega⟩
        obtain ⟨f2, rfl⟩ : ∃ j, f2 = j + 1 := ⟨f2 - 1, by omega⟩
        have hcn : ¬ nI code = 0 := nI_neI (b := 0) (by omega) (by decide) hc0
        refine ⟨c3, m2, code, nI (l + 1), ?_, ?_, k1, fun r r1 r2 => by rw [s3 r r1, g1 r r1 r2], fun r r1 r2 => by rw [g3 r r1 r2, e3 r r1], fun k hk => by rw [g4 k hk, e4 k (by omega)], fun z => absurd z hc0, fun _ => ⟨by rw [s4 3 (by decide)]; exact y1, a, by rw [s4 4 (by decide)]; exact y2, y3⟩⟩
        · rw [hcl]
          simp only [f_X4_readInto_L25]
          have hf : ¬ c3 1 3 = 0 := by rw [s4 3 (by decide), y1]; exact hcn
          rw [if_neg hf]
          split
          · rfl
          · split <;> rfl
        · rw [hrf]
          simp only [f_X7_dale_L17]
          rw [if_neg hcn]
    · rw [if_neg hpn] at e1
      refine ⟨c, m1, 0, nI l, ?_, ?_, by decide, fun _ _ _ => rfl, fun r r1 _ => e3 r r1, fun k hk => e4 k (by omega), fun _ => ⟨h3, h4, by rw [e4 11 (by decide)]; exact h11, L, f, so, hD1⟩, fun z => absurd rfl z⟩
      · simp only [f_X4_readInto_L25]
        by_cases h240 : (240 : Int32) ≤ nI l
        · rw [if_pos h240]
        · rw [if_neg h240, hC.1, hC.2.1, if_pos (nI_le (by omega) (by omega))]
      · simp only [f_X7_dale_L17]
        rw [if_pos trivial, e1, Option.bind_some, if_pos (show (-1 : Int32) < 0 by decide)]; rfl
