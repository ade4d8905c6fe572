/-! clauses -/
theorem StC.tr {c c1 c2 : MM} {k1 k2 a1 a2 : Nat} (h1 : StC c c1 k1 a1) (h2 : StC c1 c2 k2 a2) (hk : k1 < 9) : StC c c2 (if k1 = 0 then k2 else k1) (if k1 = 0 then a2 else a1) := by
  obtain ⟨f1, f2, f3, f4⟩ := h1
  obtain ⟨g1, g2, g3, g4⟩ := h2
  refine ⟨fun r hr => by rw [g1 r hr, f1 r hr], fun i i1 i2 i3 => by rw [g2 i i1 i2 i3, f2 i i1 i2 i3], fun q => ?_, fun q1 q2 => ?_⟩
  · by_cases h0 : c 1 3 = 0
    · by_cases hk1 : k1 = 0
      · rw [if_pos hk1] at q
        have hk2 : k2 = 0 := q.resolve_left (fun z => z h0)
        obtain ⟨u1, u2⟩ := f3 (Or.inr hk1)
        obtain ⟨v1, v2⟩ := g3 (Or.inr hk2)
        rw [v1, v2]; exact ⟨u1, u2⟩
      · rw [if_neg hk1] at q
        exact absurd (q.resolve_left (fun z => z h0)) hk1
    · obtain ⟨u1, u2⟩ := f3 (Or.inl h0)
      obtain ⟨v1, v2⟩ := g3 (Or.inl (by rw [u1]; exact h0))
      rw [v1, v2]; exact ⟨u1, u2⟩
  · by_cases hk1 : k1 = 0
    · rw [if_pos hk1] at q2
      rw [if_pos hk1, if_pos hk1]
      obtain ⟨u1, u2⟩ := f3 (Or.inr hk1)
      exact g4 (by rw [u1]; exact q1) q2
    · rw [if_neg hk1] at q2
      rw [if_neg hk1, if_neg hk1]
      obtain ⟨u1, u2⟩ := f4 q1 hk1
      obtain ⟨v1, v2⟩ := g3 (Or.inl (by rw [u1]; exact nI_neI (b := 0) (by omega) (by decide) hk1))
      rw [v1, v2]; exact ⟨u1, u2⟩
/-- the reference's end of a clause -/
def tail (j : Int32 × MM) : Option (Int32 × MM) := if j.1 = 0 then (f_X7_here j.2).bind fun x => if x.1 = 59 then some (j.1, up2 x.2 144 12 ((x.2 144 12) + 1)) else some (1, up2 x.2 144 11 (x.2 144 12)) else some (j.1, up2 j.2 144 12 ((j.2 144 12) + 1))
theorem tC98 {m m1 : MM} (h : f_X7_here m = some (98, m1)) : f_X7_takeClause m = if m1 144 17 ≤ 0 then (f_X7_takeBeck (up2 m1 144 12 ((m1 144 12) + 1))).bind tail else some (3, up2 m1 144 11 (m1 144 12)) := by
  unfold f_X7_takeClause tail
  rw [h, Option.bind_some]
  by_cases h17 : m1 144 17 ≤ 0
  · simp [h17, bd, f_X7_fails]
    cases f_X7_takeBeck (up2 m1 144 12 (m1 144 12 + 1)) <;> rfl
  · simp [h17, bd, f_X7_fails]
theorem tC102 {m m1 : MM} (h : f_X7_here m = some (102, m1)) : f_X7_takeClause m = if m1 144 17 = 0 then some (1, up2 m1 144 11 (m1 144 12)) else if m1 144 17 = 9 then some (3, up2 m1 144 11 (m1 144 12)) else (f_X7_takeFarm (up2 m1 144 12 ((m1 144 12) + 1))).bind tail := by
  unfold f_X7_takeClause tail
  rw [h, Option.bind_some]
  by_cases h17 : m1 144 17 = 0
  · simp [h17, bd, f_X7_fails]
  · by_cases h9 : m1 144 17 = 9
    · simp [h9, bd, f_X7_fails]
    · simp [h17, h9, bd, f_X7_fails]
      cases f_X7_takeFarm (up2 m1 144 12 (m1 144 12 + 1)) <;> rfl
theorem tCo {m m1 : MM} {x : Int32} (h : f_X7_here m = some (x, m1)) (h1 : ¬ x = 98) (h2 : ¬ x = 102) : f_X7_takeClause m = some (1, up2 m1 144 11 (m1 144 12)) := by
  unfold f_X7_takeClause
  rw [h, Option.bind_some]
  simp [h1, h2, bd, f_X7_fails]
theorem rC98 {c : MM} (h : f_X6_cell 2 (c 1 2) c = 98) : f_X4_readClause 8 c = if c 8 2 = 0 then f_X4_readBecks 8 (up2 c 1 2 ((c 1 2) + 1)) else some (f_X4_mark 3 (c 1 2) c) := by
  unfold f_X4_readClause
  rw [h]
  by_cases h0 : c 8 2 = 0
  · simp [h0, bd]
  · simp [h0, bd]
theorem rC102 {c : MM} (h : f_X6_cell 2 (c 1 2) c = 102) : f_X4_readClause 8 c = if c 8 2 < 9 then (if c 8 2 = 0 then some (f_X4_mark 1 (c 1 2) c) else f_X4_readFarm 8 (up2 c 1 2 ((c 1 2) + 1))) else some (f_X4_mark 3 (c 1 2) c) := by
  unfold f_X4_readClause
  rw [h]
  by_cases h0 : c 8 2 = 0
  · simp [h0, bd]
  · by_cases h9 : c 8 2 < 9
    · simp [h0, h9, bd]
    · simp [h0, h9, bd]
theorem rCo {c : MM} {x : Int32} (h : f_X6_cell 2 (c 1 2) c = x) (h1 : ¬ x = 98) (h2 : ¬ x = 102) : f_X4_readClause 8 c = some (f_X4_mark 1 (c 1 2) c) := by
  unfold f_X4_readClause
  rw [h]
  simp [h1, h2, bd]
theorem PR.of {m m' : MM} {tx : Nat → Nat} {n p : Nat} (h : PR m tx n p) (e1 : m' 144 10 = m 144 10) (e2 : m' 144 12 = m 144 12) (e3 : m' 150 = m 150) : PR m' tx n p := ⟨by rw [e1]; exact h.1, by rw [e2]; exact h.2.1, fun k hk => by rw [e3]; exact h.2.2 k hk⟩
theorem tailX {m : MM} {tx : Nat → Nat} {n q code a : Nat} (hn : n ≤ 240) (ht : ∀ k, k < n → tx k ≤ 255) (hq : q ≤ n) (hc : code ≤ 3) (hP : code = 0 → PR m tx n q) (h11 : code ≠ 0 → m 144 11 = nI a) : ∃ m', tail (nI code, m) = some (nI (if code = 0 then cEnd tx n q else code), m') ∧ (∀ r, r ≠ 144 → m' r = m r) ∧ (∀ k, k ≠ 11 → k ≠ 12 → m' 144 k = m 144 k) ∧ ((if code = 0 then cEnd tx n q else code) = 0 → PR m' tx n (sk tx n q + 1) ∧ m' 144 11 = m 144 11) ∧ ((if code = 0 then cEnd tx n q else code) ≠ 0 → m' 144 11 = nI (if code = 0 then sk tx n q else a)) := by
  have hs := sk_le (tx := tx) hq
  unfold tail
  dsimp only
  by_cases h0 : code = 0
  · subst h0
    rw [if_pos (show nI 0 = 0 from rfl), if_pos rfl, if_pos rfl]
    obtain ⟨m1, e1, e2, e3, e4⟩ := hereR hn ht hq (hP rfl)
    rw [e1, Option.bind_some]
    unfold cEnd ltr
    by_cases h : sk tx n q < n
    · have ht' := ht _ h
      dsimp only
      rw [e2.2.1, nI_1]
      by_cases h5 : tx (sk tx n q) = 59
      · rw [if_pos (show (if sk tx n q < n then nI (tx (sk tx n q)) else -1) = 59 by rw [if_pos h, h5]; rfl), if_pos ⟨h, h5⟩]
        exact ⟨_, rfl, fun r hr => by rw [up2_ro hr, e3 r hr], fun k k1 k2 => by rw [up2_ne (Or.inr k2), e4 k k2], fun _ => ⟨e2.to _, by rw [up2_ne (by omega), e4 11 (by decide)]⟩, fun z => absurd rfl z⟩
      · rw [if_neg (show ¬ (if sk tx n q < n then nI (tx (sk tx n q)) else -1) = 59 by rw [if_pos h]; exact nI_neI (b := 59) (by omega) (by decide) h5), if_neg (fun z => h5 z.2)]
        exact ⟨_, rfl, fun r hr => by rw [up2_ro hr, e3 r hr], fun k k1 k2 => by rw [up2_ne (Or.inr k1), e4 k k2], fun z => absurd z (by decide), fun _ => up2_eq _ _ _ _⟩
    · dsimp only
      rw [e2.2.1, if_neg (show ¬ (if sk tx n q < n then nI (tx (sk tx n q)) else -1) = 59 by rw [if_neg h]; decide), if_neg (fun z => h z.1)]
      exact ⟨_, rfl, fun r hr => by rw [up2_ro hr, e3 r hr], fun k k1 k2 => by rw [up2_ne (Or.inr k1), e4 k k2], fun z => absurd z (by decide), fun _ => up2_eq _ _ _ _⟩
  · rw [if_neg (show ¬ nI code = 0 from nI_neI (b := 0) (by omega) (by decide) h0), if_neg h0, if_neg h0]
    exact ⟨_, rfl, fun r hr => up2_ro hr, fun k k1 k2 => up2_ne (Or.inr k2), fun z => absurd z h0, fun _ => by rw [up2_ne (by omega)]; exact h11 h0⟩
theorem intoR {m : MM} {tx : Nat → Nat} {n p a b R F : Nat} (hn : n ≤ 240) (ht : ∀ k, k < n → tx k ≤ 255) (hp : p ≤ n) (ha : a ≤ 9) (hb : b ≤ 9) (hR : 151 ≤ R) (hR9 : aln R = 9) (hF : F < 9) (hP : PR m tx n p) : ∃ m', f_X7_into R (nI F) (nI a) (nI b) m = some (nI (nC tx n p a b), m') ∧ PR m' tx n (nQ tx n p) ∧ (∀ r, r ≠ 144 → r ≠ R → m' r = m r) ∧ (∀ k, k ≠ F → m' R k = m R k) ∧ (∀ k, (k < 11 ∨ 14 < k) → m' 144 k = m 144 k) ∧ (nC tx n p a b = 0 → m' 144 11 = m 144 11 ∧ m' R F = nI (nV tx n p)) ∧ (nC tx n p a b ≠ 0 → m' 144 11 = nI (sk tx n p)) := by
  obtain ⟨m1, e1, e2, ⟨e3, e4, e5, e6⟩, e7⟩ := numR hn ht hp ha hb hP
  unfold f_X7_into
  rw [e1, Option.bind_some, hR9, gdI hF (by decide), nI_clamp (by omega), bdE]
  refine ⟨_, rfl, e2.of (by rw [up2_ro (by omega)]) (by rw [up2_ro (by omega)]) (up2_ro (by omega)), fun r r1 r2 => by rw [up2_ro r2]; exact e3 r r1, fun k hk => ?_, fun k hk => ?_, fun q => ⟨?_, ?_⟩, fun q => ?_⟩
  · rw [up2_ne (Or.inr hk)]
    show m1 R k = m R k
    rw [e3 R (by omega)]
  · rw [up2_ro (by omega)]; exact e4 k hk
  · rw [up2_ro (by omega)]; exact e5 q
  · rw [up2_eq]; exact e7 q
  · rw [up2_ro (by omega)]; exact e6 q
/-- what has been read so far -/
def DR (c m : MM) (L : LG) (f : Nat) (so : Nat → Nat) : Prop := LI L ∧ (f ≤ 9 ∧ so 0 = 0 ∧ (∀ a, a < nF L → so a ≤ 4) ∧ (nF L = 0 → f = 0)) ∧ (c 8 2 = nI (nF L) ∧ c 8 0 = nI (nW L) ∧ c 8 1 = nI f ∧ m 144 17 = nI (nF L) ∧ (0 < nF L → m 144 15 = nI (nW L) ∧ m 144 16 = nI f)) ∧ (∀ a, a < nF L → c 9 a = nI (nx L a) ∧ c 10 a = nI (fa L a) ∧ c 11 a = nI (so a) ∧ c 12 a = nI (ky L a)) ∧ ∀ a, 0 < a → a < nF L → m 151 a = nI (nx L a) ∧ m 152 a = nI (fa L a) ∧ m 153 a = nI (so a) ∧ m 154 a = nI (ky L a)
/-- what a clause leaves -/
def ClX (c m c' m' : MM) (tx : Nat → Nat) (n p code : Nat) : Prop := (∀ r, r ≠ 1 → (r < 8 ∨ 12 < r) → c' r = c r) ∧ (∀ i, i ≠ 2 → i ≠ 3 → i ≠ 4 → c' 1 i = c 1 i) ∧ (∀ r, r ≠ 144 → (r < 151 ∨ 154 < r) → m' r = m r) ∧ (∀ k, (k < 11 ∨ 17 < k) → m' 144 k = m 144 k) ∧ (∃ q, p ≤ q ∧ q ≤ n ∧ PC c' tx n q ∧ (code = 0 → p < q ∧ PR m' tx n q)) ∧ (code = 0 → c' 1 3 = 0 ∧ c' 1 4 = c 1 4 ∧ m' 144 11 = m 144 11 ∧ ∃ L f so, DR c' m' L f so) ∧ (code ≠ 0 → c' 1 3 = nI code ∧ ∃ a, c' 1 4 = nI a ∧ m' 144 11 = nI a)
theorem addC {c : MM} {F a b d e : Nat} (hF : F < 9) (h2 : c 8 2 = nI F) : ∃ c', f_X1_addFarm 8 (nI a) (nI b) (nI d) (nI e) c = c' ∧ (∀ r, (r < 8 ∨ 12 < r) → c' r = c r) ∧ (∀ k, k ≠ 2 → c' 8 k = c 8 k) ∧ c' 8 2 = nI (F + 1) ∧ (∀ i, i ≠ F → c' 9 i = c 9 i ∧ c' 10 i = c 10 i ∧ c' 11 i = c 11 i ∧ c' 12 i = c 12 i) ∧ c' 9 F = nI a ∧ c' 10 F = nI b ∧ c' 11 F = nI d ∧ c' 12 F = nI e := by
  unfold f_X1_addFarm
  rw [h2, show 8 + 1 = 9 from rfl, show 8 + 2 = 10 from rfl, show 8 + 3 = 11 from rfl, show 8 + 4 = 12 from rfl, putC (n := 9) _ _ rfl hF (by decide), bdE, up2_ro (by decide), h2, putC (n := 9) _ _ rfl hF (by decide), bdE, up2_ro (by decide), up2_ro (by decide), h2, putC (n := 9) _ _ rfl hF (by decide), bdE, up2_ro (by decide), up2_ro (by decide), up2_ro (by decide), h2, putC (n := 9) _ _ rfl hF (by decide), bdE, up2_ro (by decide), up2_ro (by decide), up2_ro (by decide), up2_ro (by decide), h2, nI_1, bdE]
  refine ⟨_, rfl, fun r hr => ?_, fun k hk => ?_, ?_, fun i hi => ⟨?_, ?_, ?_, ?_⟩, ?_, ?_, ?_, ?_⟩
  · rw [up2_ro (by omega), up2_ro (by omega), up2_ro (by omega), up2_ro (by omega), up2_ro (by omega)]
  · rw [up2_ne (Or.inr hk), up2_ro (by decide), up2_ro (by decide), up2_ro (by decide), up2_ro (by decide)]
  · rw [up2_eq]
  · rw [up2_ro (by decide), up2_ro (by decide), up2_ro (by decide), up2_ro (by decide), up2_ne (Or.inr hi)]
  · rw [up2_ro (by decide), up2_ro (by decide), up2_ro (by decide), up2_ne (Or.inr hi), up2_ro (by decide)]
  · rw [up2_ro (by decide), up2_ro (by decide), up2_ne (Or.inr hi), up2_ro (by decide), up2_ro (by decide)]
  · rw [up2_ro (by decide), up2_ne (Or.inr hi), up2_ro (by decide), up2_ro (by decide), up2_ro (by decide)]
  · rw [up2_ro (by decide), up2_ro (by decide), up2_ro (by decide), up2_ro (by decide), up2_eq]
  · rw [up2_ro (by decide), up2_ro (by decide), up2_ro (by decide), up2_eq]
  · rw [up2_ro (by decide), up2_ro (by decide), up2_eq]
  · rw [up2_ro (by decide), up2_eq]
