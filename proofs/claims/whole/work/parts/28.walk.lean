/-! a walk down the becks with a number that each beck changes -/
def wlk (L : LG) (D b : Nat) (G : Nat → Nat → Nat) : Nat → Nat → Nat → Option Nat
  | 0, _, _ => none
  | k + 1, a, x => if a = 0 then none else if nx L a = b then some (G a x) else if D.testBit (nx L a) then none else wlk L D b G k (nx L a) (G a x)
theorem wlk_bit {L : LG} (hI : LI L) (D b : Nat) (G : Nat → Nat → Nat) : ∀ (k a x : Nat), a < nF L → a < k → ((dw L D a).testBit b = (wlk L D b G k a x).isSome) := by
  intro k
  induction k with
  | zero => intro a x _ h; omega
  | succ k ih =>
    intro a x hF hk
    unfold wlk
    by_cases h0 : a = 0
    · subst h0; rw [if_pos rfl, dw_0]; simp
    · have hx := (hI.2.2.2.2.2 a (by omega) hF).1
      rw [if_neg h0, dw_s hI D (by omega) hF, Nat.testBit_or, Nat.testBit_two_pow]
      by_cases hb : nx L a = b
      · rw [if_pos hb]; simp [hb]
      · rw [if_neg hb]
        by_cases hd : D.testBit (nx L a) = true
        · rw [if_pos hd, if_pos hd]; simp [hb]
        · rw [if_neg hd, if_neg hd, ih (nx L a) (G a x) (by omega) (by omega)]; simp [hb]
/-- how words fare over a fall -/
def g1 (s k W w : Nat) : Nat := if s = 1 then (w + k) % W else if s = 2 then (if w ≤ k then w else k) else if s = 3 then W - 1 - w else if s = 4 then (if k ≤ w then w else k) else w
theorem g1_lt {s k W w : Nat} (hk : k < W) (hw : w < W) : g1 s k W w < W := by
  unfold g1
  have := Nat.mod_lt (w + k) (show W > 0 by omega)
  repeat' split
  all_goals omega
theorem g1C_dec : ∀ s, s < 5 → ∀ W, W < 10 → ∀ k, k < W → ∀ w, w < W → f_X6_garbledOnce (nI s) (nI k) (nI W) (nI w) (fun _ _ => 0) = nI (g1 s k W w) := by decide +kernel
theorem g1C {s k W w : Nat} (hs : s ≤ 4) (hW : W ≤ 9) (hk : k < W) (hw : w < W) (μ : MM) : f_X6_garbledOnce (nI s) (nI k) (nI W) (nI w) μ = nI (g1 s k W w) := g1C_dec s (by omega) W (by omega) k hk w hw
theorem g1R_dec : ∀ s, s < 5 → ∀ W, W < 10 → ∀ k, k < W → ∀ w, w < W → (if nI s = 1 then gd (¬ nI W = 0) (some (rm (nI w + nI k) (nI W))) else if nI s = 2 then if nI w ≤ nI k then some (nI w) else some (nI k) else if nI s = 3 then some ((nI W - 1) - nI w) else if nI s = 4 then if nI k ≤ nI w then some (nI w) else some (nI k) else some (nI w)) = some (nI (g1 s k W w)) := by decide +kernel
theorem g1R {s k W w : Nat} {m : MM} (hm : m 144 0 = nI W) (hs : s ≤ 4) (hW : W ≤ 9) (hk : k < W) (hw : w < W) : f_X7_garbleBy (nI s) (nI k) (nI w) m = some (nI (g1 s k W w)) := by
  unfold f_X7_garbleBy
  rw [hm]
  exact g1R_dec s (by omega) W (by omega) k hk w hw
/-- over the fall of a farm's beck, by the flow -/
def gf (L : LG) (fl : Nat) (so : Nat → Nat) (a w : Nat) : Nat := if fl < 7 then g1 (so a) (ky L a) (nW L) w else g1 (so a) (ky L a) (nW L) (g1 (so a) (ky L a) (nW L) w)
theorem gf_lt {L : LG} (hI : LI L) {fl : Nat} {so : Nat → Nat} {a w : Nat} (h0 : 0 < a) (hF : a < nF L) (hw : w < nW L) : gf L fl so a w < nW L := by
  have hk := (hI.2.2.2.2.2 a h0 hF).2.2.2
  unfold gf
  split
  · exact g1_lt hk hw
  · exact g1_lt hk (g1_lt hk hw)
theorem gfC {c : MM} {L : LG} (hI : LI L) (hC : LC c L) {w fl : Nat} {so : Nat → Nat} (hal : aln (w + 3) = 9) (hfl : fl ≤ 9) (h1 : c w 1 = nI fl) (h2 : ∀ a, a < nF L → c (w + 3) a = nI (so a)) (h3 : ∀ a, a < nF L → so a ≤ 4) {a x : Nat} (h0 : 0 < a) (hF : a < nF L) (hx : x < nW L) : f_X5_garbled w 3 (nI a) (nI x) c = nI (gf L fl so a x) := by
  have hF9 := hI.1
  have hW9 := hI.2.1
  have hk := (hI.2.2.2.2.2 a h0 hF).2.2.2
  have hs := h3 a hF
  simp only [f_X5_garbled, bd]
  rw [cellC (n := 9) c hal (by omega) (by decide), show 3 + 4 = 7 from rfl, cellC (n := 9) c rfl (by omega) (by decide), h2 a hF, (hC.2.2 a hF).2.2, hC.1, g1C hs hW9 hk hx, g1C hs hW9 hk (g1_lt hk hx), h1]
  unfold gf
  by_cases h : fl < 7
  · rw [if_pos (show nI fl < 7 from nI_lt (b := 7) h (by decide)), if_pos h]
  · rw [if_neg (show ¬ nI fl < 7 from nI_nlt (b := 7) (by omega) (by omega)), if_neg h]
theorem gdI2 {α : Type} {n N : Nat} {x : Option α} (h : n < N) (hN : N < 2 ^ 31) : gd (¬ (nI n < 0 ∨ N ≤ n)) x = x := gd_t (fun q => q.elim (nI_pos (by omega)) (by omega))
theorem gfR {m : MM} {L : LG} (hI : LI L) (hR : LR m L) {fl : Nat} {so : Nat → Nat} (hfl : fl ≤ 9) (h1 : m 149 10 = nI fl) (h2 : ∀ a, a < nF L → m 149 a = nI (so a)) (h3 : ∀ a, a < nF L → so a ≤ 4) {a x : Nat} (h0 : 0 < a) (hF : a < nF L) (hx : x < nW L) : f_X7_overFall (nI a) (nI x) m = some (nI (gf L fl so a x)) := by
  have hF9 := hI.1
  have hW9 := hI.2.1
  have hk := (hI.2.2.2.2.2 a h0 hF).2.2.2
  have hs := h3 a hF
  have k0 : (0 : Int32) + nI a = nI a := by rw [z0, nI_add, Nat.zero_add]
  unfold f_X7_overFall
  rw [k0, gdI (show a < 66 by omega) (by decide), gdI (show a < 9 by omega) (by decide), nI_clamp (by omega), h2 a hF, (hR.2.2.2 a hF).2.2, g1R hR.1 hs hW9 hk hx, h1]
  simp only [Option.bind_some]
  unfold gf
  by_cases h : fl < 7
  · rw [if_pos (show nI fl < 7 from nI_lt (b := 7) h (by decide)), if_pos h]
  · rw [if_neg (show ¬ nI fl < 7 from nI_nlt (b := 7) (by omega) (by omega)), if_neg h, gdI2 (show a < 66 by omega) (by decide), gdI2 (show a < 9 by omega) (by decide), g1R hR.1 hs hW9 hk (g1_lt hk hx)]
    rfl
/-- land, dams, flow and sorts on both sides -/
def Env3 (c m : MM) (L : LG) (D fl : Nat) (so : Nat → Nat) : Prop := Env2 c m L D ∧ fl ≤ 9 ∧ c 24 1 = nI fl ∧ m 149 10 = nI fl ∧ (∀ a, a < nF L → c 27 a = nI (so a)) ∧ (∀ a, a < nF L → m 149 a = nI (so a)) ∧ ∀ a, a < nF L → so a ≤ 4
theorem env3_of {c m : MM} {n : Nat} {L : LG} {A : WS} {P : List WS} {I0 I1 : IM} (h : RelS c m n L A P I0 I1) : Env3 c m L (dmm A) (flw A) (srt A) := by
  have H := env_of h
  obtain ⟨h1, h2, ⟨hI, hC, hR⟩, ⟨⟨⟨hs, ht, hl, ha1, ha2, ha3⟩, ⟨rs, rt, rl, ra1, ra2, ra3⟩, hW⟩, h4b⟩, h5, h6, h7, h8, h9⟩ := h
  exact ⟨H, hW.1, hs.2.1, rs.2.1, ha1, fun a ha => by have := ra1 a ha; rwa [Nat.zero_add] at this, hW.2.2.2.2.2.2.1⟩
theorem waC {c m : MM} {L : LG} {D fl : Nat} {so : Nat → Nat} (H : Env3 c m L D fl so) {b : Nat} (hb : b < nF L) (l1 l3 : Int32) : ∀ (k a : Nat), a < nF L → a < k → k ≤ 9 → ∀ (x n step : Nat), x < nW L → step + a ≤ 8 → a < n → (∃ q, f_X6_wordAt_L9 l1 (nI b) l3 c n (nI x) (nI a) (nI step) = some (.inl q) ∧ wlk L D b (gf L fl so) k a x = none) ∨ ∃ v, v < nW L ∧ f_X6_wordAt_L9 l1 (nI b) l3 c n (nI x) (nI a) (nI step) = some (.inr (nI v)) ∧ wlk L D b (gf L fl so) k a x = some v := by
  obtain ⟨⟨hI, hC, hR, hD, hc, hm⟩, hfl, e1, e2, e3, e4, e5⟩ := H
  have hF9 := hI.1
  intro k
  induction k with
  | zero => intro a _ h; omega
  | succ k ih =>
    intro a hF h hk9 x n step hx h1 h2
    obtain ⟨n, rfl⟩ : ∃ j, n = j + 1 := ⟨n - 1, by omega⟩
    simp only [f_X6_wordAt_L9, wlk, bd]
    rw [if_neg (show ¬ (9 : Int32) ≤ nI step from nI_ge (b := 9) (by omega) (by decide))]
    by_cases h0 : a = 0
    · subst h0
      rw [if_pos (show nI 0 = 0 from rfl), if_pos rfl]
      exact Or.inl ⟨_, rfl, rfl⟩
    · have hxl := (hI.2.2.2.2.2 a (by omega) hF).1
      rw [if_neg (show ¬ nI a = 0 from nI_neI (b := 0) (by omega) (by decide) h0), if_neg h0, cellC (n := 9) c rfl (by omega) (by decide), (hC.2.2 a hF).1, gfC (so := so) hI hC rfl hfl e1 e3 e5 (by omega) hF hx]
      have hg := gf_lt (fl := fl) (so := so) hI (by omega : 0 < a) hF hx
      by_cases hb2 : nx L a = b
      · rw [if_pos (by rw [hb2]), if_pos hb2]
        exact Or.inr ⟨_, hg, rfl, rfl⟩
      · rw [if_neg (nI_neI (by omega) (by omega) hb2), if_neg hb2, onFrom hD hc (by omega), nI_1]
        by_cases hd : D.testBit (nx L a) = true
        · rw [if_pos hd, if_pos hd]
          obtain ⟨n, rfl⟩ : ∃ j, n = j + 1 := ⟨n - 1, by omega⟩
          simp only [f_X6_wordAt_L9]
          rw [if_neg (show ¬ (9 : Int32) ≤ nI (step + 1) from nI_ge (b := 9) (by omega) (by decide))]
          exact Or.inl ⟨_, rfl, trivial⟩
        · rw [if_neg hd, if_neg hd]
          exact ih (nx L a) (by omega) (by omega) (by omega) _ n (step + 1) hg (by omega) (by omega)
theorem waR {c m : MM} {L : LG} {D fl : Nat} {so : Nat → Nat} (H : Env3 c m L D fl so) {b : Nat} (hb : b < nF L) (l1 l3 : Int32) : ∀ (k a : Nat), a < nF L → ∀ (x v n : Nat), x < nW L → a < n → wlk L D b (gf L fl so) k a x = some v → b < a ∧ f_X7_wordAt_L6 l1 (nI b) l3 m n (nI a) (nI x) = some (nI b, nI v) := by
  obtain ⟨⟨hI, hC, hR, hD, hc, hm⟩, hfl, e1, e2, e3, e4, e5⟩ := H
  have hF9 := hI.1
  intro k
  induction k with
  | zero => intro a _ x v n _ _ h; cases h
  | succ k ih =>
    intro a hF x v n hx hn hw
    obtain ⟨n, rfl⟩ : ∃ j, n = j + 1 := ⟨n - 1, by omega⟩
    unfold wlk at hw
    by_cases h0 : a = 0
    · rw [if_pos h0] at hw; cases hw
    · have hxl := (hI.2.2.2.2.2 a (by omega) hF).1
      have hg := gf_lt (fl := fl) (so := so) hI (by omega : 0 < a) hF hx
      rw [if_neg h0] at hw
      have key : ∀ hne : ¬ a = b, f_X7_wordAt_L6 l1 (nI b) l3 m (n + 1) (nI a) (nI x) = f_X7_wordAt_L6 l1 (nI b) l3 m n (nI (nx L a)) (nI (gf L fl so a x)) := by
        intro hne
        simp only [f_X7_wordAt_L6, bd]
        rw [if_neg (nI_neI (by omega) (by omega) hne), gfR (so := so) hI hR hfl e2 e4 e5 (by omega) hF hx, Option.bind_some, gdI (by omega) (by decide), nI_clamp (by omega), (hR.2.2.2 a hF).1]
      by_cases hb2 : nx L a = b
      · rw [if_pos hb2] at hw
        cases hw
        refine ⟨by omega, ?_⟩
        rw [key (by omega), hb2]
        obtain ⟨n, rfl⟩ : ∃ j, n = j + 1 := ⟨n - 1, by omega⟩
        simp only [f_X7_wordAt_L6, ↓reduceIte]
      · rw [if_neg hb2] at hw
        by_cases hd : D.testBit (nx L a) = true
        · rw [if_pos hd] at hw; cases hw
        · rw [if_neg hd] at hw
          obtain ⟨q1, q2⟩ := ih (nx L a) (by omega) _ v n hg (by omega) hw
          exact ⟨by omega, by rw [key (by omega)]; exact q2⟩
/-- what a word said at a is at b: both sides -/
theorem wordX {c m : MM} {L : LG} {D fl : Nat} {so : Nat → Nat} (H : Env3 c m L D fl so) {a b x : Nat} (ha : a < nF L) (hb : b < nF L) (hx : x < nW L) :
    (∃ v, v < nW L ∧ f_X6_wordAt (nI a) (nI b) (nI x) c = some (nI v) ∧ (dw L D a).testBit b = true ∧ f_X7_wordAt (nI a) (nI b) (nI x) m = some (nI v)) ∨ (f_X6_wordAt (nI a) (nI b) (nI x) c = some (-1) ∧ (dw L D a).testBit b = false) := by
  have hF9 := H.1.1.1
  have hbit := wlk_bit H.1.1 D b (gf L fl so) 9 a x ha (by omega)
  rcases waC H hb (nI a) (nI x) 9 a ha (by omega) (by omega) x FU 0 hx (by omega) (by unfold FU; omega) with ⟨q, e1, e2⟩ | ⟨v, hv, e1, e2⟩
  · refine Or.inr ⟨?_, by rw [hbit, e2]; rfl⟩
    unfold f_X6_wordAt
    rw [show f_X6_wordAt_L9 (nI a) (nI b) (nI x) c FU (nI x) (nI a) 0 = f_X6_wordAt_L9 (nI a) (nI b) (nI x) c FU (nI x) (nI a) (nI 0) from rfl, e1]; rfl
  · refine Or.inl ⟨v, hv, ?_, by rw [hbit, e2]; rfl, ?_⟩
    · unfold f_X6_wordAt
      rw [show f_X6_wordAt_L9 (nI a) (nI b) (nI x) c FU (nI x) (nI a) 0 = f_X6_wordAt_L9 (nI a) (nI b) (nI x) c FU (nI x) (nI a) (nI 0) from rfl, e1]; rfl
    · unfold f_X7_wordAt
      rw [(waR H hb (nI a) (nI x) 9 a ha x v FU hx (by unfold FU; omega) e2).2]; rfl
theorem hasD {c m : MM} {L : LG} {D : Nat} (H : Env2 c m L D) {a b : Nat} (ha : a < nF L) (hb : b < nF L) : f_X7_has (nI (dw L D a)) (nI b) m = if (dw L D a).testBit b then 1 else 0 := by
  have hF9 := H.1.1
  exact has_nI (dw_lt H.1 D a a (Nat.le_refl a) ha) (by omega) m
theorem ok_becomes {c m : MM} (h : Rel c m) (x y z : Int32) : Ok c m ((f_X6_becomes x y z c).map fun r => (r, c)) ((f_X7_becomes x y z m).map fun r => (r, m)) := by
  apply ok_pure h
  obtain ⟨n, L, A, P, I0, I1, hr⟩ := id h
  have H := env3_of hr
  have H2 := H.1
  simp only [f_X6_becomes, f_X7_becomes, bd]
  rcases farm_cs H2.1 H2.2.1 H2.2.2.1 x with ⟨a, ha, rfl, e1, e2⟩ | ⟨e1, e2⟩
  · rcases farm_cs H2.1 H2.2.1 H2.2.2.1 y with ⟨b, hb, rfl, d1, d2⟩ | ⟨d1, d2⟩
    · rcases word_cs H2.1 H2.2.1 H2.2.2.1 z with ⟨w, hw, rfl, g1, g2⟩ | ⟨g1, g2⟩
      · rw [e1, e2, if_neg one_ne, if_neg one_ne, d1, d2, if_neg one_ne, if_neg one_ne, g1, g2, if_neg one_ne, if_neg one_ne, (downX H2 ha).2, Option.bind_some, hasD H2 ha hb]
        rcases wordX H ha hb hw with ⟨v, hv, q1, q2, q3⟩ | ⟨q1, q2⟩
        · rw [q1, if_pos q2, if_neg one_ne, q3]; exact ⟨_, rfl, rfl⟩
        · rw [q1, q2]; exact ⟨_, rfl, rfl⟩
      · rw [e1, e2, if_neg one_ne, if_neg one_ne, d1, d2, if_neg one_ne, if_neg one_ne, g1, g2, if_pos rfl, if_pos rfl]; exact ⟨_, rfl, rfl⟩
    · rw [e1, e2, if_neg one_ne, if_neg one_ne, d1, d2, if_pos rfl, if_pos rfl]; exact ⟨_, rfl, rfl⟩
  · rw [e1, e2, if_pos rfl, if_pos rfl]; exact ⟨_, rfl, rfl⟩
