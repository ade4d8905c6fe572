/-! what is heard: latest, how many, the log; the world without its talks -/
def CX (c : MM) (w F : Nat) (A : WS) : Prop := (c w 0 = nI (hrs A) ∧ c w 1 = nI (flw A) ∧ c w 2 = nI (fro A) ∧ c w 3 = nI (dmm A) ∧ c w 4 = nI (unl A) ∧ c w 6 = nI (lgs A).length) ∧ CL0 c w A ∧ CA0 c w F A
def RX (m : MM) (F : Nat) (A : WS) : Prop := (m 149 12 = nI (hrs A) ∧ m 149 10 = nI (flw A) ∧ m 149 11 = nI (fro A) ∧ m 149 9 = nI (dmm A) ∧ m 149 13 = nI (unl A) ∧ m 149 45 = nI (lgs A).length) ∧ RL0 m 149 0 A ∧ RA0 m 149 0 F A
def IX (L : LG) (A : WS) : Prop := flw A ≤ 9 ∧ fro A ≤ 1 ∧ (dmm A < 2 ^ nF L ∧ dmm A % 2 = 0) ∧ unl A ≤ 999999 ∧ ((lgs A).length ≤ 20 ∧ ∀ t ∈ lgs A, lgI t) ∧ (∀ a, a < nF L → srt A a ≤ 4) ∧ srt A 0 = 0 ∧ (∀ a, a < 9 → lat A a ≤ nW L) ∧ ∀ a, a < 9 → hrd A a ≤ 999999
def hearA (A : WS) (to w sd : Nat) : WS := (A.1, A.2.1, ((to, w, hrs A, sd) :: lgs A).take 20, srt A, (fun a => if a = to then w + 1 else lat A a), fun a => if a = to then min 999999 (hrd A a + 1) else hrd A a)
theorem minK {k N : Nat} {K : Int32} (hK : K = nI N) (hk : k ≤ N) (hN : N < 2 ^ 30) (μ : MM) : f_J9_min_7cf53 K (nI (k + 1)) μ = nI (min N (k + 1)) := by
  subst hK
  unfold f_J9_min_7cf53
  by_cases h : k + 1 < N
  · rw [if_pos (nI_lt h (by omega)), Nat.min_eq_right (by omega)]
  · rw [if_neg (nI_nlt (by omega) (by omega)), Nat.min_eq_left (by omega)]
theorem take20 {α : Type} (x : α) (l : List α) (i : Nat) : (((x :: l).take 20)[i]? = if i < 20 then (x :: l)[i]? else none) := by
  by_cases h : i < 20
  · rw [if_pos h, List.getElem?_take_of_lt h]
  · rw [if_neg h, List.getElem?_eq_none]; simp; omega
theorem hearC {c : MM} {w F : Nat} {A : WS} {to x sd : Nat} (hw : isW w) (hF : F ≤ 9) (hX : CX c w F A) (hlen : (lgs A).length ≤ 20) (hhd : ∀ a, a < 9 → hrd A a ≤ 999999) (hto : to < 9) : ∃ c', f_X5_hears w (nI to) (nI x) (nI sd) c = c' ∧ CX c' w F (hearA A to x sd) ∧ (∀ r, r ≠ w → r ≠ w + 2 → r ≠ w + 4 → r ≠ w + 5 → c' r = c r) ∧ c' w 5 = c w 5 := by
  obtain ⟨⟨s1, s2, s3, s4, s5, s7⟩, ⟨E, hE, s8, hl⟩, a1, a2, a3⟩ := hX
  have n2 := isW_n2 hw
  have n4 := isW_n4 hw
  have n5 := isW_n5 hw
  have hh := hhd to hto
  unfold f_X5_hears
  rw [putC (n := 9) _ _ n4 hto (by decide), bdE, cellC (n := 9) _ n5 hto (by decide), up2_ro (show w + 5 ≠ w + 4 by omega), a3 to hto, bdE, nI_1, minK (K := 999999) (N := 999999) rfl hh (by decide), bdE, putC (n := 9) _ _ n5 hto (by decide), bdE]
  rw [show up2 (up2 c (w + 4) to (nI x)) (w + 5) to (nI (min 999999 (hrd A to + 1))) w 7 = nI E by rw [up2_ro (by omega), up2_ro (by omega)]; exact s8, z4, pk_mul, bdE, z0, z1, z2, z3, nI_add, nI_add, nI_add, nI_add, putC (n := 80) _ _ n2 (by omega) (by decide), bdE, putC (n := 80) _ _ n2 (by omega) (by decide), bdE]
  rw [show up2 (up2 (up2 (up2 c (w + 4) to (nI x)) (w + 5) to (nI (min 999999 (hrd A to + 1)))) (w + 2) (4 * E + 0) (nI to)) (w + 2) (4 * E + 1) (nI x) w 0 = nI (hrs A) by rw [up2_ro (by omega), up2_ro (by omega), up2_ro (by omega), up2_ro (by omega)]; exact s1]
  rw [putC (n := 80) _ _ n2 (by omega) (by decide), bdE, putC (n := 80) _ _ n2 (by omega) (by decide), bdE]
  generalize hc1 : up2 (up2 (up2 (up2 (up2 (up2 c (w + 4) to (nI x)) (w + 5) to (nI (min 999999 (hrd A to + 1)))) (w + 2) (4 * E + 0) (nI to)) (w + 2) (4 * E + 1) (nI x)) (w + 2) (4 * E + 2) (nI (hrs A))) (w + 2) (4 * E + 3) (nI sd) = c1
  have f0 : c1 w = c w := by rw [← hc1, up2_ro (by omega), up2_ro (by omega), up2_ro (by omega), up2_ro (by omega), up2_ro (by omega), up2_ro (by omega)]
  have f2 : ∀ k, (k < 4 * E ∨ 4 * E + 4 ≤ k) → c1 (w + 2) k = c (w + 2) k := by
    intro k hk
    rw [← hc1, up2_ne (by omega), up2_ne (by omega), up2_ne (by omega), up2_ne (by omega), up2_ro (by omega), up2_ro (by omega)]
  have f2n : t4C c1 (w + 2) (4 * E) (to, x, hrs A, sd) := by
    rw [← hc1]
    refine ⟨?_, ?_, ?_, ?_⟩
    · rw [up2_ne (by omega), up2_ne (by omega), up2_ne (by omega)]; exact up2_eq _ _ _ _
    · rw [up2_ne (by omega), up2_ne (by omega), up2_eq]
    · rw [up2_ne (by omega), up2_eq]
    · rw [up2_eq]
  have f4 : ∀ a, c1 (w + 4) a = if a = to then nI x else c (w + 4) a := by
    intro a
    rw [← hc1, up2_ro (by omega), up2_ro (by omega), up2_ro (by omega), up2_ro (by omega), up2_ro (by omega)]
    by_cases ha : a = to
    · subst ha; rw [up2_eq, if_pos rfl]
    · rw [up2_ne (Or.inr ha), if_neg ha]
  have f5 : ∀ a, c1 (w + 5) a = if a = to then nI (min 999999 (hrd A to + 1)) else c (w + 5) a := by
    intro a
    rw [← hc1, up2_ro (by omega), up2_ro (by omega), up2_ro (by omega), up2_ro (by omega)]
    by_cases ha : a = to
    · subst ha; rw [up2_eq, if_pos rfl]
    · rw [up2_ne (Or.inr ha), if_neg ha, up2_ro (by omega)]
  have fo : ∀ r, r ≠ w + 2 → r ≠ w + 4 → r ≠ w + 5 → c1 r = c r := by
    intro r h1 h2 h3
    rw [← hc1, up2_ro h1, up2_ro h1, up2_ro h1, up2_ro h1, up2_ro h3, up2_ro h2]
  have e7 : c1 w 7 = nI E := by rw [f0]; exact s8
  have e6 : c1 w 6 = nI (lgs A).length := by rw [f0]; exact s7
  rw [e7, nI_add, z20, rm_nI (by omega) (by decide) (by decide), bdE, show up2 c1 w 7 (nI ((E + 1) % 20)) w 6 = nI (lgs A).length by rw [up2_ne (by omega)]; exact e6, nI_add, minK (K := nI 20) (N := 20) rfl hlen (by decide), bdE, bdE]
  refine ⟨_, rfl, ⟨⟨?_, ?_, ?_, ?_, ?_, ?_⟩, ⟨(E + 1) % 20, by omega, ?_, ?_⟩, ?_, ?_, ?_⟩, ?_, ?_⟩
  · rw [up2_ne (by omega), up2_ne (by omega), f0]; exact s1
  · rw [up2_ne (by omega), up2_ne (by omega), f0]; exact s2
  · rw [up2_ne (by omega), up2_ne (by omega), f0]; exact s3
  · rw [up2_ne (by omega), up2_ne (by omega), f0]; exact s4
  · rw [up2_ne (by omega), up2_ne (by omega), f0]; exact s5
  · rw [up2_eq]; show _ = nI (((to, x, hrs A, sd) :: lgs A).take 20).length; rw [List.length_take]; simp
  · rw [up2_ne (by omega), up2_eq]
  · intro i t hi
    have hi : (((to, x, hrs A, sd) :: lgs A).take 20)[i]? = some t := hi
    rw [take20] at hi
    by_cases h20 : i < 20
    · rw [if_pos h20] at hi
      unfold t4C
      rw [up2_ro (by omega), up2_ro (by omega)]
      cases i with
      | zero =>
        rw [List.getElem?_cons_zero] at hi
        cases hi
        rw [show ((E + 1) % 20 + 39 - 0) % 20 = E by omega]
        exact f2n
      | succ i =>
        rw [List.getElem?_cons_succ] at hi
        have := hl i t hi
        rw [show ((E + 1) % 20 + 39 - (i + 1)) % 20 = (E + 39 - i) % 20 by omega]
        exact this.mv (fun j hj => f2 _ (by omega))
    · rw [if_neg h20] at hi; cases hi
  · intro a ha; rw [up2_ro (by omega), up2_ro (by omega), fo _ (by omega) (by omega) (by omega)]; exact a1 a ha
  · intro a ha
    rw [up2_ro (by omega), up2_ro (by omega), f4]
    show _ = nI (if a = to then x + 1 else lat A a) - 1
    by_cases hat : a = to
    · rw [if_pos hat, if_pos hat, nI_pred]
    · rw [if_neg hat, if_neg hat]; exact a2 a ha
  · intro a ha
    rw [up2_ro (by omega), up2_ro (by omega), f5]
    show _ = nI (if a = to then min 999999 (hrd A a + 1) else hrd A a)
    by_cases hat : a = to
    · rw [if_pos hat, if_pos hat, hat]
    · rw [if_neg hat, if_neg hat]; exact a3 a ha
  · intro r h1 h2 h3 h4
    rw [up2_ro h1, up2_ro h1]; exact fo r h2 h3 h4
  · rw [up2_ne (by omega), up2_ne (by omega), f0]
/-- the reference's log makes room -/
theorem lgR (l1 l2 l3 : Int32) : ∀ (n k : Nat) (m : MM), 1 ≤ k → k ≤ 20 → 20 < n + k → ∃ m', f_X7_hears_L102 l1 l2 l3 n (nI k) m = some (nI 20, m') ∧ (∀ r, r ≠ 149 → m' r = m r) ∧ (∀ j, (j + 1 < 46 + k ∨ 65 ≤ j) → m' 149 j = m 149 j) ∧ ∀ j, 46 + k ≤ j + 1 → j < 65 → m' 149 j = m 149 (j + 1) := by
  intro n
  induction n with
  | zero => intro k m _ h1 h2; omega
  | succ n ih =>
    intro k m h0 h1 h2
    simp only [f_X7_hears_L102, bd]
    by_cases h : k = 20
    · subst h
      rw [if_pos (show (20 : Int32) ≤ nI 20 by decide)]
      exact ⟨m, rfl, fun _ _ => rfl, fun _ _ => rfl, fun j q1 q2 => by omega⟩
    · rw [if_neg (show ¬ (20 : Int32) ≤ nI k from nI_ge (b := 20) (by omega) (by decide)), z46, nI_add, show 46 + k = (45 + k) + 1 by omega, nI_pred, gdI (by omega) (by decide), gdI (by omega) (by decide), nI_clamp (by omega), nI_clamp (by omega), nI_1]
      obtain ⟨m', e1, e2, e3, e4⟩ := ih (k + 1) (up2 m 149 (45 + k) (m 149 (45 + k + 1))) (by omega) (by omega) (by omega)
      refine ⟨m', e1, fun r hr => by rw [e2 r hr, up2_ro hr], fun j hj => by rw [e3 j (by omega), up2_ne (by omega)], fun j q1 q2 => ?_⟩
      by_cases hk : j = 45 + k
      · subst hk; rw [e3 _ (by omega), up2_eq]
      · rw [e4 j (by omega) q2, up2_ne (by omega)]
/-- heard this hour, unlike: the reference's rows beside the class's two sets -/
def HU (m : MM) (H U : Nat) (A : WS) : Prop := ∀ a, a < 9 → m 155 a = (if H.testBit a then nI (lat A a) - 1 else -1) ∧ m 156 a = (if U.testBit a then 1 else 0)
