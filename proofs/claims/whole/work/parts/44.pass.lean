/-! an hour -/
theorem narB0 : vp_nar .boolean 0 = 0 := by decide +kernel
theorem goIni : ∀ (j k n : Nat) (m : MM), k + j = 9 → j < n → (∀ a, a < k → m 155 a = -1 ∧ m 156 a = 0) → ∃ m' z, f_X7_goAll_L2 n (nI k) m = some (z, m') ∧ (∀ a, a < 9 → m' 155 a = -1 ∧ m' 156 a = 0) ∧ ∀ r, r ≠ 155 → r ≠ 156 → m' r = m r := by
  intro j
  induction j with
  | zero =>
    intro k n m hk hn hm
    obtain ⟨n, rfl⟩ : ∃ j, n = j + 1 := ⟨n - 1, by omega⟩
    have : k = 9 := by omega
    subst this
    refine ⟨m, nI 9, ?_, hm, fun _ _ _ => rfl⟩
    simp only [f_X7_goAll_L2]
    rw [if_pos (show (9 : Int32) ≤ nI 9 from by decide)]
  | succ j ih =>
    intro k n m hk hn hm
    obtain ⟨n, rfl⟩ : ∃ j, n = j + 1 := ⟨n - 1, by omega⟩
    obtain ⟨m', z, h1, h2, h3⟩ := ih (k + 1) n (up2 (up2 m 155 k (-1)) 156 k 0) (by omega) (by omega) (fun a ha => by
      by_cases hak : a = k
      · subst hak; rw [up2_ro (by decide), up2_eq, up2_eq]; exact ⟨rfl, rfl⟩
      · rw [up2_ne (by omega), up2_ne (by omega), up2_ne (by omega), up2_ne (by omega)]; exact hm a (by omega))
    refine ⟨m', z, ?_, h2, fun r r1 r2 => by rw [h3 r r1 r2, up2_ro r2, up2_ro r1]⟩
    simp only [f_X7_goAll_L2]
    rw [if_neg (show ¬ (9 : Int32) ≤ nI k from nI_ge (b := 9) (by omega) (by omega)), gdI (by omega) (by decide), bdE, gdI (by omega) (by decide), bdE, nI_clamp (by omega), narB0, nI_1, h1]
def popF (U : Nat) : Nat → Nat → Nat
  | _, 0 => 0
  | k, j + 1 => (if U.testBit k then 1 else 0) + popF U (k + 1) j
theorem popF_dec : ∀ U, U < 512 → popF U 0 9 = pop U := by decide +kernel
theorem goCnt {U : Nat} {z : Int32} : ∀ (j k n v : Nat) (m : MM), k + j = 9 → j < n → v ≤ 999999 → m 149 13 = nI v → (∀ a, a < 9 → m 156 a = if U.testBit a then 1 else 0) → ∃ m' q, f_X7_goAll_L65 z n (nI k) m = some (q, m') ∧ m' 149 13 = nI (min 999999 (v + popF U k j)) ∧ (∀ r, r ≠ 149 → m' r = m r) ∧ ∀ i, i ≠ 13 → m' 149 i = m 149 i := by
  intro j
  induction j with
  | zero =>
    intro k n v m hk hn hv hm hu
    obtain ⟨n, rfl⟩ : ∃ j, n = j + 1 := ⟨n - 1, by omega⟩
    have : k = 9 := by omega
    subst this
    refine ⟨m, nI 9, ?_, ?_, fun _ _ => rfl, fun _ _ => rfl⟩
    · simp only [f_X7_goAll_L65]
      rw [if_pos (show (9 : Int32) ≤ nI 9 from by decide)]
    · rw [hm]; congr 1; simp only [popF]; omega
  | succ j ih =>
    intro k n v m hk hn hv hm hu
    obtain ⟨n, rfl⟩ : ∃ j, n = j + 1 := ⟨n - 1, by omega⟩
    have go : ∀ v', v' ≤ 999999 → min 999999 (v' + popF U (k + 1) j) = min 999999 (v + popF U k (j + 1)) → ∃ m' q, f_X7_goAll_L65 z n (nI (k + 1)) (up2 m 149 13 (nI v')) = some (q, m') ∧ m' 149 13 = nI (min 999999 (v + popF U k (j + 1))) ∧ (∀ r, r ≠ 149 → m' r = m r) ∧ ∀ i, i ≠ 13 → m' 149 i = m 149 i := by
      intro v' hv' he
      obtain ⟨m', q, h1, h2, h3, h4⟩ := ih (k + 1) n v' (up2 m 149 13 (nI v')) (by omega) (by omega) hv' (up2_eq _ _ _ _) (fun a ha => by rw [up2_ro (by decide)]; exact hu a ha)
      exact ⟨m', q, h1, by rw [h2, he], fun r hr => by rw [h3 r hr, up2_ro hr], fun i hi => by rw [h4 i hi, up2_ne (Or.inr hi)]⟩
    simp only [f_X7_goAll_L65]
    rw [if_neg (show ¬ (9 : Int32) ≤ nI k from nI_ge (b := 9) (by omega) (by omega)), gdI (by omega) (by decide), nI_clamp (by omega), hu k (by omega), hm, nI_1, bdE, bdE]
    by_cases hb : U.testBit k = true
    · rw [if_pos hb, if_neg one_ne]
      by_cases h9 : 999999 ≤ v
      · rw [if_pos (show (999999 : Int32) ≤ nI v from nI_le h9 (by omega)), show nI v + 0 = nI v by rw [z0, nI_add, Nat.add_zero]]
        exact go v hv (by simp only [popF]; omega)
      · rw [if_neg (show ¬ (999999 : Int32) ≤ nI v from nI_ge (b := 999999) (by omega) (by omega)), show nI v + 1 = nI (v + 1) from nI_1 v]
        exact go (v + 1) (by omega) (by simp only [popF]; rw [if_pos hb]; omega)
    · rw [if_neg hb, if_pos rfl, show nI v + 0 = nI v by rw [z0, nI_add, Nat.add_zero]]
      exact go v hv (by simp only [popF]; rw [if_neg hb]; omega)
theorem minK2 {k : Nat} (hk : k < 2 ^ 30) (μ : MM) : f_J9_min_7cf53 999999 (nI k) μ = nI (min 999999 k) := by
  unfold f_J9_min_7cf53
  by_cases h : k < 999999
  · rw [if_pos (show nI k < (999999 : Int32) from nI_lt (b := 999999) h (by omega)), Nat.min_eq_right (by omega)]
  · rw [if_neg (show ¬ nI k < (999999 : Int32) from nI_nlt (b := 999999) (by omega) (by omega)), Nat.min_eq_left (by omega)]; rfl
def midW (A : WS) (dn : List T4) (U : Nat) : WS := ((hrs A, flw A, fro A, dmm A, min 999999 (unl A + pop U)), dn, lgs A, srt A, lat A, hrd A)
theorem carryX {c m : MM} {w : Nat} {L : LG} {A : WS} (hw : isW w) (hI : LI L) (hC : LC c L) (hR : LR m L) (hB : BW c m w 149 0 L A) (hh : hrs A ≤ 9300) : ∃ c' m' B, f_X5_carryAll w 3 c = some c' ∧ f_X7_goAll m = some m' ∧ BW c' m' w 149 0 L B ∧ (hrs B = hrs A ∧ flw B = flw A ∧ fro B = fro A) ∧ (∀ r, (r < w ∨ w + 5 < r) → c' r = c r) ∧ ∀ r, r ≠ 149 → r ≠ 155 → r ≠ 156 → m' r = m r := by
  obtain ⟨⟨c1, c2, c3, c4⟩, ⟨r1, r2, r3, r4⟩, w1, w2, w3, w4, w5, w6, w7, w8, w9, w10⟩ := hB
  obtain ⟨c11, c12, c13, c14, c15, c16, c17⟩ := c1
  obtain ⟨r11, r12, r13, r14, r15, r16, r17⟩ := r1
  rw [Nat.zero_add] at r11 r12 r13 r14 r15 r16 r17
  have hF9 := hI.1
  have hFU : (12 : Nat) < FU := by decide
  obtain ⟨m0, z0', g1, g2, g3⟩ := goIni 9 0 FU m (by decide) (by decide) (fun a ha => absurd ha (Nat.not_lt_zero _))
  have hM : Mid c m0 w L A (tls A).length 0 [] (tls A) 0 0 := by
    refine ⟨⟨⟨c11, c12, c13, c14, c15, c17⟩, c3, c4⟩, ?_, ⟨w1, w2, w3, w4, w6, w7, w8, w9, w10⟩, c16, by simp, by simp, w5.1, by simp, w5.2, by simp, ?_, ?_, ?_, by decide, by decide, ?_, ?_⟩
    · unfold RX RL0 RA0
      rw [g3 149 (by decide) (by decide)]
      exact ⟨⟨r11, r12, r13, r14, r15, r17⟩, r3, r4⟩
    · intro j t hj
      rw [Nat.zero_add]; exact c2 j t hj
    · rw [g3 149 (by decide) (by decide), r16]; simp
    · intro j t hj
      rw [g3 149 (by decide) (by decide)]
      have := r2 j t hj
      rwa [Nat.zero_add] at this
    · intro a ha
      rw [(g2 a ha).1, (g2 a ha).2]; simp
    · intro a ha hb; simp at hb
  obtain ⟨c', m', A', dn', H', U', z, q1, q2, q3, q4, q5, q6⟩ := caL hw hI (tls A) FU FU c m0 A 0 [] 0 0 hM hC (hR.fr (fun r _ h2 h3 => g3 r h2 h3)) hh (by omega) (by omega)
  obtain ⟨m1, m2, m3, m4, m5, m6, m7, m8, m9, m10, m11, m12, m13, m14, m15, m16, m17⟩ := q3
  obtain ⟨⟨s1, s2, s3, s4, s5, s7⟩, sl0, sa⟩ := m1
  obtain ⟨⟨t1, t2, t3, t4, t5, t7⟩, tl0, ta⟩ := m2
  obtain ⟨m2', y, k1, k2, k3, k4⟩ := goCnt (U := U') (z := nI dn'.length) 9 0 FU (unl A') m' (by decide) (by decide) m3.2.2.2.1 t5 (fun a ha => (m16 a ha).2)
  rw [popF_dec U' m15] at k2
  have hpop : pop U' ≤ 9 := by unfold pop; omega
  have hu := m3.2.2.2.1
  refine ⟨up2 (up2 c' w 5 (nI dn'.length)) w 4 (nI (min 999999 (unl A' + pop U'))), m2', midW A' dn' U', ?_, ?_, ⟨⟨⟨?_, ?_, ?_, ?_, ?_, ?_, ?_⟩, ?_, ?_, ?_⟩, ⟨⟨?_, ?_, ?_, ?_, ?_, ?_, ?_⟩, ?_, ?_, ?_⟩, ?_⟩, ⟨?_, ?_, ?_⟩, ?_, ?_⟩
  · unfold f_X5_carryAll
    have q1' : f_X5_carryAll_L10 w 3 FU 0 0 0 0 c = some (nI H', nI U', nI dn'.length, z, c') := q1
    rw [q1', Option.bind_some]
    dsimp only
    rw [bdE, bc_nI m15, bdE, show up2 c' w 5 (nI dn'.length) w 4 = nI (unl A') by rw [up2_ne (by omega)]; exact s5, nI_add, minK2 (by omega), bdE, bdE]
  · unfold f_X7_goAll
    have g1' : f_X7_goAll_L2 FU 0 m = some (z0', m0) := g1
    have q2' : f_X7_goAll_L30 FU 0 m0 = some (nI dn'.length, m') := q2
    have k1' : f_X7_goAll_L65 (nI dn'.length) FU 0 m' = some (y, m2') := k1
    rw [g1', Option.bind_some]; dsimp only
    rw [q2', Option.bind_some]; dsimp only
    rw [k1', Option.bind_some]
  · rw [up2_ne (by omega), up2_ne (by omega)]; exact s1
  · rw [up2_ne (by omega), up2_ne (by omega)]; exact s2
  · rw [up2_ne (by omega), up2_ne (by omega)]; exact s3
  · rw [up2_ne (by omega), up2_ne (by omega)]; exact s4
  · rw [up2_eq]; rfl
  · rw [up2_ne (by omega), up2_eq]; rfl
  · rw [up2_ne (by omega), up2_ne (by omega)]; exact s7
  · intro i t hi
    unfold t4C
    rw [up2_ro (by omega), up2_ro (by omega)]; exact m10 i t hi
  · obtain ⟨E, hE, e1, e2⟩ := sl0
    refine ⟨E, hE, by rw [up2_ne (by omega), up2_ne (by omega)]; exact e1, fun i t hi => ?_⟩
    unfold t4C
    rw [up2_ro (by omega), up2_ro (by omega)]; exact e2 i t hi
  · refine ⟨fun a ha => ?_, fun a ha => ?_, fun a ha => ?_⟩
    · rw [up2_ro (by omega), up2_ro (by omega)]; exact sa.1 a ha
    · rw [up2_ro (by omega), up2_ro (by omega)]; exact sa.2.1 a ha
    · rw [up2_ro (by omega), up2_ro (by omega)]; exact sa.2.2 a ha
  · rw [k4 _ (by omega)]; exact t1
  · rw [k4 _ (by omega)]; exact t2
  · rw [k4 _ (by omega)]; exact t3
  · rw [k4 _ (by omega)]; exact t4
  · exact k2
  · rw [k4 _ (by omega)]
    have : m' 149 32 = nI (dn'.length + 0) := m12
    rw [Nat.add_zero] at this
    exact this
  · rw [k4 _ (by omega)]; exact t7
  · intro i t hi
    have hi : dn'[i]? = some t := hi
    have := m13 i t (by rw [List.append_nil]; exact hi)
    rw [Nat.zero_add, k4 _ (by omega)]; exact this
  · intro i t hi
    have := tl0 i t hi
    rw [k4 _ (by omega)]; exact this
  · refine ⟨fun a ha => ?_, fun a ha => ?_, fun a ha => ?_⟩
    · rw [k4 _ (by omega)]; exact ta.1 a ha
    · rw [k4 _ (by omega)]; exact ta.2.1 a ha
    · rw [k4 _ (by omega)]; exact ta.2.2 a ha
  · obtain ⟨i1, i2, i3, i4, i5, i6, i7, i8, i9⟩ := m3
    have m6' : dn'.length ≤ (tls A).length := m6
    exact ⟨i1, i2, i3, by show min 999999 _ ≤ 999999; omega, ⟨by show dn'.length ≤ 12; omega, m8⟩, i5, i6, i7, i8, i9⟩
  · show A'.1.1 = A.1.1; rw [q4]
  · show A'.1.2.1 = A.1.2.1; rw [q4]
  · show A'.1.2.2.1 = A.1.2.2.1; rw [q4]
  · intro r hr
    rw [up2_ro (by omega), up2_ro (by omega), q5 r hr]
  · intro r h1 h2 h3
    rw [k3 r h1, q6 r h1 h2 h3, g3 r h2 h3]
/-- the hour's end: the flow sinks, the hour is counted -/
def endW (A : WS) : WS := ((hrs A + 1, (if hrs A % 6 = 5 then flw A - 1 else flw A), fro A, dmm A, unl A), tls A, lgs A, srt A, lat A, hrd A)
theorem endX {c m : MM} {w : Nat} {L : LG} {A : WS} (hF9 : nF L ≤ 9) (hB : BW c m w 149 0 L A) (hh : hrs A ≤ 9300) : ∃ c' m', (bd (α := MM) (if (rm (c w 0) 6) = 5 then if (c w 1) ≤ 0 then c else bd (up2 c w 1 ((c w 1) - 1)) fun μ4 => μ4 else c) fun j3 => bd (up2 j3 w 0 ((j3 w 0) + 1)) fun μ5 => some μ5) = some c' ∧ (bd (α := Int32) (if (rm (m 149 12) 6) = 5 then if (m 149 10) ≤ 0 then 0 else 1 else 0) fun j3 => bd (up2 m 149 10 ((m 149 10) - j3)) fun μ4 => bd (up2 μ4 149 12 ((μ4 149 12) + 1)) fun μ5 => some μ5) = some m' ∧ BW c' m' w 149 0 L (endW A) ∧ (∀ r, r ≠ w → c' r = c r) ∧ ∀ r, r ≠ 149 → m' r = m r := by
  obtain ⟨⟨c1, c2, c3, c4⟩, ⟨r1, r2, r3, r4⟩, w1, w2, w3, w4, w5, w6, w7, w8, w9, w10⟩ := hB
  obtain ⟨c11, c12, c13, c14, c15, c16, c17⟩ := c1
  obtain ⟨r11, r12, r13, r14, r15, r16, r17⟩ := r1
  rw [Nat.zero_add] at r11 r12 r13 r14 r15 r16 r17
  have hf9 : flw (endW A) ≤ 9 := by show (if hrs A % 6 = 5 then flw A - 1 else flw A) ≤ 9; split <;> omega
  have hm6 : hrs A % 6 < 6 := Nat.mod_lt _ (by decide)
  have eC : ∃ c', (bd (α := MM) (if (rm (c w 0) 6) = 5 then if (c w 1) ≤ 0 then c else bd (up2 c w 1 ((c w 1) - 1)) fun μ4 => μ4 else c) fun j3 => bd (up2 j3 w 0 ((j3 w 0) + 1)) fun μ5 => some μ5) = some c' ∧ c' w 0 = nI (hrs A + 1) ∧ c' w 1 = nI (flw (endW A)) ∧ (∀ k, k ≠ 0 → k ≠ 1 → c' w k = c w k) ∧ ∀ r, r ≠ w → c' r = c r := by
    rw [c11, c12, z6, rm_nI (by omega) (by decide) (by decide), bdE]
    by_cases h5 : hrs A % 6 = 5
    · rw [if_pos (show nI (hrs A % 6) = 5 by rw [h5]; rfl)]
      by_cases h0 : flw A = 0
      · rw [if_pos (show nI (flw A) ≤ 0 by rw [h0]; decide), bdE, c11, nI_1]
        refine ⟨_, rfl, up2_eq _ _ _ _, ?_, fun k k0 k1 => up2_ne (Or.inr k0), fun r hr => up2_ro hr⟩
        rw [up2_ne (by omega), c12]; show _ = nI (if hrs A % 6 = 5 then flw A - 1 else flw A); rw [if_pos h5]; congr 1; omega
      · obtain ⟨q, hq⟩ : ∃ q, flw A = q + 1 := ⟨flw A - 1, by omega⟩
        rw [if_neg (show ¬ nI (flw A) ≤ 0 from nI_nle (by omega) (by omega)), bdE, hq, nI_pred, bdE, up2_ne (by omega), c11, nI_1]
        refine ⟨_, rfl, up2_eq _ _ _ _, ?_, fun k k0 k1 => by rw [up2_ne (Or.inr k0), up2_ne (Or.inr k1)], fun r hr => by rw [up2_ro hr, up2_ro hr]⟩
        rw [up2_ne (by omega), up2_eq]; show _ = nI (if hrs A % 6 = 5 then flw A - 1 else flw A); rw [if_pos h5, hq]; rfl
    · rw [if_neg (show ¬ nI (hrs A % 6) = 5 from nI_neI (b := 5) (by omega) (by decide) h5), bdE, c11, nI_1]
      refine ⟨_, rfl, up2_eq _ _ _ _, ?_, fun k k0 k1 => up2_ne (Or.inr k0), fun r hr => up2_ro hr⟩
      rw [up2_ne (by omega), c12]; show _ = nI (if hrs A % 6 = 5 then flw A - 1 else flw A); rw [if_neg h5]
  have eR : ∃ m', (bd (α := Int32) (if (rm (m 149 12) 6) = 5 then if (m 149 10) ≤ 0 then 0 else 1 else 0) fun j3 => bd (up2 m 149 10 ((m 149 10) - j3)) fun μ4 => bd (up2 μ4 149 12 ((μ4 149 12) + 1)) fun μ5 => some μ5) = some m' ∧ m' 149 12 = nI (hrs A + 1) ∧ m' 149 10 = nI (flw (endW A)) ∧ (∀ k, k ≠ 12 → k ≠ 10 → m' 149 k = m 149 k) ∧ ∀ r, r ≠ 149 → m' r = m r := by
    have fin : ∀ j3 : Int32, nI (flw A) - j3 = nI (flw (endW A)) → ∃ m', (bd (up2 m 149 10 (nI (flw A) - j3)) fun μ4 => bd (up2 μ4 149 12 ((μ4 149 12) + 1)) fun μ5 => some μ5) = some m' ∧ m' 149 12 = nI (hrs A + 1) ∧ m' 149 10 = nI (flw (endW A)) ∧ (∀ k, k ≠ 12 → k ≠ 10 → m' 149 k = m 149 k) ∧ ∀ r, r ≠ 149 → m' r = m r := by
      intro j3 hj
      rw [bdE, bdE, up2_ne (by omega), r11, nI_1, hj]
      exact ⟨_, rfl, up2_eq _ _ _ _, by rw [up2_ne (by omega), up2_eq], fun k k1 k2 => by rw [up2_ne (Or.inr k1), up2_ne (Or.inr k2)], fun r hr => by rw [up2_ro hr, up2_ro hr]⟩
    have s0 : ∀ x : Int32, x - 0 = x := by intro x; grind
    rw [r11, r12, z6, rm_nI (by omega) (by decide) (by decide), bdE]
    by_cases h5 : hrs A % 6 = 5
    · rw [if_pos (show nI (hrs A % 6) = 5 by rw [h5]; rfl)]
      by_cases h0 : flw A = 0
      · rw [if_pos (show nI (flw A) ≤ 0 by rw [h0]; decide)]
        exact fin 0 (by rw [s0]; show _ = nI (if hrs A % 6 = 5 then flw A - 1 else flw A); rw [if_pos h5]; congr 1; omega)
      · obtain ⟨q, hq⟩ : ∃ q, flw A = q + 1 := ⟨flw A - 1, by omega⟩
        rw [if_neg (show ¬ nI (flw A) ≤ 0 from nI_nle (by omega) (by omega))]
        exact fin 1 (by rw [hq, nI_pred]; show _ = nI (if hrs A % 6 = 5 then flw A - 1 else flw A); rw [if_pos h5, hq]; rfl)
    · rw [if_neg (show ¬ nI (hrs A % 6) = 5 from nI_neI (b := 5) (by omega) (by decide) h5)]
      exact fin 0 (by rw [s0]; show _ = nI (if hrs A % 6 = 5 then flw A - 1 else flw A); rw [if_neg h5])
  obtain ⟨c', e1, e2, e3, e4, e5⟩ := eC
  obtain ⟨m', f1, f2, f3, f4, f5⟩ := eR
  refine ⟨c', m', e1, f1, ⟨⟨⟨e2, e3, ?_, ?_, ?_, ?_, ?_⟩, ?_, ?_, ?_⟩, ⟨⟨?_, ?_, ?_, ?_, ?_, ?_, ?_⟩, ?_, ?_, ?_⟩, hf9, w2, w3, w4, w5, w6, w7, w8, w9, w10⟩, e5, f5⟩
  · rw [e4 _ (by decide) (by decide)]; exact c13
  · rw [e4 _ (by decide) (by decide)]; exact c14
  · rw [e4 _ (by decide) (by decide)]; exact c15
  · rw [e4 _ (by decide) (by decide)]; exact c16
  · rw [e4 _ (by decide) (by decide)]; exact c17
  · intro i t hi
    unfold t4C
    rw [e5 _ (by omega)]; exact c2 i t hi
  · obtain ⟨E, hE, y1, y2⟩ := c3
    refine ⟨E, hE, by rw [e4 _ (by decide) (by decide)]; exact y1, fun i t hi => ?_⟩
    unfold t4C
    rw [e5 _ (by omega)]; exact y2 i t hi
  · refine ⟨fun a ha => ?_, fun a ha => ?_, fun a ha => ?_⟩
    · rw [e5 _ (by omega)]; exact c4.1 a ha
    · rw [e5 _ (by omega)]; exact c4.2.1 a ha
    · rw [e5 _ (by omega)]; exact c4.2.2 a ha
  · exact f2
  · exact f3
  · rw [f4 _ (by omega) (by omega)]; exact r13
  · rw [f4 _ (by omega) (by omega)]; exact r14
  · rw [f4 _ (by omega) (by omega)]; exact r15
  · rw [f4 _ (by omega) (by omega)]; exact r16
  · rw [f4 _ (by omega) (by omega)]; exact r17
  · intro i t hi
    rw [f4 _ (by omega) (by omega)]; exact r2 i t hi
  · intro i t hi
    rw [f4 _ (by omega) (by omega)]; exact r3 i t hi
  · refine ⟨fun a ha => ?_, fun a ha => ?_, fun a ha => ?_⟩
    · rw [f4 _ (by omega) (by omega)]; exact r4.1 a ha
    · rw [f4 _ (by omega) (by omega)]; exact r4.2.1 a ha
    · rw [f4 _ (by omega) (by omega)]; exact r4.2.2 a ha
theorem passX {c m : MM} {w : Nat} {L : LG} {A : WS} (hw : isW w) (hI : LI L) (hC : LC c L) (hR : LR m L) (hB : BW c m w 149 0 L A) (hh : hrs A ≤ 9300) : ∃ c' m' B, f_X5_pass w 3 c = some c' ∧ f_X7_pass m = some m' ∧ BW c' m' w 149 0 L B ∧ hrs B = hrs A + 1 ∧ (∀ r, (r < w ∨ w + 5 < r) → c' r = c r) ∧ ∀ r, r ≠ 149 → r ≠ 155 → r ≠ 156 → m' r = m r := by
  have hF9 := hI.1
  have key : ∃ c1 m1 B, (if (c w 2) = 0 then if (c w 1) < 1 then some c else (f_X5_carryAll w 3 c).bind fun x2 => some x2 else some c) = some c1 ∧ (if (m 149 11) = 0 then if (m 149 10) ≤ 0 then some m else (f_X7_goAll m).bind fun x2 => some x2 else some m) = some m1 ∧ BW c1 m1 w 149 0 L B ∧ hrs B = hrs A ∧ (∀ r, (r < w ∨ w + 5 < r) → c1 r = c r) ∧ ∀ r, r ≠ 149 → r ≠ 155 → r ≠ 156 → m1 r = m r := by
    have a1 : c w 2 = nI (fro A) := hB.1.1.2.2.1
    have a2 : c w 1 = nI (flw A) := hB.1.1.2.1
    have b1 : m 149 11 = nI (fro A) := hB.2.1.1.2.2.1
    have b2 : m 149 10 = nI (flw A) := hB.2.1.1.2.1
    have hfl := hB.2.2.1
    have hfr := hB.2.2.2.1
    rw [a1, a2, b1, b2]
    by_cases h0 : fro A = 0
    · rw [if_pos (show nI (fro A) = 0 by rw [h0]; rfl), if_pos (show nI (fro A) = 0 by rw [h0]; rfl)]
      by_cases hf : flw A = 0
      · rw [if_pos (show nI (flw A) < 1 by rw [hf]; decide), if_pos (show nI (flw A) ≤ 0 by rw [hf]; decide)]
        exact ⟨c, m, A, rfl, rfl, hB, rfl, fun _ _ => rfl, fun _ _ _ _ => rfl⟩
      · rw [if_neg (show ¬ nI (flw A) < 1 from nI_nlt (b := 1) (by omega) (by omega)), if_neg (show ¬ nI (flw A) ≤ 0 from nI_nle (by omega) (by omega))]
        obtain ⟨c', m', B, h1, h2, h3, h4, h5, h6⟩ := carryX hw hI hC hR hB hh
        exact ⟨c', m', B, by rw [h1]; rfl, by rw [h2]; rfl, h3, h4.1, h5, h6⟩
    · rw [if_neg (show ¬ nI (fro A) = 0 from nI_neI (b := 0) (by omega) (by decide) h0), if_neg (show ¬ nI (fro A) = 0 from nI_neI (b := 0) (by omega) (by decide) h0)]
      exact ⟨c, m, A, rfl, rfl, hB, rfl, fun _ _ => rfl, fun _ _ _ _ => rfl⟩
  obtain ⟨c1, m1, B, h1, h2, h3, h4, h5, h6⟩ := key
  obtain ⟨c2, m2, k1, k2, k3, k4, k5⟩ := endX hF9 h3 (by omega)
  refine ⟨c2, m2, endW B, ?_, ?_, k3, by show hrs B + 1 = _; omega, fun r hr => by rw [k4 r (by omega), h5 r hr], fun r r1 r2 r3 => by rw [k5 r r1, h6 r r1 r2 r3]⟩
  · unfold f_X5_pass
    rw [h1, Option.bind_some]; exact k1
  · unfold f_X7_pass
    rw [h2, Option.bind_some]; exact k2
