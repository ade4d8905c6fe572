/-! the draws -/
theorem i64N {s : Nat} (hs : s < 2 ^ 31) : Int32.toInt64 (nI s) = Int64.ofNat s := by
  apply Int64.toInt_inj.mp
  rw [Int32.toInt_toInt64, nI_toInt hs, Int64.toInt_ofNat_of_lt (by omega)]
theorem i32N (k : Nat) : Int64.toInt32 (Int64.ofNat k) = nI k := by
  show _ = Int32.ofNat k
  simp
theorem i64and (K : Nat) : Int64.ofNat K &&& 2147483647 = Int64.ofNat (K % 2147483648) := by
  have h := Nat.and_two_pow_sub_one_eq_mod K 31
  rw [show K % 2147483648 = K &&& 2147483647 from h.symm]
  apply Int64.toBitVec_inj.mp
  rw [Int64.toBitVec_and, Int64.toBitVec_ofNat', Int64.toBitVec_ofNat', BitVec.ofNat_and]
  rfl
theorem i64rem {K : Nat} (hK : K < 2 ^ 62) : rmL (Int64.ofNat K) 2147483648 = Int64.ofNat (K % 2147483648) := by
  unfold rmL
  have hd : Int64.ofNat K / 2147483648 = Int64.ofNat (K / 2147483648) := by
    apply Int64.toInt_inj.mp
    rw [Int64.toInt_div, Int64.toInt_ofNat_of_lt (by omega), Int64.toInt_ofNat_of_lt (by omega)]
    have : (2147483648 : Int64).toInt = 2147483648 := by decide
    rw [this, Int.tdiv_eq_ediv_of_nonneg (by omega), Int.bmod_eq_of_le (by omega) (by omega)]
    omega
  rw [hd]
  have hm : Int64.ofNat (K / 2147483648) * 2147483648 = Int64.ofNat (K / 2147483648 * 2147483648) := by
    rw [Int64.ofNat_mul]; rfl
  rw [hm]
  have hs : Int64.ofNat K = Int64.ofNat (K % 2147483648) + Int64.ofNat (K / 2147483648 * 2147483648) := by
    rw [← Int64.ofNat_add]; congr 1; omega
  rw [hs, Int64.add_sub_cancel]
theorem lcg {s : Nat} (hs : s < 2 ^ 31) : Int64.toInt32 ((((Int32.toInt64 (nI s)) * 1103515245) + 12345) &&& 2147483647) = nI ((s * 1103515245 + 12345) % 2147483648) ∧ Int64.toInt32 (rmL (((Int32.toInt64 (nI s)) * 1103515245) + 12345) 2147483648) = nI ((s * 1103515245 + 12345) % 2147483648) := by
  have e : Int32.toInt64 (nI s) * 1103515245 + 12345 = Int64.ofNat (s * 1103515245 + 12345) := by
    rw [i64N hs, Int64.ofNat_add, Int64.ofNat_mul]; rfl
  rw [e, i64and, i64rem (by omega), i32N]
  exact ⟨rfl, rfl⟩
theorem nI_nonneg {x : Int32} (h : 0 ≤ x) : ∃ s, s < 2 ^ 31 ∧ x = nI s := by
  have t0 : Int32.toInt 0 = 0 := by decide
  rw [Int32.le_iff_toInt_le, t0] at h
  have hu := Int32.toInt_lt x
  refine ⟨x.toInt.toNat, by omega, ?_⟩
  apply Int32.toInt_inj.mp
  rw [nI_toInt (by omega)]
  omega
theorem RelS.seed {c m : MM} {n : Nat} {L : LG} {A : WS} {P : List WS} {I0 I1 : IM} (h : RelS c m n L A P I0 I1) {s : Nat} (hs : s < 2 ^ 31) : RelS (up2 c 0 9 (nI s)) (up2 m 144 8 (nI s)) n L A P I0 I1 := by
  obtain ⟨h1, h2, ⟨hI, hC, hR⟩, ⟨h4, h4b⟩, h5, h6, h7, h8, h9⟩ := h
  exact ⟨h1.eq rfl rfl rfl rfl, h2, ⟨hI, hC.eq rfl rfl rfl rfl rfl, hR.eq rfl rfl rfl rfl rfl⟩, ⟨h4.eq hI.F (fun k hk => up2_ro (by omega)) (fun k hk => rfl), h4b⟩, h5.eq hI.F rfl rfl (fun r h1 h2 => up2_ro (by omega)) rfl rfl, h6.eq hI.F rfl (fun r h1 h2 => up2_ro (by omega)) rfl rfl rfl, ⟨by rw [up2_eq, up2_eq], by rw [up2_eq]; exact nI_le (a := 0) (Nat.zero_le _) hs⟩, h8.eq rfl rfl rfl rfl rfl rfl, h9.eq rfl rfl rfl rfl rfl rfl⟩
theorem drawX {c m : MM} {n : Nat} {L : LG} {A : WS} {P : List WS} {I0 I1 : IM} (h : RelS c m n L A P I0 I1) {N : Nat} (h0 : 0 < N) (hN : N ≤ 10) : ∃ v c' m', v < N ∧ f_X6_draw (nI N) c = some (nI v, c') ∧ f_X7_draw (nI N) m = some (nI v, m') ∧ RelS c' m' n L A P I0 I1 := by
  obtain ⟨e1, e2⟩ := h.2.2.2.2.2.2.1
  obtain ⟨s, hs, es⟩ := nI_nonneg e2
  obtain ⟨l1, l2⟩ := lcg hs
  have hs' : (s * 1103515245 + 12345) % 2147483648 < 2147483648 := Nat.mod_lt _ (by decide)
  refine ⟨(s * 1103515245 + 12345) % 2147483648 / 65536 % N, _, _, Nat.mod_lt _ h0, ?_, ?_, h.seed hs'⟩
  · unfold f_X6_draw
    rw [es, l1, bdE, if_neg (nI_nle h0 (by omega)), gd_t (show ¬ nI N = 0 from nI_neI (b := 0) (by omega) (by decide) (by omega)), up2_eq, z65536, dv_nI (by omega) (by decide) (by decide), rm_nI (by omega) h0 (by omega)]
  · unfold f_X7_draw
    rw [← e1, es, l2, bdE, gd_t (show ¬ nI N = 0 from nI_neI (b := 0) (by omega) (by decide) (by omega)), up2_eq, z65536, dv_nI (by omega) (by decide) (by decide), rm_nI (by omega) h0 (by omega)]
theorem RelS.flow {c m : MM} {n : Nat} {L : LG} {A : WS} {P : List WS} {I0 I1 : IM} (h : RelS c m n L A P I0 I1) {k : Nat} (hk : k ≤ 9) : RelS (up2 c 24 1 (nI k)) (up2 m 149 10 (nI k)) n L ((hrs A, k, fro A, dmm A, unl A), A.2) P I0 I1 := by
  obtain ⟨hI, -, -⟩ := h.2.2.1
  obtain ⟨⟨hcw, hrw, hiw⟩, hh⟩ := h.2.2.2.1
  obtain ⟨s1, s2, s3, s4, s5, s6, s7⟩ := hcw.1
  obtain ⟨r1, r2, r3, r4, r5, r6, r7⟩ := hrw.1
  refine h.now (fun r w1 w2 => up2_ro (by omega)) (fun r w1 w2 => up2_ro w1) ⟨hcw.sc rfl (by decide) ?_, hrw.sc rfl (by decide) hI.1 ?_, ⟨hk, hiw.2⟩⟩ hh
  · refine ⟨?_, ?_, ?_, ?_, ?_, ?_, ?_⟩
    · rw [up2_ne (by omega)]; exact s1
    · rw [up2_eq]
    · rw [up2_ne (by omega)]; exact s3
    · rw [up2_ne (by omega)]; exact s4
    · rw [up2_ne (by omega)]; exact s5
    · rw [up2_ne (by omega)]; exact s6
    · rw [up2_ne (by omega)]; exact s7
  · refine ⟨?_, ?_, ?_, ?_, ?_, ?_, ?_⟩
    · rw [up2_ne (by omega)]; exact r1
    · rw [up2_eq]
    · rw [up2_ne (by omega)]; exact r3
    · rw [up2_ne (by omega)]; exact r4
    · rw [up2_ne (by omega)]; exact r5
    · rw [up2_ne (by omega)]; exact r6
    · rw [up2_ne (by omega)]; exact r7
theorem RelS.frost {c m : MM} {n : Nat} {L : LG} {A : WS} {P : List WS} {I0 I1 : IM} (h : RelS c m n L A P I0 I1) {k : Nat} (hk : k ≤ 1) : RelS (up2 c 24 2 (nI k)) (up2 m 149 11 (nI k)) n L ((hrs A, flw A, k, dmm A, unl A), A.2) P I0 I1 := by
  obtain ⟨hI, -, -⟩ := h.2.2.1
  obtain ⟨⟨hcw, hrw, hiw⟩, hh⟩ := h.2.2.2.1
  obtain ⟨s1, s2, s3, s4, s5, s6, s7⟩ := hcw.1
  obtain ⟨r1, r2, r3, r4, r5, r6, r7⟩ := hrw.1
  refine h.now (fun r w1 w2 => up2_ro (by omega)) (fun r w1 w2 => up2_ro w1) ⟨hcw.sc rfl (by decide) ?_, hrw.sc rfl (by decide) hI.1 ?_, ⟨hiw.1, hk, hiw.2.2⟩⟩ hh
  · refine ⟨?_, ?_, ?_, ?_, ?_, ?_, ?_⟩
    · rw [up2_ne (by omega)]; exact s1
    · rw [up2_ne (by omega)]; exact s2
    · rw [up2_eq]
    · rw [up2_ne (by omega)]; exact s4
    · rw [up2_ne (by omega)]; exact s5
    · rw [up2_ne (by omega)]; exact s6
    · rw [up2_ne (by omega)]; exact s7
  · refine ⟨?_, ?_, ?_, ?_, ?_, ?_, ?_⟩
    · rw [up2_ne (by omega)]; exact r1
    · rw [up2_ne (by omega)]; exact r2
    · rw [up2_eq]
    · rw [up2_ne (by omega)]; exact r4
    · rw [up2_ne (by omega)]; exact r5
    · rw [up2_ne (by omega)]; exact r6
    · rw [up2_ne (by omega)]; exact r7
theorem chanceX {c m : MM} {n : Nat} {L : LG} {A : WS} {P : List WS} {I0 I1 : IM} (h : RelS c m n L A P I0 I1) (hF : 0 < nF L) : ∃ c' m' B, f_X6_befall c = some c' ∧ f_X7_chance m = some m' ∧ RelS c' m' n L B P I0 I1 ∧ hrs B = hrs A := by
  obtain ⟨hI, -, -⟩ := h.2.2.1
  have hF9 := hI.1
  have hW9 := hI.2.1
  have hW2 := hI.2.2.2.1 hF
  obtain ⟨v, c1, m1, hv, d1, d2, h1⟩ := drawX h (N := 5) (by decide) (by decide)
  have d1 : f_X6_draw 5 c = some (nI v, c1) := d1
  have d2 : f_X7_draw 5 m = some (nI v, m1) := d2
  unfold f_X6_befall f_X7_chance
  rw [d1, d2, Option.bind_some, Option.bind_some]
  dsimp only
  by_cases v0 : v = 0
  · subst v0
    obtain ⟨u, c2, m2, hu, d3, d4, h2⟩ := drawX h1 (N := 10) (by decide) (by decide)
    have d3 : f_X6_draw 10 c1 = some (nI u, c2) := d3
    have d4 : f_X7_draw 10 m1 = some (nI u, m2) := d4
    rw [if_pos (show nI 0 = 0 from rfl), if_pos (show nI 0 = 0 from rfl), d3, d4]
    exact ⟨_, _, _, rfl, rfl, h2.flow (by omega), rfl⟩
  · rw [if_neg (show ¬ nI v = 0 from nI_neI (b := 0) (by omega) (by decide) v0), if_neg (show ¬ nI v = 0 from nI_neI (b := 0) (by omega) (by decide) v0)]
    by_cases v1 : v = 1
    · subst v1
      obtain ⟨-, hC, hR⟩ := h1.2.2.1
      rw [if_pos (show nI 1 = 1 from rfl), if_pos (show nI 1 = 1 from rfl), if_neg (show ¬ nI 1 = 2 by decide)]
      have eF := hR.2.1
      have eG := hC.2.1
      unfold f_X6_befallTalk
      by_cases hF2 : 2 ≤ nF L
      · rw [if_pos (show (2 : Int32) ≤ c1 3 2 by rw [eG]; exact nI_le (a := 2) hF2 (by omega)), if_neg (show ¬ m1 144 1 ≤ 1 by rw [eF]; exact nI_ge (a := 1) (by omega) (by omega)), eF, eG]
        obtain ⟨q, hq⟩ : ∃ q, nF L = q + 1 := ⟨nF L - 1, by omega⟩
        rw [hq, nI_pred]
        obtain ⟨u, c2, m2, hu, d3, d4, h2⟩ := drawX h1 (N := q) (by omega) (by omega)
        obtain ⟨-, hC2, hR2⟩ := h2.2.2.1
        obtain ⟨y, c3, m3, hy, d5, d6, h3⟩ := drawX h2 (N := nW L) (by omega) (by omega)
        obtain ⟨⟨hcw, hrw, hiw⟩, hh⟩ := h3.2.2.2.1
        have c6 : c3 24 5 = nI (tls A).length := hcw.1.2.2.2.2.2.1
        have r6 : m3 149 32 = nI (tls A).length := hrw.1.2.2.2.2.2.1
        have hT := hiw.2.2.2.2.1.1
        rw [d3, d4, Option.bind_some, Option.bind_some]
        dsimp only
        rw [hC2.1, hR2.1, d5, d6]
        simp only [bd, Option.bind_some]
        rw [c6, r6, nI_1]
        by_cases hl : 12 ≤ (tls A).length
        · rw [if_pos (show (12 : Int32) ≤ nI (tls A).length from nI_le (a := 12) hl (by omega)), if_pos (show (12 : Int32) ≤ nI (tls A).length from nI_le (a := 12) hl (by omega))]
          exact ⟨_, _, _, rfl, rfl, h3, rfl⟩
        · rw [if_neg (show ¬ (12 : Int32) ≤ nI (tls A).length from nI_ge (b := 12) (by omega) (by omega)), if_neg (show ¬ (12 : Int32) ≤ nI (tls A).length from nI_ge (b := 12) (by omega) (by omega))]
          obtain ⟨c4, m4, B, p1, p2, p3, p4⟩ := enterX h3 (a := u + 1) (by omega) (by omega) hy (by omega)
          rw [p1, p2]
          exact ⟨_, _, _, rfl, rfl, p3, p4⟩
      · rw [if_neg (show ¬ (2 : Int32) ≤ c1 3 2 by rw [eG]; exact nI_ge (b := 2) (by omega) (by omega)), if_pos (show m1 144 1 ≤ 1 by rw [eF]; exact nI_le (b := 1) (by omega) (by omega))]
        exact ⟨_, _, _, rfl, rfl, h1, rfl⟩
    · rw [if_neg (show ¬ nI v = 1 from nI_neI (b := 1) (by omega) (by decide) v1), if_neg (show ¬ nI v = 1 from nI_neI (b := 1) (by omega) (by decide) v1)]
      by_cases v2 : v = 2
      · subst v2
        obtain ⟨⟨hcw, hrw, hiw⟩, hh⟩ := h1.2.2.2.1
        have c3 : c1 24 2 = nI (fro A) := hcw.1.2.2.1
        have r3 : m1 149 11 = nI (fro A) := hrw.1.2.2.1
        have hf := hiw.2.1
        rw [if_pos (show nI 2 = 2 from rfl), if_pos (show nI 2 = 2 from rfl), r3, bdE, bdE, bdE]
        by_cases f0 : fro A = 0
        · rw [f0, if_pos (show c1 24 2 = 0 by rw [c3, f0]; rfl)]
          exact ⟨_, _, _, rfl, rfl, h1.frost (k := 1) (by omega), rfl⟩
        · rw [show fro A = 1 by omega, if_neg (show ¬ c1 24 2 = 0 by rw [c3, show fro A = 1 by omega]; decide)]
          exact ⟨_, _, _, rfl, rfl, h1.frost (k := 0) (by omega), rfl⟩
      · rw [if_neg (show ¬ nI v = 2 from nI_neI (b := 2) (by omega) (by decide) v2), if_neg (show ¬ nI v = 2 from nI_neI (b := 2) (by omega) (by decide) v2)]
        exact ⟨_, _, _, rfl, rfl, h1, rfl⟩
theorem driftX {N n : Nat} {L : LG} {P : List WS} {I0 I1 : IM} (hN : N ≤ 60) (hF : 0 < nF L) {z z2 : Int32} : ∀ (j k n1 n2 : Nat) (c m : MM) (A : WS), k + j = N → j < n1 → j < n2 → RelS c m n L A P I0 I1 → hrs A + j ≤ 9060 → ∃ c' m' B, f_X6_drift_L25 (nI N) z n1 (nI k) c = some (nI N, c') ∧ f_X7_drift_L18 (nI N) z2 n2 (nI k) m = some (nI N, m') ∧ RelS c' m' n L B P I0 I1 := by
  intro j
  induction j with
  | zero =>
    intro k n1 n2 c m A hk hn hn2 h hh
    obtain ⟨n1, rfl⟩ : ∃ j, n1 = j + 1 := ⟨n1 - 1, by omega⟩
    obtain ⟨n2, rfl⟩ : ∃ j, n2 = j + 1 := ⟨n2 - 1, by omega⟩
    have : k = N := by omega
    subst this
    refine ⟨c, m, A, ?_, ?_, h⟩
    · simp only [f_X6_drift_L25]; rw [if_pos (nI_le (Nat.le_refl k) (by omega))]
    · simp only [f_X7_drift_L18]; rw [if_pos (nI_le (Nat.le_refl k) (by omega))]
  | succ j ih =>
    intro k n1 n2 c m A hk hn hn2 h hh
    obtain ⟨n1, rfl⟩ : ∃ j, n1 = j + 1 := ⟨n1 - 1, by omega⟩
    obtain ⟨n2, rfl⟩ : ∃ j, n2 = j + 1 := ⟨n2 - 1, by omega⟩
    obtain ⟨c0, m0, B0, o1, o2, o3, o4⟩ := chanceX h hF
    obtain ⟨hI, hC, hR⟩ := o3.2.2.1
    obtain ⟨c1, m1, B, q1, q2, q3, q4, q5, q6⟩ := passX w24 hI hC hR o3.2.2.2.1.1 (by omega)
    have h1 : RelS c1 m1 n L B P I0 I1 := o3.now (fun r w1 w2 => q5 r (by omega)) (fun r w1 w2 => q6 r w1 (fun z => w2 (by unfold scR; omega)) (fun z => w2 (by unfold scR; omega))) q3 (by omega)
    obtain ⟨c2, m2, B2, p1, p2, p3⟩ := ih (k + 1) n1 n2 c1 m1 B (by omega) (by omega) (by omega) h1 (by omega)
    refine ⟨c2, m2, B2, ?_, ?_, p3⟩
    · simp only [f_X6_drift_L25]; rw [if_neg (nI_ge (by omega) (by omega)), o1, Option.bind_some, q1, Option.bind_some, nI_1, p1]
    · simp only [f_X7_drift_L18]; rw [if_neg (nI_ge (by omega) (by omega)), o2, Option.bind_some, q2, Option.bind_some, nI_1, p2]
theorem ok_drift {c m : MM} (h : Rel c m) (x : Int32) : Ok c m (f_X6_drift x c) (f_X7_drift x m) := by
  obtain ⟨n, L, A, P, I0, I1, hr⟩ := id h
  obtain ⟨hI, hC, hR⟩ := hr.2.2.1
  obtain ⟨⟨hcw, hrw, hiw⟩, hh⟩ := hr.2.2.2.1
  have hFU : (100 : Nat) < FU := by decide
  unfold f_X6_drift f_X7_drift
  rcases href hI hC hR hcw.1.1 hrw.1.1 hh x with ⟨a, h0, h60, rfl, h9, hF, e1, e2⟩ | ⟨v, hv, e1, e2⟩
  · rw [e1, e2, bdE, bdE, if_pos rfl, if_pos rfl]
    obtain ⟨c1, m1, P1, q1, q2, q3⟩ := remX hr
    rw [q1, q2, Option.bind_some, Option.bind_some]
    obtain ⟨c2, m2, B, p1, p2, p3⟩ := driftX (z := 0) (z2 := 0) (N := a) (by omega) hF a 0 FU FU c1 m1 A (by omega) (by omega) (by omega) q3 (by omega)
    have p1' : f_X6_drift_L25 (nI a) 0 FU 0 c1 = some (nI a, c2) := p1
    have p2' : f_X7_drift_L18 (nI a) 0 FU 0 m1 = some (nI a, m2) := p2
    rw [p1', p2', Option.bind_some, Option.bind_some]
    have s6 : c2 24 5 = nI (tls B).length := p3.2.2.2.1.1.1.1.2.2.2.2.2.1
    have t6 : m2 149 32 = nI (tls B).length := p3.2.2.2.1.1.2.1.1.2.2.2.2.2.1
    dsimp only
    rw [s6, t6]
    exact ⟨_, _, _, rfl, rfl, n, L, B, P1, I0, I1, p3⟩
  · rw [e1, e2, bdE, bdE, if_neg hv, if_neg hv]
    exact ⟨_, _, _, rfl, rfl, h⟩
