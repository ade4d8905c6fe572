/-! the world that is now, changed at one place -/
theorem CW.sc {c : MM} {w F : Nat} {A A' : WS} {j : Nat} {v : Int32} (h : CW c w F A) (hA : A'.2 = A.2) (hj : j < 5) (hs : CS0 (up2 c w j v) w A') : CW (up2 c w j v) w F A' := by
  obtain ⟨_, ht, ⟨E, hE, s8, hl⟩, a1, a2, a3⟩ := h
  have e1 : tls A' = tls A := congrArg (fun z => z.1) hA
  have e2 : lgs A' = lgs A := congrArg (fun z => z.2.1) hA
  have e3 : srt A' = srt A := congrArg (fun z => z.2.2.1) hA
  have e4 : lat A' = lat A := congrArg (fun z => z.2.2.2.1) hA
  have e5 : hrd A' = hrd A := congrArg (fun z => z.2.2.2.2) hA
  refine ⟨hs, ?_, ⟨E, hE, by rw [up2_ne (by omega)]; exact s8, ?_⟩, ?_, ?_, ?_⟩
  · intro i t hi; rw [e1] at hi; unfold t4C; rw [up2_ro (by omega)]; exact ht i t hi
  · intro i t hi; rw [e2] at hi; unfold t4C; rw [up2_ro (by omega)]; exact hl i t hi
  · intro a ha; rw [up2_ro (by omega), e3]; exact a1 a ha
  · intro a ha; rw [up2_ro (by omega), e4]; exact a2 a ha
  · intro a ha; rw [up2_ro (by omega), e5]; exact a3 a ha
theorem RW.sc {m : MM} {F : Nat} {A A' : WS} {j : Nat} {v : Int32} (h : RW m 149 0 F A) (hA : A'.2 = A.2) (hj : 9 ≤ j ∧ j ≤ 13) (hF : F ≤ 9) (hs : RS0 (up2 m 149 j v) 149 0 A') : RW (up2 m 149 j v) 149 0 F A' := by
  obtain ⟨_, ht, hl, a1, a2, a3⟩ := h
  have e1 : tls A' = tls A := congrArg (fun z => z.1) hA
  have e2 : lgs A' = lgs A := congrArg (fun z => z.2.1) hA
  have e3 : srt A' = srt A := congrArg (fun z => z.2.2.1) hA
  have e4 : lat A' = lat A := congrArg (fun z => z.2.2.2.1) hA
  have e5 : hrd A' = hrd A := congrArg (fun z => z.2.2.2.2) hA
  refine ⟨hs, ?_, ?_, ?_, ?_, ?_⟩
  · intro i t hi; rw [e1] at hi; rw [up2_ne (by omega)]; exact ht i t hi
  · intro i t hi; rw [e2] at hi ⊢; rw [up2_ne (by omega)]; exact hl i t hi
  · intro a ha; rw [up2_ne (by omega), e3]; exact a1 a ha
  · intro a ha; rw [up2_ne (by omega), e4]; exact a2 a ha
  · intro a ha; rw [up2_ne (by omega), e5]; exact a3 a ha
theorem noDale {c m : MM} {L : LG} (hI : LI L) (hC : LC c L) (hR : LR m L) : (c 3 2 = 0 ↔ nF L = 0) ∧ (m 144 1 = 0 ↔ nF L = 0) := by
  have hF := hI.1
  rw [hC.2.1, hR.2.1]
  exact ⟨nI_eq (b := 0) (by omega) (by decide), nI_eq (b := 0) (by omega) (by decide)⟩
theorem ok_rain {c m : MM} (h : Rel c m) (x : Int32) : Ok c m (f_X6_rain x c) (f_X7_rain x m) := by
  obtain ⟨n, L, A, P, I0, I1, hr⟩ := id h
  obtain ⟨hI, hC, hR⟩ := hr.2.2.1
  obtain ⟨nd1, nd2⟩ := noDale hI hC hR
  simp only [f_X6_rain, f_X7_rain, bd]
  rcases in_k x m (k := 9) (by decide) (K := 9) (by decide) with ⟨k, hk, rfl, e⟩ | ⟨g, e⟩
  · rw [e, if_neg (nI_pos (by omega)), if_pos (show nI k ≤ 9 from nI_le hk (by decide)), if_neg one_ne]
    by_cases hF : nF L = 0
    · rw [if_pos (nd1.mpr hF), if_pos (nd2.mpr hF)]
      exact ⟨_, _, _, rfl, rfl, h⟩
    · rw [if_neg (fun q => hF (nd1.mp q)), if_neg (fun q => hF (nd2.mp q))]
      obtain ⟨c1, m1, P1, q1, q2, q3⟩ := remX hr
      rw [q1, q2, Option.bind_some, Option.bind_some]
      obtain ⟨⟨hcw, hrw, hiw⟩, hh⟩ := q3.2.2.2.1
      obtain ⟨s1, s2, s3, s4, s5, s6, s7⟩ := hcw.1
      obtain ⟨r1, r2, r3, r4, r5, r6, r7⟩ := hrw.1
      simp only [Nat.zero_add] at r1 r2 r3 r4 r5 r6 r7
      rw [s2, r2]
      refine ⟨_, _, _, rfl, rfl, n, L, ((hrs A, k, fro A, dmm A, unl A), A.2), P1, I0, I1, ?_⟩
      refine q3.now (fun r w1 w2 => up2_ro (by omega)) (fun r w1 w2 => up2_ro w1) ⟨hcw.sc rfl (by decide) ?_, hrw.sc rfl (by decide) hI.1 ?_, ?_⟩ hh
      · refine ⟨?_, ?_, ?_, ?_, ?_, ?_, ?_⟩
        · rw [up2_ne (by omega)]; exact s1
        · rw [up2_eq]
        · rw [up2_ne (by omega)]; exact s3
        · rw [up2_ne (by omega)]; exact s4
        · rw [up2_ne (by omega)]; exact s5
        · rw [up2_ne (by omega)]; exact s6
        · rw [up2_ne (by omega)]; exact s7
      · refine ⟨?_, ?_, ?_, ?_, ?_, ?_, ?_⟩
        · rw [up2_ne (by omega)]; exact r1
        · rw [up2_eq]
        · rw [up2_ne (by omega)]; exact r3
        · rw [up2_ne (by omega)]; exact r4
        · rw [up2_ne (by omega)]; exact r5
        · rw [up2_ne (by omega)]; exact r6
        · rw [up2_ne (by omega)]; exact r7
      · exact ⟨hk, hiw.2⟩
  · rw [e, if_pos rfl]
    by_cases hx : x < 0
    · rw [if_pos hx]; exact ⟨_, _, _, rfl, rfl, h⟩
    · rw [if_neg hx]
      rcases g with g | g
      · exact absurd g hx
      · rw [if_neg (fun q => by
          have q2 : x ≤ nI 9 := q
          simp only [Int32.lt_iff_toInt_lt, Int32.le_iff_toInt_le] at *
          omega)]
        exact ⟨_, _, _, rfl, rfl, h⟩
theorem ok_frost {c m : MM} (h : Rel c m) {x : Int32} (hx : x = 0 ∨ x = 1) : Ok c m (f_X6_frost x c) (f_X7_frost x m) := by
  obtain ⟨n, L, A, P, I0, I1, hr⟩ := id h
  obtain ⟨hI, hC, hR⟩ := hr.2.2.1
  obtain ⟨nd1, nd2⟩ := noDale hI hC hR
  simp only [f_X6_frost, f_X7_frost, bd]
  by_cases hF : nF L = 0
  · rw [if_pos (nd1.mpr hF), if_pos (nd2.mpr hF)]
    exact ⟨_, _, _, rfl, rfl, h⟩
  · rw [if_neg (fun q => hF (nd1.mp q)), if_neg (fun q => hF (nd2.mp q))]
    obtain ⟨c1, m1, P1, q1, q2, q3⟩ := remX hr
    rw [q1, q2, Option.bind_some, Option.bind_some]
    obtain ⟨⟨hcw, hrw, hiw⟩, hh⟩ := q3.2.2.2.1
    obtain ⟨s1, s2, s3, s4, s5, s6, s7⟩ := hcw.1
    obtain ⟨r1, r2, r3, r4, r5, r6, r7⟩ := hrw.1
    simp only [Nat.zero_add] at r1 r2 r3 r4 r5 r6 r7
    have hfr : (if nI (fro A) = 0 then (0 : Int32) else 1) = nI (fro A) := by
      have := hiw.2.1
      rcases (show fro A = 0 ∨ fro A = 1 by omega) with h | h
      · rw [h]; rfl
      · rw [h]; rfl
    rw [s3, r3, hfr, gd_t hx]
    have key : ∀ k : Nat, k ≤ 1 → Rel (up2 c1 24 2 (nI k)) (up2 m1 149 11 (nI k)) := by
      intro k hk
      refine ⟨n, L, ((hrs A, flw A, k, dmm A, unl A), A.2), P1, I0, I1, ?_⟩
      refine q3.now (fun r w1 w2 => up2_ro (by omega)) (fun r w1 w2 => up2_ro w1) ⟨hcw.sc rfl (by decide) ?_, hrw.sc rfl (by decide) hI.1 ?_, ?_⟩ hh
      · refine ⟨?_, ?_, ?_, ?_, ?_, ?_, ?_⟩
        · rw [up2_ne (by omega)]; exact s1
        · rw [up2_ne (by omega)]; exact s2
        · rw [up2_eq]
        · rw [up2_ne (by omega)]; exact s4
        · rw [up2_ne (by omega)]; exact s5
        · rw [up2_ne (by omega)]; exact s6
        · rw [up2_ne (by omega)]; exact s7
      · refine ⟨?_, ?_, ?_, ?_, ?_, ?_, ?_⟩
        · rw [up2_ne (by omega)]; exact r1
        · rw [up2_ne (by omega)]; exact r2
        · rw [up2_eq]
        · rw [up2_ne (by omega)]; exact r4
        · rw [up2_ne (by omega)]; exact r5
        · rw [up2_ne (by omega)]; exact r6
        · rw [up2_ne (by omega)]; exact r7
      · exact ⟨hiw.1, hk, hiw.2.2⟩
    rcases hx with rfl | rfl
    · exact ⟨_, _, _, rfl, rfl, key 0 (by decide)⟩
    · exact ⟨_, _, _, rfl, rfl, key 1 (by decide)⟩
theorem dm_dec : ∀ D, D < 512 → ∀ a, a < 9 → (nI D &&& (nI (2 ^ a) ^^^ (-1))) = nI (if D.testBit a then D - 2 ^ a else D) := by decide +kernel
theorem dm_ev : ∀ D, D < 512 → ∀ a, a < 9 → 0 < a → D % 2 = 0 → (if D.testBit a then D - 2 ^ a else D) % 2 = 0 ∧ (if D.testBit a then D - 2 ^ a else D) ≤ D ∧ (D ||| 2 ^ a) % 2 = 0 := by decide +kernel
theorem ok_dam {c m : MM} (h : Rel c m) (x y : Int32) : Ok c m (f_X6_dam x y c) (f_X7_dam x y m) := by
  obtain ⟨n, L, A, P, I0, I1, hr⟩ := id h
  obtain ⟨hI, hC, hR⟩ := hr.2.2.1
  have hF9 := hI.1
  have hp := pow_512 hF9
  simp only [f_X6_dam, f_X7_dam, bd]
  rcases farm_cs hI hC hR x with ⟨a, ha, rfl, e1, e2⟩ | ⟨e1, e2⟩
  · rw [e1, e2, if_neg one_ne, if_neg one_ne]
    by_cases h0 : a = 0
    · subst h0
      rw [if_pos (show nI 0 = 0 from rfl), if_pos (show nI 0 = 0 from rfl)]
      exact ⟨_, _, _, rfl, rfl, h⟩
    · have hne : ¬ nI a = 0 := nI_neI (b := 0) (by omega) (by decide) h0
      rw [if_neg hne, if_neg hne]
      obtain ⟨c1, m1, P1, q1, q2, q3⟩ := remX hr
      rw [q1, q2, Option.bind_some, Option.bind_some]
      obtain ⟨⟨hcw, hrw, hiw⟩, hh⟩ := q3.2.2.2.1
      obtain ⟨s1, s2, s3, s4, s5, s6, s7⟩ := hcw.1
      obtain ⟨r1, r2, r3, r4, r5, r6, r7⟩ := hrw.1
      simp only [Nat.zero_add] at r1 r2 r3 r4 r5 r6 r7
      have hD := hiw.2.2.1.1
      obtain ⟨ev1, ev2, ev3⟩ := dm_ev (dmm A) (by omega) a (by omega) (by omega) hiw.2.2.1.2
      rw [s4, r4, holds_nI (by omega) (by omega), has_nI (by omega) (by omega), sl_dec _ (by omega), dm_dec _ (by omega) a (by omega), fa_or]
      have key : ∀ k : Nat, k < 2 ^ nF L → k % 2 = 0 → Rel (up2 c1 24 3 (nI k)) (up2 m1 149 9 (nI k)) := by
        intro k hk hk2
        refine ⟨n, L, ((hrs A, flw A, fro A, k, unl A), A.2), P1, I0, I1, ?_⟩
        refine q3.now (fun r w1 w2 => up2_ro (by omega)) (fun r w1 w2 => up2_ro w1) ⟨hcw.sc rfl (by decide) ?_, hrw.sc rfl (by decide) hI.1 ?_, ?_⟩ hh
        · refine ⟨?_, ?_, ?_, ?_, ?_, ?_, ?_⟩
          · rw [up2_ne (by omega)]; exact s1
          · rw [up2_ne (by omega)]; exact s2
          · rw [up2_ne (by omega)]; exact s3
          · rw [up2_eq]
          · rw [up2_ne (by omega)]; exact s5
          · rw [up2_ne (by omega)]; exact s6
          · rw [up2_ne (by omega)]; exact s7
        · refine ⟨?_, ?_, ?_, ?_, ?_, ?_, ?_⟩
          · rw [up2_ne (by omega)]; exact r1
          · rw [up2_ne (by omega)]; exact r2
          · rw [up2_ne (by omega)]; exact r3
          · rw [up2_eq]
          · rw [up2_ne (by omega)]; exact r5
          · rw [up2_ne (by omega)]; exact r6
          · rw [up2_ne (by omega)]; exact r7
        · exact ⟨hiw.1, hiw.2.1, ⟨hk, hk2⟩, hiw.2.2.2⟩
      by_cases hy : y = 0
      · rw [if_pos hy, if_pos hy]
        exact ⟨_, _, _, rfl, rfl, key _ (by omega) ev1⟩
      · rw [if_neg hy, if_neg hy]
        exact ⟨_, _, _, rfl, rfl, key _ (Nat.or_lt_two_pow hD (Nat.pow_lt_pow_right (by decide) ha)) ev3⟩
  · rw [e1, e2, if_pos rfl, if_pos rfl]; exact ⟨_, _, _, rfl, rfl, h⟩
theorem ok_smooth {c m : MM} (h : Rel c m) (x : Int32) : Ok c m (f_X6_smooth x c) (f_X7_smooth x m) := by
  obtain ⟨n, L, A, P, I0, I1, hr⟩ := id h
  obtain ⟨hI, hC, hR⟩ := hr.2.2.1
  have hF9 := hI.1
  simp only [f_X6_smooth, f_X7_smooth, bd]
  rcases farm_cs hI hC hR x with ⟨a, ha, rfl, e1, e2⟩ | ⟨e1, e2⟩
  · rw [e1, e2, if_neg one_ne, if_neg one_ne]
    by_cases h0 : a = 0
    · subst h0
      rw [if_pos (show nI 0 = 0 from rfl), if_pos (show nI 0 = 0 from rfl)]
      exact ⟨_, _, _, rfl, rfl, h⟩
    · have hne : ¬ nI a = 0 := nI_neI (b := 0) (by omega) (by decide) h0
      rw [if_neg hne, if_neg hne]
      obtain ⟨c1, m1, P1, q1, q2, q3⟩ := remX hr
      rw [q1, q2, Option.bind_some, Option.bind_some]
      obtain ⟨⟨⟨hcs, hct, hcl, ha1, ha2, ha3⟩, ⟨hrs0, hrt, hrl, ra1, ra2, ra3⟩, hiw⟩, hh⟩ := q3.2.2.2.1
      have k0 : (0 : Int32) + nI a = nI a := by rw [z0, nI_add, Nat.zero_add]
      have r1 := ra1 a ha
      rw [Nat.zero_add] at r1
      rw [cellC (n := 9) c1 rfl (by omega) (by decide), putC (n := 9) _ _ rfl (by omega) (by decide), k0, gdI (by omega) (by decide), gdI (by omega) (by decide), nI_clamp (by omega), r1, ha1 a ha]
      refine ⟨_, _, _, rfl, rfl, n, L, (A.1, tls A, lgs A, (fun b => if b = a then 0 else srt A b), lat A, hrd A), P1, I0, I1, ?_⟩
      refine q3.now (fun r w1 w2 => up2_ro (by omega)) (fun r w1 w2 => up2_ro w1) ⟨⟨?_, ?_, ?_, ?_, ?_, ?_⟩, ⟨?_, ?_, ?_, ?_, ?_, ?_⟩, ?_⟩ hh
      · exact hcs
      · exact hct
      · exact hcl
      · intro b hb
        by_cases hba : b = a
        · subst hba; show up2 c1 27 b 0 27 b = nI (if b = b then 0 else srt A b); rw [up2_eq, if_pos rfl]; rfl
        · show up2 c1 27 a 0 27 b = nI (if b = a then 0 else srt A b); rw [up2_ne (by omega), if_neg hba]; exact ha1 b hb
      · exact ha2
      · exact ha3
      · obtain ⟨r1, r2, r3, r4, r5, r6, r7⟩ := hrs0
        simp only [Nat.zero_add] at r1 r2 r3 r4 r5 r6 r7
        refine ⟨?_, ?_, ?_, ?_, ?_, ?_, ?_⟩
        · rw [up2_ne (by omega)]; exact r1
        · rw [up2_ne (by omega)]; exact r2
        · rw [up2_ne (by omega)]; exact r3
        · rw [up2_ne (by omega)]; exact r4
        · rw [up2_ne (by omega)]; exact r5
        · rw [up2_ne (by omega)]; exact r6
        · rw [up2_ne (by omega)]; exact r7
      · intro i t hi; rw [up2_ne (by omega)]; exact hrt i t hi
      · intro i t hi; rw [up2_ne (by omega)]; exact hrl i t hi
      · intro b hb
        by_cases hba : b = a
        · subst hba; show up2 m1 149 b 0 149 (0 + b) = nI (if b = b then 0 else srt A b); rw [Nat.zero_add, up2_eq, if_pos rfl]; rfl
        · show up2 m1 149 a 0 149 (0 + b) = nI (if b = a then 0 else srt A b); rw [up2_ne (by omega), if_neg hba]; exact ra1 b hb
      · intro b hb; rw [up2_ne (by omega)]; exact ra2 b hb
      · intro b hb; rw [up2_ne (by omega)]; exact ra3 b hb
      · obtain ⟨i1, i2, i3, i4, i5, i6, i7, i8, i9, i10⟩ := hiw
        refine ⟨i1, i2, i3, i4, i5, i6, fun b hb => ?_, ?_, i9, i10⟩
        · show (if b = a then 0 else srt A b) ≤ 4
          split
          · omega
          · exact i7 b hb
        · show (if 0 = a then 0 else srt A 0) = 0
          split
          · rfl
          · exact i8
  · rw [e1, e2, if_pos rfl, if_pos rfl]; exact ⟨_, _, _, rfl, rfl, h⟩
