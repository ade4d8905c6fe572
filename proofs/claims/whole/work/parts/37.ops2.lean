theorem ok_undo {c m : MM} (h : Rel c m) : Ok c m (f_X6_undo c) (f_X7_undo m) := by
  obtain ⟨n, L, A, P, I0, I1, hr⟩ := id h
  obtain ⟨_, _, ⟨hI, hC, hR⟩, ⟨h4, h4b⟩, ⟨p1, p2, p3, e, p4, p5, p6⟩, _⟩ := id hr
  unfold f_X6_undo f_X7_undo
  rw [p2, p3]
  by_cases h0 : P.length = 0
  · rw [h0, if_pos (show nI 0 = 0 from rfl), if_pos (show nI 0 = 0 from rfl)]
    exact ⟨_, _, _, rfl, rfl, h⟩
  · have hne : ¬ nI P.length = 0 := nI_neI (b := 0) (by omega) (by decide) h0
    rw [if_neg hne, if_neg hne]
    obtain ⟨B, hB⟩ : ∃ B, P[P.length - 1]? = some B := ⟨_, List.getElem?_eq_getElem (by omega)⟩
    obtain ⟨b1, b2⟩ := p6 _ B hB
    have hslot : (e + 16 - P.length + (P.length - 1)) % 16 = (e + 15) % 16 := by omega
    rw [hslot] at b1
    obtain ⟨c1, e0, e1, e2⟩ := cpW hI w24 (wPast (show (e + 15) % 16 < 16 by omega)) (by omega) b1.1 b1.2.2
    have r13 : c1 13 = c 13 := e1 13 (by omega)
    have hp1 : nI P.length - 1 = nI (P.length - 1) := by
      obtain ⟨k, hk⟩ : ∃ k, P.length = k + 1 := ⟨P.length - 1, by omega⟩
      rw [hk, nI_pred]; rfl
    obtain ⟨m1, d1, d2, d3, d4⟩ := cpUn (P.length - 1) (by omega) FU 0 (up2 m 144 24 (nI (P.length - 1))) (up2_eq _ _ _ _) (by omega) (by unfold FU; omega)
    have hx : f_X3_bringBack 24 c = some (up2 (up2 c1 13 1 (nI ((e + 15) % 16))) 13 2 (nI (P.length - 1))) := by
      simp only [f_X3_bringBack, bd]
      rw [p5, p3, z16, nI_add, show e + 16 = (e + 15) + 1 by omega, nI_pred, rm_nI (by omega) (by decide) (by decide), worldC (by omega)]
      simp only [nr]
      rw [if_neg (nI_nle (by omega) (by omega)), e0, Option.bind_some, up2_ne (by omega), r13, p3, hp1]
    rw [hx]
    simp only [bd, Option.bind_some]
    rw [hp1, show f_X7_undo_L22 FU 0 (up2 m 144 24 (nI (P.length - 1))) = f_X7_undo_L22 FU (nI 0) (up2 m 144 24 (nI (P.length - 1))) from rfl, d1, Option.bind_some, up2_eq]
    refine ⟨nI (P.length - 1), _, m1, rfl, ?_, n, L, B, P.take (P.length - 1), I0, I1, ?_⟩
    · show some (m1 144 24, m1) = _
      rw [d2 144 (by decide), up2_eq]
    · have hsz := IW.sz hI b1.2.2
      -- first the past is shorter, then the world is B
      have g1 : RelS (up2 (up2 c 13 1 (nI ((e + 15) % 16))) 13 2 (nI (P.length - 1))) (up2 m 144 24 (nI (P.length - 1))) n L A (P.take (P.length - 1)) I0 I1 := by
        refine hr.past (fun r q1 q2 => by rw [up2_ro q1, up2_ro q1]) (fun r q1 q2 => by rw [up2_ro q2]) (fun k hk => by rw [up2_ne (Or.inr hk)]) ?_
        have hlen : (P.take (P.length - 1)).length = P.length - 1 := by simp
        refine ⟨by omega, by rw [up2_eq, hlen], by rw [up2_eq, hlen], (e + 15) % 16, by omega, by rw [up2_ne (by omega), up2_eq], fun i B' hB' => ?_⟩
        have hi := (List.getElem?_eq_some_iff.mp hB').1
        rw [hlen] at hi
        rw [List.getElem?_take_of_lt hi] at hB'
        obtain ⟨q1, q2⟩ := p6 i B' hB'
        refine ⟨?_, q2⟩
        rw [hlen, show ((e + 15) % 16 + 16 - (P.length - 1) + i) % 16 = (e + 16 - P.length + i) % 16 by omega]
        exact q1.eq hI.F (fun k hk => by rw [up2_ro (by omega), up2_ro (by omega)]) (fun k hk => by rw [up2_ro (by decide)])
      refine g1.now (fun r q1 q2 => ?_) (fun r q1 q2 => d2 r q1) ⟨?_, ?_, b1.2.2⟩ b2
      · by_cases h13 : r = 13
        · subst h13
          funext k
          by_cases hk2 : k = 2
          · subst hk2; rw [up2_eq, up2_eq]
          · rw [up2_ne (Or.inr hk2), up2_ne (Or.inr hk2)]
            by_cases hk1 : k = 1
            · subst hk1; rw [up2_eq, up2_eq]
            · rw [up2_ne (Or.inr hk1), up2_ne (Or.inr hk1), r13]
        · rw [up2_ro h13, up2_ro h13, up2_ro h13, up2_ro h13]; exact e1 r (by omega)
      · exact e2.eq (fun k hk => by rw [up2_ro (by omega), up2_ro (by omega)])
      · refine rwM b1.2.1 hsz (fun k hk => ?_)
        rw [Nat.zero_add, d4 k (by omega) hk, up2_ro (by decide)]
theorem hk01 {x : Int32} {m : MM} : (∃ i, i < 2 ∧ x = nI i ∧ (∀ μ, f_X6_image x μ = some (36 + 6 * i)) ∧ f_X7_in (Int32.toInt64 x) 0 1 m = 1) ∨ ((∀ μ, f_X6_image x μ = none) ∧ f_X7_in (Int32.toInt64 x) 0 1 m = 0) := by
  rcases nI_cases x (n := 2) (by decide) with ⟨i, hi, rfl⟩ | ⟨g1, g2⟩
  · refine Or.inl ⟨i, hi, rfl, fun μ => ?_, ?_⟩
    · unfold f_X6_image
      rw [if_neg (nI_pos (by omega)), if_neg (show ¬ Int32.ofNat 2 ≤ nI i from nI_ge (b := 2) hi (by decide)), nI_clamp (by omega)]
    · exact in_nI hi (by decide) m
  · refine Or.inr ⟨fun μ => ?_, in_no g2 m⟩
    unfold f_X6_image
    by_cases hx : x < 0
    · rw [if_pos hx]
    · rw [if_neg hx]
      rcases g1 with g1 | g1
      · exact absurd g1 hx
      · rw [if_pos (show Int32.ofNat 2 ≤ x from g1)]
theorem or4 : ∀ K, K < 4 → ∀ i, i < 2 → K ||| 2 ^ i < 4 ∧ (K ||| 2 ^ i).testBit i = true ∧ ∀ j, j < 2 → j ≠ i → (K ||| 2 ^ i).testBit j = K.testBit j := by decide
/-- one image anew, the other as it was -/
theorem imI.off {c c' m m' : MM} {L : LG} {K K' i : Nat} {im : IM} (h : imI c m L K i im) (hi : i < 2) (hF : nF L ≤ 9) (hK : K'.testBit i = K.testBit i) (aw : ∀ k, k < 6 → c' (36 + 6 * i + k) = c (36 + 6 * i + k)) (a1 : c' 16 i = c 16 i) (b1 : ∀ k, k < 67 → m' 164 (67 * i + k) = m 164 (67 * i + k)) (b2 : m' 165 i = m 165 i) : imI c' m' L K' i im := by
  cases im with
  | none => obtain ⟨h1, h2⟩ := h; exact ⟨by rw [hK]; exact h1, by rw [b2]; exact h2⟩
  | some p =>
    obtain ⟨B, sd⟩ := p
    obtain ⟨h1, h2, h3, h4, h5, h6, h7⟩ := h
    exact ⟨by rw [hK]; exact h1, by rw [b2]; exact h2, h3.eq hF aw (fun k hk => b1 k (by omega)), h4, by rw [a1]; exact h5, by rw [b1 66 (by decide)]; exact h6, h7⟩
theorem vb1 : vp_nar .boolean 1 = 1 := by decide
theorem vb0 : vp_nar .boolean 0 = 0 := by decide
theorem ok_keep {c m : MM} (h : Rel c m) (x : Int32) : Ok c m (f_X6_keep x c) (f_X7_keep x m) := by
  obtain ⟨n, L, A, P, I0, I1, hr⟩ := id h
  obtain ⟨h1, h2, ⟨hI, hC, hR⟩, ⟨h4, h4b⟩, ⟨p1, p2, p3, e, p4, p5, p6⟩, ⟨K, k1, k2, k3, k4⟩, h7, h8, h9⟩ := id hr
  unfold f_X6_keep
  simp only [f_X7_keep, bd]
  rcases hk01 (x := x) (m := m) with ⟨i, hi, rfl, g1, g2⟩ | ⟨g1, g2⟩
  · obtain ⟨c1, e0, e1, e2⟩ := cpW hI (wImg hi) w24 (by omega) h4.1 h4.2.2
    obtain ⟨m1, d1, d2, d3, d4⟩ := cpKp i (by omega) FU 0 m (by omega) (by unfold FU; omega)
    have r0 : c1 0 = c 0 := e1 0 (by omega)
    obtain ⟨o1, o2, o3⟩ := or4 K k1 i hi
    have hsz := IW.sz hI h4.2.2
    rw [g1 c, g2, if_neg one_ne]
    simp only [nr]
    rw [e0, Option.bind_some, putC (n := 2) _ _ rfl hi (by decide), up2_ne (by omega), r0, k2, sl_dec _ (by omega), fa_or, show f_X7_keep_L15 (nI i) FU 0 m = f_X7_keep_L15 (nI i) FU (nI 0) m from rfl, d1, Option.bind_some, z67, z66, pk_mul, nI_add, gdI (by omega) (by decide), nI_clamp (by omega), gdI2 hi (by decide), nI_clamp (by omega), vb1]
    refine ⟨1, _, _, rfl, rfl, n, L, A, [], if i = 0 then some (A, c 0 9) else I0, if i = 1 then some (A, c 0 9) else I1, ?_⟩
    show RelS (up2 (up2 (up2 c1 16 i (c 0 9)) 0 8 (nI (K ||| 2 ^ i))) 13 2 0) (up2 (up2 (up2 m1 164 (67 * i + 66) (m1 144 8)) 165 i 1) 144 24 0) n L A [] _ _
    have mm144 : m1 144 = m 144 := d2 144 (by decide)
    have cr : ∀ r, r ≠ 13 → r ≠ 0 → r ≠ 16 → (r < 36 + 6 * i ∨ 36 + 6 * i + 5 < r) → up2 (up2 (up2 c1 16 i (c 0 9)) 0 8 (nI (K ||| 2 ^ i))) 13 2 0 r = c r := fun r q1 q2 q3 q4 => by rw [up2_ro q1, up2_ro q2, up2_ro q3]; exact e1 r q4
    have mr : ∀ r, r ≠ 144 → r ≠ 164 → r ≠ 165 → up2 (up2 (up2 m1 164 (67 * i + 66) (m1 144 8)) 165 i 1) 144 24 0 r = m r := fun r q1 q2 q3 => by rw [up2_ro q1, up2_ro q3, up2_ro q2]; exact d2 r q2
    have m4 : ∀ k, k ≠ 24 → up2 (up2 (up2 m1 164 (67 * i + 66) (m1 144 8)) 165 i 1) 144 24 0 144 k = m 144 k := fun k hk => by rw [up2_ne (Or.inr hk), up2_ro (by decide), up2_ro (by decide), mm144]
    have newI : imI (up2 (up2 (up2 c1 16 i (c 0 9)) 0 8 (nI (K ||| 2 ^ i))) 13 2 0) (up2 (up2 (up2 m1 164 (67 * i + 66) (m1 144 8)) 165 i 1) 144 24 0) L (K ||| 2 ^ i) i (some (A, c 0 9)) := by
      refine ⟨o2, ?_, ⟨e2.eq (fun k hk => by rw [up2_ro (by omega), up2_ro (by omega), up2_ro (by omega)]), rwM h4.2.1 hsz (fun k hk => ?_), h4.2.2⟩, h4b, ?_, ?_, h7.2⟩
      · rw [up2_ro (by decide), up2_eq]
      · rw [up2_ro (by decide), up2_ro (by decide), up2_ne (by omega), d4 k (by omega) hk, Nat.zero_add]
      · rw [up2_ro (by decide), up2_ro (by decide), up2_eq]
      · rw [up2_ro (by decide), up2_ro (by decide), up2_eq, mm144, h7.1]
    have oldI : ∀ (j : Nat) (im : IM), j < 2 → j ≠ i → imI c m L K j im → imI (up2 (up2 (up2 c1 16 i (c 0 9)) 0 8 (nI (K ||| 2 ^ i))) 13 2 0) (up2 (up2 (up2 m1 164 (67 * i + 66) (m1 144 8)) 165 i 1) 144 24 0) L (K ||| 2 ^ i) j im := by
      intro j im hj hji him
      refine him.off hj hI.F (o3 j hj hji) (fun k hk => cr _ (by omega) (by omega) (by omega) (by omega)) ?_ (fun k hk => ?_) ?_
      · rw [up2_ro (by decide), up2_ro (by decide), up2_ne (by omega), e1 16 (by omega)]
      · rw [up2_ro (by decide), up2_ro (by decide), up2_ne (by omega), d3 _ (by omega)]
      · rw [up2_ro (by decide), up2_ne (by omega), up2_ro (by decide), d2 165 (by decide)]
    refine ⟨h1.eq (by rw [cr 1 (by omega) (by omega) (by omega) (by omega)]) (cr 2 (by omega) (by omega) (by omega) (by omega)) (m4 10 (by decide)) (mr 150 (by decide) (by decide) (by decide)), ?_, ⟨hI, hC.eq (by rw [cr 3 (by omega) (by omega) (by omega) (by omega)]) (by rw [cr 3 (by omega) (by omega) (by omega) (by omega)]) (cr 4 (by omega) (by omega) (by omega) (by omega)) (cr 5 (by omega) (by omega) (by omega) (by omega)) (cr 7 (by omega) (by omega) (by omega) (by omega)), hR.eq (m4 0 (by decide)) (m4 1 (by decide)) (mr 145 (by decide) (by decide) (by decide)) (mr 146 (by decide) (by decide) (by decide)) (mr 148 (by decide) (by decide) (by decide))⟩, ⟨h4.eq hI.F (fun k hk => cr _ (by omega) (by omega) (by omega) (by omega)) (fun k hk => by rw [mr 149 (by decide) (by decide) (by decide)]), h4b⟩, ⟨by simp, by rw [up2_eq]; rfl, by rw [up2_eq]; rfl, e, p4, ?_, fun i B hB => by simp at hB⟩, ⟨K ||| 2 ^ i, o1, ?_, ?_, ?_⟩, ?_, h8.eq (by rw [cr 17 (by omega) (by omega) (by omega) (by omega)]) (cr 18 (by omega) (by omega) (by omega) (by omega)) (cr 19 (by omega) (by omega) (by omega) (by omega)) (m4 27 (by decide)) (mr 159 (by decide) (by decide) (by decide)) (mr 160 (by decide) (by decide) (by decide)), h9.eq (by rw [cr 21 (by omega) (by omega) (by omega) (by omega)]) (cr 22 (by omega) (by omega) (by omega) (by omega)) (cr 23 (by omega) (by omega) (by omega) (by omega)) (m4 31 (by decide)) (mr 162 (by decide) (by decide) (by decide)) (mr 163 (by decide) (by decide) (by decide))⟩
    · rw [cr 1 (by omega) (by omega) (by omega) (by omega), m4 11 (by decide)]; exact h2
    · rw [up2_ne (by omega), up2_ro (by decide), up2_ro (by decide), e1 13 (by omega)]; exact p5
    · rw [up2_ro (by decide), up2_eq]
    · by_cases hi0 : i = 0
      · rw [if_pos hi0]; subst hi0; exact newI
      · rw [if_neg hi0]; exact oldI 0 I0 (by decide) (fun q => hi0 q.symm) k3
    · by_cases hi1 : i = 1
      · rw [if_pos hi1]; subst hi1; exact newI
      · rw [if_neg hi1]; exact oldI 1 I1 (by decide) (fun q => hi1 q.symm) k4
    · refine h7.eq ?_ (m4 8 (by decide))
      rw [up2_ro (by decide), up2_ne (by decide), up2_ro (by decide), r0]
  · rw [g1 c, g2, if_pos rfl]
    exact ⟨_, _, _, rfl, rfl, h⟩
theorem ok_goBack {c m : MM} (h : Rel c m) (x : Int32) : Ok c m (f_X6_goBack x c) (f_X7_goBack x m) := by
  obtain ⟨n, L, A, P, I0, I1, hr⟩ := id h
  obtain ⟨h1, h2, ⟨hI, hC, hR⟩, ⟨h4, h4b⟩, ⟨p1, p2, p3, e, p4, p5, p6⟩, ⟨K, k1, k2, k3, k4⟩, h7, h8, h9⟩ := id hr
  unfold f_X6_goBack
  simp only [f_X7_goBack, bd]
  rcases hk01 (x := x) (m := m) with ⟨i, hi, rfl, g1, g2⟩ | ⟨g1, g2⟩
  · rw [g1 c, g2, if_neg one_ne]
    simp only [nr]
    have him : ∃ im, imI c m L K i im := by
      rcases (show i = 0 ∨ i = 1 by omega) with rfl | rfl
      · exact ⟨_, k3⟩
      · exact ⟨_, k4⟩
    obtain ⟨im, him⟩ := him
    rw [k2, holds_nI (by omega) (by omega), gdI hi (by decide), nI_clamp (by omega)]
    cases im with
    | none =>
      obtain ⟨q1, q2⟩ := him
      rw [q1, q2]
      exact ⟨_, _, _, rfl, rfl, h⟩
    | some p =>
      obtain ⟨B, sd⟩ := p
      obtain ⟨q1, q2, q3, q4, q5, q6, q7⟩ := him
      obtain ⟨c1, e0, e1, e2⟩ := cpW hI w24 (wImg hi) (by omega) q3.1 q3.2.2
      obtain ⟨m1, d1, d2, d3, d4⟩ := cpGb i (by omega) FU 0 m (by omega) (by unfold FU; omega)
      have hsz := IW.sz hI q3.2.2
      rw [q1, q2, if_pos rfl, if_neg one_ne, if_neg one_ne, e0, Option.bind_some, cellC (n := 2) c1 rfl hi (by decide), e1 16 (by omega), q5, show f_X7_goBack_L27 (nI i) FU 0 m = f_X7_goBack_L27 (nI i) FU (nI 0) m from rfl, d1, Option.bind_some, z67, z66, pk_mul, nI_add, gdI (by omega) (by decide), nI_clamp (by omega)]
      refine ⟨1, _, _, rfl, rfl, n, L, B, [], I0, I1, ?_⟩
      show RelS (up2 (up2 c1 0 9 sd) 13 2 0) (up2 (up2 m1 144 8 (m1 164 (67 * i + 66))) 144 24 0) n L B [] I0 I1
      rw [d2 164 (by decide), q6]
      have f1 : RelS (up2 (up2 c 0 9 sd) 13 2 0) (up2 (up2 m 144 8 sd) 144 24 0) n L A [] I0 I1 := by
        refine ⟨h1.eq rfl rfl rfl rfl, h2, ⟨hI, hC.eq rfl rfl rfl rfl rfl, hR.eq rfl rfl rfl rfl rfl⟩, ⟨h4.eq hI.F (fun k hk => by rw [up2_ro (by omega), up2_ro (by omega)]) (fun k hk => rfl), h4b⟩, ⟨by simp, by rw [up2_eq]; rfl, by rw [up2_eq]; rfl, e, p4, by rw [up2_ne (by omega), up2_ro (by decide)]; exact p5, fun i B hB => by simp at hB⟩, (show RImg c m L I0 I1 from ⟨K, k1, k2, k3, k4⟩).eq hI.F rfl (fun r h1 h2 => by rw [up2_ro (by omega), up2_ro (by omega)]) rfl rfl rfl, ⟨rfl, q7⟩, h8.eq rfl rfl rfl rfl rfl rfl, h9.eq rfl rfl rfl rfl rfl rfl⟩
      refine f1.now (fun r w1 w2 => ?_) (fun r w1 w2 => ?_) ⟨?_, ?_, q3.2.2⟩ q4
      · have hr1 : c1 r = c r := e1 r (by omega)
        funext k
        by_cases a13 : r = 13 ∧ k = 2
        · obtain ⟨rfl, rfl⟩ := a13; rw [up2_eq, up2_eq]
        · have a13' : r ≠ 13 ∨ k ≠ 2 := by omega
          rw [up2_ne a13', up2_ne a13']
          by_cases a0 : r = 0 ∧ k = 9
          · obtain ⟨rfl, rfl⟩ := a0; rw [up2_eq, up2_eq]
          · have a0' : r ≠ 0 ∨ k ≠ 9 := by omega
            rw [up2_ne a0', up2_ne a0', hr1]
      · have hr1 : m1 r = m r := d2 r w1
        funext k
        by_cases a13 : r = 144 ∧ k = 24
        · obtain ⟨rfl, rfl⟩ := a13; rw [up2_eq, up2_eq]
        · have a13' : r ≠ 144 ∨ k ≠ 24 := by omega
          rw [up2_ne a13', up2_ne a13']
          by_cases a0 : r = 144 ∧ k = 8
          · obtain ⟨rfl, rfl⟩ := a0; rw [up2_eq, up2_eq]
          · have a0' : r ≠ 144 ∨ k ≠ 8 := by omega
            rw [up2_ne a0', up2_ne a0', hr1]
      · exact e2.eq (fun k hk => by rw [up2_ro (by omega), up2_ro (by omega)])
      · refine rwM q3.2.1 hsz (fun k hk => ?_)
        rw [up2_ro (by decide), up2_ro (by decide), Nat.zero_add, d4 k (by omega) hk]
  · rw [g1 c, g2, if_pos rfl]
    exact ⟨_, _, _, rfl, rfl, h⟩
