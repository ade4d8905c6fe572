/-! remembered, undone, kept; what is done to the world that is now -/
theorem RelS.now {c c' m m' : MM} {n : Nat} {L : LG} {A A' : WS} {P : List WS} {I0 I1 : IM} (h : RelS c m n L A P I0 I1) (hc : ∀ r, (r < 24 ∨ 29 < r) → ¬ scC r → c' r = c r) (hm : ∀ r, r ≠ 149 → ¬ scR r → m' r = m r) (hB : BW c' m' 24 149 0 L A') (hh : hrs A' ≤ 9060) : RelS c' m' n L A' P I0 I1 := by
  have hc : ∀ r, (r < 24 ∨ 29 < r) → ¬ ((8 ≤ r ∧ r ≤ 12) ∨ r = 20 ∨ (30 ≤ r ∧ r ≤ 35)) → c' r = c r := hc
  have hm : ∀ r, r ≠ 149 → ¬ ((151 ≤ r ∧ r ≤ 156) ∨ r = 158 ∨ r = 161) → m' r = m r := hm
  obtain ⟨h1, h2, ⟨hI, hC, hR⟩, ⟨h4, h4b⟩, h5, h6, h7, h8, h9⟩ := h
  have c1 := hc 1 (by omega) (by omega)
  have c0 := hc 0 (by omega) (by omega)
  have c3 := hc 3 (by omega) (by omega)
  have c13 := hc 13 (by omega) (by omega)
  have c17 := hc 17 (by omega) (by omega)
  have c21 := hc 21 (by omega) (by omega)
  have m1 := hm 144 (by omega) (by omega)
  exact ⟨h1.eq (by rw [c1]) (hc 2 (by omega) (by omega)) (by rw [m1]) (hm 150 (by omega) (by omega)), by rw [c1, m1]; exact h2, ⟨hI, hC.eq (by rw [c3]) (by rw [c3]) (hc 4 (by omega) (by omega)) (hc 5 (by omega) (by omega)) (hc 7 (by omega) (by omega)), hR.eq (by rw [m1]) (by rw [m1]) (hm 145 (by omega) (by omega)) (hm 146 (by omega) (by omega)) (hm 148 (by omega) (by omega))⟩, ⟨hB, hh⟩, h5.eq hI.F (by rw [c13]) (by rw [c13]) (fun r q1 q2 => hc r (by omega) (by omega)) (by rw [m1]) (hm 157 (by omega) (by omega)), h6.eq hI.F (by rw [c0]) (fun r q1 q2 => hc r (by omega) (by omega)) (hc 16 (by omega) (by omega)) (hm 164 (by omega) (by omega)) (hm 165 (by omega) (by omega)), h7.eq (by rw [c0]) (by rw [m1]), h8.eq (by rw [c17]) (hc 18 (by omega) (by omega)) (hc 19 (by omega) (by omega)) (by rw [m1]) (hm 159 (by omega) (by omega)) (hm 160 (by omega) (by omega)), h9.eq (by rw [c21]) (hc 22 (by omega) (by omega)) (hc 23 (by omega) (by omega)) (by rw [m1]) (hm 162 (by omega) (by omega)) (hm 163 (by omega) (by omega))⟩
theorem worldC {e : Nat} (he : e < 16) (μ : MM) : f_X3_world (nI e) μ = some (48 + 6 * e) := by
  unfold f_X3_world
  rw [if_neg (nI_pos (by omega)), if_neg (show ¬ Int32.ofNat 16 ≤ nI e from nI_ge (b := 16) he (by decide)), nI_clamp (by omega)]
theorem w24 : isW 24 := ⟨0, by decide, rfl⟩
theorem wPast {e : Nat} (he : e < 16) : isW (48 + 6 * e) := ⟨4 + e, by omega, by omega⟩
theorem wImg {e : Nat} (he : e < 2) : isW (36 + 6 * e) := ⟨2 + e, by omega, by omega⟩
/-- the parts of the relation that a change of the past leaves -/
theorem RelS.past {c c' m m' : MM} {n : Nat} {L : LG} {A : WS} {P P' : List WS} {I0 I1 : IM} (h : RelS c m n L A P I0 I1) (hc : ∀ r, r ≠ 13 → r < 48 → c' r = c r) (hm : ∀ r, r ≠ 157 → r ≠ 144 → m' r = m r) (hm2 : ∀ k, k ≠ 24 → m' 144 k = m 144 k) (hP : RPast c' m' L P') : RelS c' m' n L A P' I0 I1 := by
  obtain ⟨h1, h2, ⟨hI, hC, hR⟩, ⟨h4, h4b⟩, h5, h6, h7, h8, h9⟩ := h
  have c1 := hc 1 (by omega) (by omega)
  have c0 := hc 0 (by omega) (by omega)
  have c3 := hc 3 (by omega) (by omega)
  have c17 := hc 17 (by omega) (by omega)
  have c21 := hc 21 (by omega) (by omega)
  exact ⟨h1.eq (by rw [c1]) (hc 2 (by omega) (by omega)) (hm2 10 (by omega)) (hm 150 (by omega) (by omega)), by rw [c1, hm2 11 (by omega)]; exact h2, ⟨hI, hC.eq (by rw [c3]) (by rw [c3]) (hc 4 (by omega) (by omega)) (hc 5 (by omega) (by omega)) (hc 7 (by omega) (by omega)), hR.eq (hm2 0 (by omega)) (hm2 1 (by omega)) (hm 145 (by omega) (by omega)) (hm 146 (by omega) (by omega)) (hm 148 (by omega) (by omega))⟩, ⟨h4.eq hI.F (fun k hk => hc _ (by omega) (by omega)) (fun k hk => by rw [hm 149 (by omega) (by omega)]), h4b⟩, hP, h6.eq hI.F (by rw [c0]) (fun r q1 q2 => hc r (by omega) (by omega)) (hc 16 (by omega) (by omega)) (hm 164 (by omega) (by omega)) (hm 165 (by omega) (by omega)), h7.eq (by rw [c0]) (hm2 8 (by omega)), h8.eq (by rw [c17]) (hc 18 (by omega) (by omega)) (hc 19 (by omega) (by omega)) (hm2 27 (by omega)) (hm 159 (by omega) (by omega)) (hm 160 (by omega) (by omega)), h9.eq (by rw [c21]) (hc 22 (by omega) (by omega)) (hc 23 (by omega) (by omega)) (hm2 31 (by omega)) (hm 162 (by omega) (by omega)) (hm 163 (by omega) (by omega))⟩
theorem remC {c m : MM} {n : Nat} {L : LG} {A : WS} {P : List WS} {I0 I1 : IM} (h : RelS c m n L A P I0 I1) {e : Nat} (he : e < 16) (h5 : c 13 1 = nI e) (h3 : c 13 2 = nI P.length) (hl : P.length ≤ 16) : ∃ c', f_X3_remember 24 c = some c' ∧ (∀ r, r ≠ 13 → (r < 48 + 6 * e ∨ 48 + 6 * e + 5 < r) → c' r = c r) ∧ CW c' (48 + 6 * e) (nF L) A ∧ c' 13 1 = nI ((e + 1) % 16) ∧ c' 13 2 = nI (if P.length < 16 then P.length + 1 else 16) := by
  obtain ⟨_, _, ⟨hI, hC, hR⟩, ⟨h4, h4b⟩, _⟩ := h
  obtain ⟨c1, e0, e1, e2⟩ := cpW hI (wPast he) w24 (by omega) h4.1 h4.2.2
  have r13 : c1 13 = c 13 := e1 13 (by omega)
  unfold f_X3_remember
  rw [h5, worldC he]
  simp only [nr, bd, f_J9_min_7cf53]
  rw [e0, Option.bind_some]
  refine ⟨_, rfl, fun r h1 h2 => ?_, ?_, ?_, ?_⟩
  · rw [up2_ro h1, up2_ro h1]; exact e1 r h2
  · exact e2.eq (fun k hk => by rw [up2_ro (by omega), up2_ro (by omega)])
  · rw [up2_ne (by omega), up2_eq, r13, h5, nI_1, z16, rm_nI (by omega) (by decide) (by decide)]
  · rw [up2_eq, up2_ne (by omega), r13, h3, nI_1]
    by_cases hlt : P.length < 16
    · rw [if_pos hlt]
      by_cases h15 : P.length + 1 < 16
      · rw [if_pos (show nI (P.length + 1) < 16 from nI_lt (b := 16) h15 (by decide))]
      · rw [if_neg (show ¬ nI (P.length + 1) < 16 from nI_nlt (b := 16) (by omega) (by omega)), show P.length + 1 = 16 by omega]; rfl
    · rw [if_neg hlt, if_neg (show ¬ nI (P.length + 1) < 16 from nI_nlt (b := 16) (by omega) (by omega))]; rfl
theorem remX {c m : MM} {n : Nat} {L : LG} {A : WS} {P : List WS} {I0 I1 : IM} (h : RelS c m n L A P I0 I1) : ∃ c' m' P', f_X3_remember 24 c = some c' ∧ f_X7_remember m = some m' ∧ RelS c' m' n L A P' I0 I1 := by
  obtain ⟨_, _, ⟨hI, hC, hR⟩, ⟨h4, h4b⟩, ⟨p1, p2, p3, e, p4, p5, p6⟩, _⟩ := id h
  obtain ⟨c', a1, a2, a3, a4, a5⟩ := remC h p4 p5 p3 p1
  have hsz := IW.sz hI h4.2.2
  by_cases hlt : P.length < 16
  · obtain ⟨m1, d1, d2, d3, d4⟩ := cp52 P.length (by omega) FU 0 m p2 (by omega) (by unfold FU; omega)
    refine ⟨c', up2 m1 144 24 (nI (P.length + 1)), P ++ [A], a1, ?_, ?_⟩
    · unfold f_X7_remember
      rw [p2, if_neg (show ¬ nI P.length = 16 from nI_neI (b := 16) (by omega) (by decide) (by omega)), Option.bind_some, show f_X7_remember_L52 FU 0 m = f_X7_remember_L52 FU (nI 0) m from rfl, d1, Option.bind_some]
      simp only [bd]
      rw [d2 144 (by decide), p2, nI_1]
    · refine h.past (fun r q1 q2 => a2 r q1 (by omega)) (fun r q1 q2 => by rw [up2_ro q2, d2 r q1]) (fun k hk => by rw [up2_ne (Or.inr hk), d2 144 (by decide)]) ?_
      refine ⟨by simp; omega, by rw [up2_eq]; simp, by rw [a5, if_pos hlt]; simp, (e + 1) % 16, by omega, a4, fun i B hB => ?_⟩
      have hlen : (P ++ [A]).length = P.length + 1 := by simp
      rw [hlen]
      by_cases hi : i < P.length
      · rw [List.getElem?_append_left hi] at hB
        obtain ⟨b1, b2⟩ := p6 i B hB
        refine ⟨?_, b2⟩
        rw [show ((e + 1) % 16 + 16 - (P.length + 1) + i) % 16 = (e + 16 - P.length + i) % 16 by omega]
        refine ⟨b1.1.eq (fun k hk => a2 _ (by omega) (by omega)), rwM b1.2.1 (IW.sz hI b1.2.2) (fun k hk => ?_), b1.2.2⟩
        rw [up2_ro (by decide), d3 _ (by omega)]
      · have hi2 : i = P.length := by
          have := (List.getElem?_eq_some_iff.mp hB).1
          rw [hlen] at this
          omega
        subst hi2
        rw [List.getElem?_append_right (Nat.le_refl _), Nat.sub_self] at hB
        cases hB
        refine ⟨?_, h4b⟩
        rw [show ((e + 1) % 16 + 16 - (P.length + 1) + P.length) % 16 = e by omega]
        exact ⟨a3, rwM h4.2.1 hsz (fun k hk => by rw [up2_ro (by decide), d4 k (by omega) hk, Nat.zero_add]), h4.2.2⟩
  · have h16 : P.length = 16 := by omega
    obtain ⟨m0, f1, f2, f3, f4⟩ := cp12 FU 66 m (by omega) (by omega) (by unfold FU; omega)
    obtain ⟨m1, d1, d2, d3, d4⟩ := cp52 15 (by omega) FU 0 (up2 m0 144 24 (nI 15)) (up2_eq _ _ _ _) (by omega) (by unfold FU; omega)
    refine ⟨c', up2 m1 144 24 (nI 16), P.tail ++ [A], a1, ?_, ?_⟩
    · unfold f_X7_remember
      rw [p2, h16, if_pos (show nI 16 = 16 from rfl), show f_X7_remember_L12 FU 66 m = f_X7_remember_L12 FU (nI 66) m from rfl, f1, Option.bind_some]
      simp only [bd]
      rw [f2 144 (by decide), p2, h16, show nI 16 - 1 = nI 15 from rfl, Option.bind_some, show f_X7_remember_L52 FU 0 (up2 m0 144 24 (nI 15)) = f_X7_remember_L52 FU (nI 0) (up2 m0 144 24 (nI 15)) from rfl, d1, Option.bind_some]
      show some (up2 m1 144 24 (m1 144 24 + 1)) = _
      rw [d2 144 (by decide), up2_eq, show nI 15 + 1 = nI 16 from rfl]
    · refine h.past (fun r q1 q2 => a2 r q1 (by omega)) (fun r q1 q2 => by rw [up2_ro q2, d2 r q1, up2_ro q2, f2 r q1]) (fun k hk => by rw [up2_ne (Or.inr hk), d2 144 (by decide), up2_ne (Or.inr hk), f2 144 (by decide)]) ?_
      have hlen : (P.tail ++ [A]).length = 16 := by simp; omega
      have htl : P.tail.length = 15 := by simp; omega
      refine ⟨by omega, by rw [up2_eq, hlen], by rw [a5, if_neg hlt, hlen], (e + 1) % 16, by omega, a4, fun i B hB => ?_⟩
      rw [hlen]
      by_cases hi : i < 15
      · rw [List.getElem?_append_left (by omega), List.getElem?_tail] at hB
        obtain ⟨b1, b2⟩ := p6 (i + 1) B hB
        refine ⟨?_, b2⟩
        rw [h16] at b1
        rw [show ((e + 1) % 16 + 16 - 16 + i) % 16 = (e + 16 - 16 + (i + 1)) % 16 by omega]
        refine ⟨b1.1.eq (fun k hk => a2 _ (by omega) (by omega)), rwM b1.2.1 (IW.sz hI b1.2.2) (fun k hk => ?_), b1.2.2⟩
        rw [up2_ro (by decide), d3 _ (by omega), up2_ro (by decide), f4 _ (by omega) (by omega), show 66 * (i + 1) + k = 66 * i + k + 66 by omega]
      · have hi2 : i = 15 := by
          have := (List.getElem?_eq_some_iff.mp hB).1
          rw [hlen] at this
          omega
        subst hi2
        rw [List.getElem?_append_right (by omega), htl, Nat.sub_self] at hB
        cases hB
        refine ⟨?_, h4b⟩
        rw [show ((e + 1) % 16 + 16 - 16 + 15) % 16 = e by omega]
        exact ⟨a3, rwM h4.2.1 hsz (fun k hk => by rw [up2_ro (by decide), d4 k (by omega) hk, up2_ro (by decide), f2 149 (by decide), Nat.zero_add]), h4.2.2⟩
