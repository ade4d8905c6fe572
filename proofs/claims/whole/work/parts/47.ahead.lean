/-! what will be: hours ahead, on a copy of the world -/
theorem w30 : isW 30 := ⟨1, by decide, rfl⟩
theorem L53 {l1 l2 l3 z : Int32} : ∀ (n : Nat) (k : Int32) (m : MM), f_X7_willHear_L53 l1 l2 l3 n k m = f_X7_hour_L18 l2 z n k m := by
  intro n
  induction n with
  | zero => intro k m; rfl
  | succ n ih =>
    intro k m
    simp only [f_X7_willHear_L53, f_X7_hour_L18, ih]
theorem L78 {l1 l2 l3 z : Int32} : ∀ (n : Nat) (k : Int32) (m : MM), f_X7_where_L78 l1 l2 l3 n k m = f_X7_hour_L18 l2 z n k m := by
  intro n
  induction n with
  | zero => intro k m; rfl
  | succ n ih =>
    intro k m
    simp only [f_X7_where_L78, f_X7_hour_L18, ih]
theorem aheadX {c m : MM} {n : Nat} {L : LG} {A : WS} {P : List WS} {I0 I1 : IM} (h : RelS c m n L A P I0 I1) : ∃ c1 m1, f_X5_copyFrom 30 24 c = some c1 ∧ f_X7_keepBefore m = some m1 ∧ BW c1 m1 30 149 0 L A ∧ (∀ r, (r < 30 ∨ 35 < r) → c1 r = c r) ∧ (∀ r, r ≠ 158 → m1 r = m r) ∧ ∀ k, k < 66 → m1 158 k = m 149 k := by
  obtain ⟨hI, hC, hR⟩ := h.2.2.1
  obtain ⟨⟨hcw, hrw, hiw⟩, hh⟩ := h.2.2.2.1
  obtain ⟨c1, q1, q2, q3⟩ := cpW hI w30 w24 (by decide) hcw hiw
  obtain ⟨m1, p1, p2, p3, p4⟩ := cpKb FU 0 m (by decide) (by decide)
  have p1 : f_X7_keepBefore_L2 FU 0 m = some (nI 66, m1) := p1
  refine ⟨c1, m1, q1, ?_, ⟨q3, ?_, hiw⟩, fun r hr => q2 r (by omega), p2, fun k hk => p4 k (by omega) hk⟩
  · unfold f_X7_keepBefore; rw [p1]; rfl
  · exact hrw.eq (fun k hk => by rw [p2 149 (by decide)]) ⟨hI.1, hiw.2.2.2.2.1.1, hiw.2.2.2.2.2.1.1⟩
theorem backX {c m c2 m2 : MM} {n : Nat} {L : LG} {A : WS} {P : List WS} {I0 I1 : IM} (h : RelS c m n L A P I0 I1) (hc : ∀ r, (r < 30 ∨ 35 < r) → c2 r = c r) (hm : ∀ r, r ≠ 149 → r ≠ 155 → r ≠ 156 → r ≠ 158 → m2 r = m r) (h58 : ∀ k, k < 66 → m2 158 k = m 149 k) : ∃ m3, f_X7_putBack m2 = some m3 ∧ RelS c2 m3 n L A P I0 I1 := by
  obtain ⟨hI, hC, hR⟩ := h.2.2.1
  obtain ⟨m3, p1, p2, p3, p4⟩ := cpPb FU 0 m2 (by decide) (by decide)
  have p1 : f_X7_putBack_L2 FU 0 m2 = some (nI 66, m3) := p1
  have hc' : ∀ r, (r < 24 ∨ 29 < r) → ¬ scC r → c2 r = c r := by
    intro r w1 w2
    have w2 : ¬ ((8 ≤ r ∧ r ≤ 12) ∨ r = 20 ∨ (30 ≤ r ∧ r ≤ 35)) := w2
    exact hc r (by omega)
  refine ⟨m3, ?_, h.now hc' (fun r w1 w2 => ?_) (h.2.2.2.1.1.eq hI.1 (fun k hk => hc _ (by omega)) (fun k hk => ?_)) h.2.2.2.1.2⟩
  · unfold f_X7_putBack; rw [p1]; rfl
  · have w2 : ¬ ((151 ≤ r ∧ r ≤ 156) ∨ r = 158 ∨ r = 161) := w2
    rw [p2 r w1, hm r w1 (by omega) (by omega) (by omega)]
  · rw [p4 _ (by omega) (by omega), h58 _ (by omega)]
theorem in_100 {x : Int32} {m : MM} : (∃ a, a ≤ 100 ∧ x = nI a ∧ f_X7_in (Int32.toInt64 x) 0 100 m = 1) ∨ ((x < 0 ∨ 100 < x) ∧ f_X7_in (Int32.toInt64 x) 0 100 m = 0) := in_k x m (k := 100) (by decide) (K := 100) (by decide)
theorem in_1 {x : Int32} {m : MM} : (∃ a, a ≤ 1 ∧ x = nI a ∧ f_X7_in (Int32.toInt64 x) 0 1 m = 1) ∨ ((x < 0 ∨ 1 < x) ∧ f_X7_in (Int32.toInt64 x) 0 1 m = 0) := in_k x m (k := 1) (by decide) (K := 1) (by decide)
theorem lt_nle {x y : Int32} (h : y < x) : ¬ x ≤ y := by
  simp only [Int32.lt_iff_toInt_lt, Int32.le_iff_toInt_le] at *; omega
theorem ok_willHear {c m : MM} (h : Rel c m) (x y z : Int32) : Ok c m (f_X6_willHear x y z c) (f_X7_willHear x y z m) := by
  obtain ⟨n, L, A, P, I0, I1, hr⟩ := id h
  obtain ⟨hI, hC, hR⟩ := hr.2.2.1
  have hF9 := hI.1
  have hFU : (100 : Nat) < FU := by decide
  unfold f_X6_willHear f_X7_willHear
  rcases farm_cs hI hC hR x with ⟨a, ha, rfl, e1, e2⟩ | ⟨e1, e2⟩
  · rw [e1, e2, bdE, bdE, if_neg one_ne, if_neg one_ne]
    rcases in_100 (x := y) (m := m) with ⟨N, hN, rfl, e3⟩ | ⟨g, e3⟩
    · rw [e3, bdE, if_neg one_ne, if_neg (nI_pos (by omega)), if_neg (show ¬ (100 : Int32) < nI N from nI_nlt (a := 100) hN (by omega))]
      rcases in_1 (x := z) (m := m) with ⟨k, hk, rfl, e4⟩ | ⟨g, e4⟩
      · rw [e4, bdE, if_neg one_ne, if_neg (nI_pos (by omega)), if_pos (show nI k ≤ 1 from nI_le (b := 1) hk (by omega))]
        obtain ⟨c1, m1, q1, q2, q3, q4, q5, q6⟩ := aheadX hr
        rw [q1, q2, Option.bind_some, Option.bind_some, putC (n := 9) _ _ (isW_n5 w30) (show a < 9 by omega) (by decide), bdE, show (23 : Int32) + nI a = nI (23 + a) by rw [z23, nI_add], gdI (by omega) (by decide), nI_clamp (by omega), bdE]
        have hC1 : LC c1 L := hC.fr w30 (fun r hr => q4 r (by omega))
        have hR1 : LR m1 L := hR.eq (by rw [q5 144 (by decide)]) (by rw [q5 144 (by decide)]) (q5 145 (by decide)) (q5 146 (by decide)) (q5 148 (by decide))
        have hB : BW (up2 c1 35 a 0) (up2 m1 149 (23 + a) 0) 30 149 0 L (A.1, tls A, lgs A, srt A, lat A, fun b => if b = a then 0 else hrd A b) := by
          obtain ⟨⟨c1', c2, c3, c4⟩, ⟨r1, r2, r3, r4⟩, w1, w2, w3, w4, w5, w6, w7, w8, w9, w10⟩ := q3
          obtain ⟨c11, c12, c13, c14, c15, c16, c17⟩ := c1'
          obtain ⟨r11, r12, r13, r14, r15, r16, r17⟩ := r1
          refine ⟨⟨⟨c11, c12, c13, c14, c15, c16, c17⟩, c2, c3, c4.1, c4.2.1, ?_⟩, ⟨⟨?_, ?_, ?_, ?_, ?_, ?_, ?_⟩, ?_, ?_, ?_, ?_, ?_⟩, w1, w2, w3, w4, w5, w6, w7, w8, w9, ?_⟩
          · intro b hb
            show up2 c1 35 a 0 35 b = nI (if b = a then 0 else hrd A b)
            by_cases hba : b = a
            · rw [hba, up2_eq, if_pos rfl]; rfl
            · rw [up2_ne (by omega), if_neg hba]; exact c4.2.2 b hb
          · rw [up2_ne (by omega)]; exact r11
          · rw [up2_ne (by omega)]; exact r12
          · rw [up2_ne (by omega)]; exact r13
          · rw [up2_ne (by omega)]; exact r14
          · rw [up2_ne (by omega)]; exact r15
          · rw [up2_ne (by omega)]; exact r16
          · rw [up2_ne (by omega)]; exact r17
          · intro i t hi
            rw [up2_ne (by omega)]; exact r2 i t hi
          · intro i t hi
            rw [up2_ne (by omega)]; exact r3 i t hi
          · intro b hb
            rw [up2_ne (by omega)]; exact r4.1 b hb
          · intro b hb
            rw [up2_ne (by omega)]; exact r4.2.1 b hb
          · intro b hb
            show up2 m1 149 (23 + a) 0 149 (0 + 23 + b) = nI (if b = a then 0 else hrd A b)
            by_cases hba : b = a
            · rw [hba, show 0 + 23 + a = 23 + a by omega, up2_eq, if_pos rfl]; rfl
            · rw [up2_ne (by omega), if_neg hba]; exact r4.2.2 b hb
          · intro b hb
            show (if b = a then 0 else hrd A b) ≤ 999999
            split
            · omega
            · exact w10 b hb
        have hh := hr.2.2.2.1.2
        obtain ⟨c2, m2, B, p1, p2, p3, p4, p5, p6⟩ := hoursX (z := 0) w30 hI (N := N) (by omega) N 0 FU FU _ _ _ (by omega) (by omega) (by omega) (hC1.fr w30 (fun r hr => up2_ro (by omega))) (hR1.fr (fun r hr _ _ => up2_ro hr)) hB (show hrs A + N ≤ 9300 by omega)
        have p1' : f_X5_passHours_L2 30 3 (nI N) FU 0 (up2 c1 (30 + 5) a 0) = some (nI N, c2) := p1
        have p2' : f_X7_hour_L18 (nI N) 0 FU 0 (up2 m1 149 (23 + a) 0) = some (nI N, m2) := p2
        unfold f_X5_passHours
        rw [L53 (z := 0), show up2 c1 35 a 0 = up2 c1 (30 + 5) a 0 from rfl, p1', p2', Option.bind_some, Option.bind_some, Option.bind_some]
        dsimp only
        obtain ⟨m3, b1, b2⟩ := backX (c2 := c2) (m2 := m2) hr (fun r hr => by rw [p5 r (by omega), up2_ro (by omega), q4 r (by omega)]) (fun r r1 r2 r3 r4 => by rw [p6 r r1 r2 r3, up2_ro r1, q5 r r4]) (fun k hk => by rw [p6 158 (by decide) (by decide) (by decide), up2_ro (by decide), q6 k hk])
        have v1 : c2 (30 + 5) a = nI (hrd B a) := p3.1.2.2.2.2.2 a (by omega)
        have v2 : c2 (30 + 4) a = nI (lat B a) - 1 := p3.1.2.2.2.2.1 a (by omega)
        have v3 : m2 149 (0 + 23 + a) = nI (hrd B a) := p3.2.1.2.2.2.2.2 a (by omega)
        have v4 : m2 149 (0 + 14 + a) = nI (lat B a) - 1 := p3.2.1.2.2.2.2.1 a (by omega)
        rw [Nat.zero_add] at v3 v4
        have v1 : f_X6_cell 35 (nI a) c2 = nI (hrd B a) := by rw [cellC (n := 9) _ (isW_n5 w30) (show a < 9 by omega) (by decide)]; exact v1
        have v2 : f_X6_cell 34 (nI a) c2 = nI (lat B a) - 1 := by rw [cellC (n := 9) _ (isW_n4 w30) (show a < 9 by omega) (by decide)]; exact v2
        rw [v1, v2, bdE, bdE, gdI2 (by omega) (by decide), v3, show (14 : Int32) + nI a = nI (14 + a) by rw [z14, nI_add], gdI (by omega) (by decide), nI_clamp (by omega), v4, b1]
        by_cases k0 : k = 0
        · subst k0
          rw [if_pos (show nI 0 = 0 from rfl), if_pos (show nI 0 = 0 from rfl)]
          exact ⟨_, _, _, rfl, rfl, n, L, A, P, I0, I1, b2⟩
        · rw [if_neg (show ¬ nI k = 0 from nI_neI (b := 0) (by omega) (by decide) k0), if_neg (show ¬ nI k = 0 from nI_neI (b := 0) (by omega) (by decide) k0)]
          exact ⟨_, _, _, rfl, rfl, n, L, A, P, I0, I1, b2⟩
      · rw [e4, bdE, if_pos rfl]
        refine ⟨-1000000002, c, m, ?_, rfl, h⟩
        rcases g with g | g
        · rw [if_pos g]
        · by_cases hz : z < 0
          · rw [if_pos hz]
          · rw [if_neg hz, if_neg (lt_nle g)]
    · rw [e3, bdE, if_pos rfl]
      refine ⟨-1000000002, c, m, ?_, rfl, h⟩
      rcases g with g | g
      · rw [if_pos g]
      · by_cases hz : y < 0
        · rw [if_pos hz]
        · rw [if_neg hz, if_pos g]
  · rw [e1, e2, bdE, bdE, if_pos rfl, if_pos rfl]
    exact ⟨_, _, _, rfl, rfl, h⟩
theorem ok_where {c m : MM} (h : Rel c m) (x y z : Int32) : Ok c m (f_X6_where x y z c) (f_X7_where x y z m) := by
  obtain ⟨n, L, A, P, I0, I1, hr⟩ := id h
  obtain ⟨hI, hC, hR⟩ := hr.2.2.1
  have hF9 := hI.1
  have hFU : (100 : Nat) < FU := by decide
  have hT := hr.2.2.2.1.1.2.2.2.2.2.2.1.1
  have e5 : c 24 5 = nI (tls A).length := hr.2.2.2.1.1.1.1.2.2.2.2.2.1
  have e6 : m 149 32 = nI (tls A).length := hr.2.2.2.1.1.2.1.1.2.2.2.2.2.1
  unfold f_X6_where f_X7_where
  rcases talk_cs hT e5 e6 x with ⟨a, ha, rfl, e1, e2⟩ | ⟨e1, e2⟩
  · rw [e1, e2, bdE, bdE, if_neg one_ne, if_neg one_ne]
    rcases in_100 (x := y) (m := m) with ⟨N, hN, rfl, e3⟩ | ⟨g, e3⟩
    · rw [e3, bdE, if_neg one_ne, if_neg (nI_pos (by omega)), if_neg (show ¬ (100 : Int32) < nI N from nI_nlt (a := 100) hN (by omega))]
      rcases in_1 (x := z) (m := m) with ⟨k, hk, rfl, e4⟩ | ⟨g, e4⟩
      · rw [e4, bdE, if_neg one_ne, if_neg (nI_pos (by omega)), if_pos (show nI k ≤ 1 from nI_le (b := 1) hk (by omega))]
        obtain ⟨c1, m1, q1, q2, q3, q4, q5, q6⟩ := aheadX hr
        obtain ⟨t, ht⟩ : ∃ t, (tls A)[a]? = some t := ⟨_, List.getElem?_eq_getElem ha⟩
        obtain ⟨cc, o1, o2, o3, o4⟩ := mvC (c := c1) (j := 0) (isW_n1 w30) (show a < 12 by omega) (by decide) (q3.1.2.1 a t ht)
        have o1 : f_X5_moveTalk 30 (nI a) 0 c1 = cc := o1
        have ht2 : m1 149 (33 + a) = nI (pkT t) := by
          have := q3.2.1.2.1 a t ht
          rwa [Nat.zero_add] at this
        have hC1 : LC c1 L := hC.fr w30 (fun r hr => q4 r (by omega))
        have hR1 : LR m1 L := hR.eq (by rw [q5 144 (by decide)]) (by rw [q5 144 (by decide)]) (q5 145 (by decide)) (q5 146 (by decide)) (q5 148 (by decide))
        unfold f_X5_leaveOnly
        rw [q1, q2, Option.bind_some, Option.bind_some, o1, bdE, bdE, show (33 : Int32) + nI a = nI (33 + a) by rw [z33, nI_add], gdI (by omega) (by decide), nI_clamp (by omega), ht2]
        have hB : BW (up2 cc 30 5 1) (up2 (up2 m1 149 33 (nI (pkT t))) 149 32 1) 30 149 0 L (A.1, [t], lgs A, srt A, lat A, hrd A) := by
          obtain ⟨⟨c1', c2, c3, c4⟩, ⟨r1, r2, r3, r4⟩, w1, w2, w3, w4, w5, w6, w7, w8, w9, w10⟩ := q3
          obtain ⟨c11, c12, c13, c14, c15, c16, c17⟩ := c1'
          obtain ⟨r11, r12, r13, r14, r15, r16, r17⟩ := r1
          refine ⟨⟨⟨?_, ?_, ?_, ?_, ?_, ?_, ?_⟩, ?_, ?_, ?_, ?_, ?_⟩, ⟨⟨?_, ?_, ?_, ?_, ?_, ?_, ?_⟩, ?_, ?_, ?_, ?_, ?_⟩, w1, w2, w3, w4, ?_, w6, w7, w8, w9, w10⟩
          · rw [up2_ne (by omega), o2 30 (by decide)]; exact c11
          · rw [up2_ne (by omega), o2 30 (by decide)]; exact c12
          · rw [up2_ne (by omega), o2 30 (by decide)]; exact c13
          · rw [up2_ne (by omega), o2 30 (by decide)]; exact c14
          · rw [up2_ne (by omega), o2 30 (by decide)]; exact c15
          · rw [up2_eq]; rfl
          · rw [up2_ne (by omega), o2 30 (by decide)]; exact c17
          · intro i u hi
            have hi : [t][i]? = some u := hi
            have hl := (List.getElem?_eq_some_iff.mp hi).1
            simp at hl
            subst hl
            cases hi
            unfold t4C
            rw [up2_ro (by decide)]; exact o4
          · obtain ⟨E, hE, y1, y2⟩ := c3
            refine ⟨E, hE, by rw [up2_ne (by omega), o2 30 (by decide)]; exact y1, fun i t hi => ?_⟩
            unfold t4C
            rw [up2_ro (by decide), o2 _ (by decide)]; exact y2 i t hi
          · intro b hb
            rw [up2_ro (by decide), o2 _ (by decide)]; exact c4.1 b hb
          · intro b hb
            rw [up2_ro (by decide), o2 _ (by decide)]; exact c4.2.1 b hb
          · intro b hb
            rw [up2_ro (by decide), o2 _ (by decide)]; exact c4.2.2 b hb
          · rw [up2_ne (by omega), up2_ne (by omega)]; exact r11
          · rw [up2_ne (by omega), up2_ne (by omega)]; exact r12
          · rw [up2_ne (by omega), up2_ne (by omega)]; exact r13
          · rw [up2_ne (by omega), up2_ne (by omega)]; exact r14
          · rw [up2_ne (by omega), up2_ne (by omega)]; exact r15
          · exact up2_eq _ _ _ _
          · rw [up2_ne (by omega), up2_ne (by omega)]; exact r17
          · intro i u hi
            have hi : [t][i]? = some u := hi
            have hl := (List.getElem?_eq_some_iff.mp hi).1
            simp at hl
            subst hl
            cases hi
            rw [up2_ne (by omega)]; exact up2_eq _ _ _ _
          · intro i t hi
            rw [up2_ne (by omega), up2_ne (by omega)]; exact r3 i t hi
          · intro b hb
            rw [up2_ne (by omega), up2_ne (by omega)]; exact r4.1 b hb
          · intro b hb
            rw [up2_ne (by omega), up2_ne (by omega)]; exact r4.2.1 b hb
          · intro b hb
            rw [up2_ne (by omega), up2_ne (by omega)]; exact r4.2.2 b hb
          · refine ⟨by show 1 ≤ 12; omega, fun u hu => ?_⟩
            have hu : u ∈ [t] := hu
            rw [List.mem_singleton.mp hu]
            exact w5.2 t (List.mem_of_getElem? ht)
        have hh := hr.2.2.2.1.2
        obtain ⟨c2, m2, B, p1, p2, p3, p4, p5, p6⟩ := hoursX (z := 0) w30 hI (N := N) (by omega) N 0 FU FU _ _ _ (by omega) (by omega) (by omega) ((hC1.fr (c' := cc) w30 (fun r hr => o2 r (by omega))).fr w30 (fun r hr => up2_ro (by omega))) (hR1.fr (fun r hr _ _ => by rw [up2_ro hr, up2_ro hr])) hB (show hrs A + N ≤ 9300 by omega)
        have p1' : f_X5_passHours_L2 30 3 (nI N) FU 0 (up2 cc 30 5 1) = some (nI N, c2) := p1
        have p2' : f_X7_hour_L18 (nI N) 0 FU 0 (up2 (up2 m1 149 33 (nI (pkT t))) 149 32 1) = some (nI N, m2) := p2
        unfold f_X5_passHours
        rw [bdE, bdE, bdE, L78 (z := 0), p1', p2', Option.bind_some, Option.bind_some, Option.bind_some]
        dsimp only
        obtain ⟨m3, b1, b2⟩ := backX (c2 := c2) (m2 := m2) hr (fun r hr => by rw [p5 r (by omega), up2_ro (by omega), o2 r (by omega), q4 r (by omega)]) (fun r r1 r2 r3 r4 => by rw [p6 r r1 r2 r3, up2_ro r1, up2_ro r1, q5 r r4]) (fun k hk => by rw [p6 158 (by decide) (by decide) (by decide), up2_ro (by decide), up2_ro (by decide), q6 k hk])
        have v5 : c2 30 5 = nI (tls B).length := p3.1.1.2.2.2.2.2.1
        have v6 : m2 149 32 = nI (tls B).length := p3.2.1.1.2.2.2.2.2.1
        have hTB := p3.2.2.2.2.2.2.1.1
        have htkB := p3.2.2.2.2.2.2.1.2
        by_cases hl : (tls B).length = 0
        · rw [if_pos (show c2 30 5 = 0 by rw [v5, hl]; rfl), if_pos (show m2 149 32 = 0 by rw [v6, hl]; rfl), Option.bind_some, b1]
          exact ⟨_, _, _, rfl, rfl, n, L, A, P, I0, I1, b2⟩
        · rw [if_neg (show ¬ c2 30 5 = 0 by rw [v5]; exact nI_neI (b := 0) (by omega) (by decide) hl), if_neg (show ¬ m2 149 32 = 0 by rw [v6]; exact nI_neI (b := 0) (by omega) (by decide) hl)]
          obtain ⟨u, hu⟩ : ∃ u, (tls B)[0]? = some u := ⟨_, List.getElem?_eq_getElem (by omega)⟩
          have hut := htkB u (List.mem_of_getElem? hu)
          obtain ⟨f1, f2, f3, f4⟩ := ofT (i := 0) (isW_n1 w30) (by decide) (p3.1.2.1 0 u hu)
          have hu2 : m2 149 (33 + 0) = nI (pkT u) := by
            have := p3.2.1.2.1 0 u hu
            rwa [Nat.zero_add] at this
          obtain ⟨g1, g2, g3, g4⟩ := talkR hu2 (by decide) (tk_small hI hut)
          have f1 : f_X5_ofTalk 30 0 0 c2 = nI u.1 := f1
          have f2 : f_X5_ofTalk 30 0 1 c2 = nI u.2.1 := f2
          have g1 : f_X7_wordOf 0 m2 = some (nI u.1) := g1
          have g2 : f_X7_goesFrom 0 m2 = some (nI u.2.1) := g2
          rw [f1, f2, g1, g2]
          by_cases k0 : k = 0
          · subst k0
            rw [if_pos (show nI 0 = 0 from rfl), if_pos (show nI 0 = 0 from rfl), Option.bind_some, Option.bind_some, b1]
            exact ⟨_, _, _, rfl, rfl, n, L, A, P, I0, I1, b2⟩
          · rw [if_neg (show ¬ nI k = 0 from nI_neI (b := 0) (by omega) (by decide) k0), if_neg (show ¬ nI k = 0 from nI_neI (b := 0) (by omega) (by decide) k0), Option.bind_some, Option.bind_some, b1]
            exact ⟨_, _, _, rfl, rfl, n, L, A, P, I0, I1, b2⟩
      · rw [e4, bdE, if_pos rfl]
        refine ⟨-1000000002, c, m, ?_, rfl, h⟩
        rcases g with g | g
        · rw [if_pos g]
        · by_cases hz : z < 0
          · rw [if_pos hz]
          · rw [if_neg hz, if_neg (lt_nle g)]
    · rw [e3, bdE, if_pos rfl]
      refine ⟨-1000000002, c, m, ?_, rfl, h⟩
      rcases g with g | g
      · rw [if_pos g]
      · by_cases hz : y < 0
        · rw [if_pos hz]
        · rw [if_neg hz, if_pos g]
  · rw [e1, e2, bdE, bdE, if_pos rfl, if_pos rfl]
    exact ⟨_, _, _, rfl, rfl, h⟩
