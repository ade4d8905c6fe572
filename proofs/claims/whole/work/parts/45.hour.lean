/-! the hours, by number and by draw; what is said -/
theorem in_160 (x : Int32) (μ : MM) : (∃ a, 1 ≤ a ∧ a ≤ 60 ∧ x = nI a ∧ f_X7_in (Int32.toInt64 x) 1 60 μ = 1) ∨ ((x < 1 ∨ ¬ x ≤ 60) ∧ f_X7_in (Int32.toInt64 x) 1 60 μ = 0) := by
  have h1 : (1 : Int64) = Int32.toInt64 1 := by decide
  have h60 : (60 : Int64) = Int32.toInt64 60 := by decide
  have t1 : Int32.toInt 1 = 1 := by decide
  have t60 : Int32.toInt 60 = 60 := by decide
  have e : f_X7_in (Int32.toInt64 x) 1 60 μ = if x.toInt < 1 then 0 else if 60 < x.toInt then 0 else 1 := by
    unfold f_X7_in
    rw [h1, h60]
    simp only [lgc_lt, lgc_gt, i64_lt]
    simp only [Int32.lt_iff_toInt_lt, t1, t60]
  rcases nI_cases x (n := 61) (by decide) with ⟨a, ha, rfl⟩ | ⟨g, -⟩
  · rw [e, nI_toInt (by omega)]
    by_cases h0 : 1 ≤ a
    · rw [if_neg (by omega), if_neg (by omega)]
      exact Or.inl ⟨a, h0, by omega, rfl, rfl⟩
    · rw [if_pos (by omega)]
      exact Or.inr ⟨Or.inl (show nI a < 1 from nI_lt (b := 1) (by omega) (by omega)), rfl⟩
  · rw [e]
    have t61 : (nI 61).toInt = 61 := by decide
    have t0 : Int32.toInt 0 = 0 := by decide
    simp only [Int32.lt_iff_toInt_lt, Int32.le_iff_toInt_le, t0, t61, t1, t60] at *
    refine Or.inr ⟨by omega, ?_⟩
    rcases g with g | g
    · rw [if_pos (by omega)]
    · rw [if_neg (by omega), if_pos (by omega)]
theorem href {c m : MM} {L : LG} {A : WS} (hI : LI L) (hC : LC c L) (hR : LR m L) (e1 : c 24 0 = nI (hrs A)) (e2 : m 149 12 = nI (hrs A)) (hh : hrs A ≤ 9060) (x : Int32) : (∃ a, 1 ≤ a ∧ a ≤ 60 ∧ x = nI a ∧ hrs A ≤ 9000 ∧ 0 < nF L ∧ f_X6_hoursRefused x c = 0 ∧ f_X7_hoursRefused x m = 0) ∨ ∃ v, v ≠ 0 ∧ f_X6_hoursRefused x c = v ∧ f_X7_hoursRefused x m = v := by
  obtain ⟨nd1, nd2⟩ := noDale hI hC hR
  unfold f_X6_hoursRefused f_X7_hoursRefused
  rcases in_160 x m with ⟨a, h0, h60, rfl, e⟩ | ⟨g, e⟩
  · rw [e, bdE, if_neg (show ¬ nI a < 1 from nI_nlt (b := 1) (by omega) (by omega)), if_pos (show nI a ≤ 60 from nI_le (b := 60) h60 (by omega)), if_neg one_ne]
    by_cases hF : nF L = 0
    · rw [if_pos (nd1.mpr hF), if_pos (nd2.mpr hF)]
      exact Or.inr ⟨_, by decide, rfl, rfl⟩
    · rw [if_neg (fun q => hF (nd1.mp q)), if_neg (fun q => hF (nd2.mp q)), e1, e2]
      by_cases h9 : hrs A ≤ 9000
      · rw [if_pos (show nI (hrs A) ≤ 9000 from nI_le (b := 9000) h9 (by omega))]
        exact Or.inl ⟨a, h0, h60, rfl, h9, by omega, rfl, rfl⟩
      · rw [if_neg (show ¬ nI (hrs A) ≤ 9000 from nI_ge (a := 9000) (by omega) (by omega))]
        exact Or.inr ⟨_, by decide, rfl, rfl⟩
  · rw [e, bdE, if_pos rfl]
    refine Or.inr ⟨-1000000002, by decide, ?_, rfl⟩
    rcases g with g | g
    · rw [if_pos g]
    · by_cases h : x < 1
      · rw [if_pos h]
      · rw [if_neg h, if_neg g]
/-- hours one by one, of the world w and the reference's -/
theorem hoursX {w N : Nat} {L : LG} (hw : isW w) (hI : LI L) (hN : N ≤ 100) {z : Int32} : ∀ (j k n n2 : Nat) (c m : MM) (A : WS), k + j = N → j < n → j < n2 → LC c L → LR m L → BW c m w 149 0 L A → hrs A + j ≤ 9300 → ∃ c' m' B, f_X5_passHours_L2 w 3 (nI N) n (nI k) c = some (nI N, c') ∧ f_X7_hour_L18 (nI N) z n2 (nI k) m = some (nI N, m') ∧ BW c' m' w 149 0 L B ∧ hrs B = hrs A + j ∧ (∀ r, (r < w ∨ w + 5 < r) → c' r = c r) ∧ ∀ r, r ≠ 149 → r ≠ 155 → r ≠ 156 → m' r = m r := by
  intro j
  induction j with
  | zero =>
    intro k n n2 c m A hk hn hn2 hC hR hB hh
    obtain ⟨n, rfl⟩ : ∃ j, n = j + 1 := ⟨n - 1, by omega⟩
    obtain ⟨n2, rfl⟩ : ∃ j, n2 = j + 1 := ⟨n2 - 1, by omega⟩
    have : k = N := by omega
    subst this
    refine ⟨c, m, A, ?_, ?_, hB, rfl, fun _ _ => rfl, fun _ _ _ _ => rfl⟩
    · simp only [f_X5_passHours_L2]; rw [if_pos (nI_le (Nat.le_refl k) (by omega))]
    · simp only [f_X7_hour_L18]; rw [if_pos (nI_le (Nat.le_refl k) (by omega))]
  | succ j ih =>
    intro k n n2 c m A hk hn hn2 hC hR hB hh
    obtain ⟨n, rfl⟩ : ∃ j, n = j + 1 := ⟨n - 1, by omega⟩
    obtain ⟨n2, rfl⟩ : ∃ j, n2 = j + 1 := ⟨n2 - 1, by omega⟩
    obtain ⟨c1, m1, B, q1, q2, q3, q4, q5, q6⟩ := passX hw hI hC hR hB (by omega)
    obtain ⟨c2, m2, B2, p1, p2, p3, p4, p5, p6⟩ := ih (k + 1) n n2 c1 m1 B (by omega) (by omega) (by omega) (hC.fr hw q5) (hR.fr q6) q3 (by omega)
    refine ⟨c2, m2, B2, ?_, ?_, p3, by omega, fun r hr => by rw [p5 r hr, q5 r hr], fun r r1 r2 r3 => by rw [p6 r r1 r2 r3, q6 r r1 r2 r3]⟩
    · simp only [f_X5_passHours_L2]; rw [if_neg (nI_ge (by omega) (by omega)), q1, Option.bind_some, nI_1, p1]
    · simp only [f_X7_hour_L18]; rw [if_neg (nI_ge (by omega) (by omega)), q2, Option.bind_some, nI_1, p2]
theorem ok_hour {c m : MM} (h : Rel c m) (x : Int32) : Ok c m (f_X6_hour x c) (f_X7_hour x m) := by
  obtain ⟨n, L, A, P, I0, I1, hr⟩ := id h
  obtain ⟨hI, hC, hR⟩ := hr.2.2.1
  obtain ⟨⟨hcw, hrw, hiw⟩, hh⟩ := hr.2.2.2.1
  unfold f_X6_hour f_X7_hour
  rcases href hI hC hR hcw.1.1 hrw.1.1 hh x with ⟨a, h0, h60, rfl, h9, hF, e1, e2⟩ | ⟨v, hv, e1, e2⟩
  · rw [e1, e2, bdE, bdE, if_pos rfl, if_pos rfl]
    obtain ⟨c1, m1, P1, q1, q2, q3⟩ := remX hr
    rw [q1, q2, Option.bind_some, Option.bind_some]
    obtain ⟨-, hC1, hR1⟩ := q3.2.2.1
    have hFU : (100 : Nat) < FU := by decide
    obtain ⟨c2, m2, B, p1, p2, p3, p4, p5, p6⟩ := hoursX (z := 0) w24 hI (N := a) (by omega) a 0 FU FU c1 m1 A (by omega) (by omega) (by omega) hC1 hR1 q3.2.2.2.1.1 (by omega)
    have p1' : f_X5_passHours_L2 24 3 (nI a) FU 0 c1 = some (nI a, c2) := p1
    have p2' : f_X7_hour_L18 (nI a) 0 FU 0 m1 = some (nI a, m2) := p2
    unfold f_X5_passHours
    rw [p1', p2', Option.bind_some, Option.bind_some, Option.bind_some]
    have s6 : c2 24 5 = nI (tls B).length := p3.1.1.2.2.2.2.2.1
    have r6 : m2 149 32 = nI (tls B).length := p3.2.1.1.2.2.2.2.2.1
    dsimp only
    rw [s6, r6]
    refine ⟨_, _, _, rfl, rfl, n, L, B, P1, I0, I1, q3.now (fun r w1 w2 => p5 r (by omega)) (fun r w1 w2 => p6 r w1 (fun z => w2 (by unfold scR; omega)) (fun z => w2 (by unfold scR; omega))) p3 (by omega)⟩
  · rw [e1, e2, bdE, bdE, if_neg hv, if_neg hv]
    exact ⟨_, _, _, rfl, rfl, h⟩
/-- a talk more -/
theorem enterX {c m : MM} {n : Nat} {L : LG} {A : WS} {P : List WS} {I0 I1 : IM} (h : RelS c m n L A P I0 I1) {a x : Nat} (ha : a < nF L) (h0 : 0 < a) (hx : x < nW L) (hT : (tls A).length < 12) : ∃ c' m' B, f_X5_enterTalk 24 3 (nI a) (nI x) c = c' ∧ f_X7_sayNow (nI a) (nI x) m = some m' ∧ RelS c' m' n L B P I0 I1 ∧ hrs B = hrs A := by
  obtain ⟨hI, hC, hR⟩ := h.2.2.1
  obtain ⟨⟨⟨c1, c2, c3, c4⟩, ⟨r1, r2, r3, r4⟩, w1, w2, w3, w4, w5, w6, w7, w8, w9, w10⟩, hh⟩ := id h.2.2.2.1
  obtain ⟨c11, c12, c13, c14, c15, c16, c17⟩ := c1
  obtain ⟨r11, r12, r13, r14, r15, r16, r17⟩ := r1
  rw [Nat.zero_add] at r11 r12 r13 r14 r15 r16 r17
  have hF9 := hI.1
  have hfa := hI.2.2.2.2.2 a h0 ha
  obtain ⟨cc, p1, p2, p3, p4⟩ := plC (c := c) (isW_n1 w24) hT (x, a, 4 * fa L a, a)
  have hcc5 : cc 24 5 = nI (tls A).length := by rw [p2 24 (by decide)]; exact c16
  refine ⟨up2 cc 24 5 (nI ((tls A).length + 1)), up2 (up2 m 149 (33 + (tls A).length) (nI (pkT (x, a, 4 * fa L a, a)))) 149 32 (nI ((tls A).length + 1)), (A.1, tls A ++ [(x, a, 4 * fa L a, a)], A.2.2), ?_, ?_, h.now (fun r q1 q2 => by rw [up2_ro (by omega), p2 r (by omega)]) (fun r q1 q2 => by rw [up2_ro q1, up2_ro q1]) ⟨⟨⟨?_, ?_, ?_, ?_, ?_, ?_, ?_⟩, ?_, ?_, ?_⟩, ⟨⟨?_, ?_, ?_, ?_, ?_, ?_, ?_⟩, ?_, ?_, ?_⟩, w1, w2, w3, w4, ?_, w6, w7, w8, w9, w10⟩ hh, rfl⟩
  · have htg : f_X1_toGoFrom 3 (nI a) c = nI (4 * fa L a) := by
      unfold f_X1_toGoFrom
      rw [show 3 + 2 = 5 from rfl, cellC (n := 9) c rfl (by omega) (by decide), (hC.2.2 _ ha).2.1, bdE, z4, pk_mul]
    unfold f_X5_enterTalk
    rw [htg, bdE, c16, p1, bdE, bdE, hcc5, nI_1]
  · unfold f_X7_sayNow
    rw [gdI (by omega) (by decide), nI_clamp (by omega), (hR.2.2.2 _ ha).2.1, z4, pk_mul, pkN, bdE, r16, show (33 : Int32) + nI (tls A).length = nI (33 + (tls A).length) by rw [z33, nI_add], gdI (by omega) (by decide), nI_clamp (by omega), bdE, bdE, up2_ne (by omega), r16, nI_1]
  · rw [up2_ne (by omega), p2 24 (by decide)]; exact c11
  · rw [up2_ne (by omega), p2 24 (by decide)]; exact c12
  · rw [up2_ne (by omega), p2 24 (by decide)]; exact c13
  · rw [up2_ne (by omega), p2 24 (by decide)]; exact c14
  · rw [up2_ne (by omega), p2 24 (by decide)]; exact c15
  · rw [up2_eq]; show _ = nI (tls A ++ [(x, a, 4 * fa L a, a)]).length; simp
  · rw [up2_ne (by omega), p2 24 (by decide)]; exact c17
  · intro i t hi
    have hi : (tls A ++ [(x, a, 4 * fa L a, a)])[i]? = some t := hi
    have hl := (List.getElem?_eq_some_iff.mp hi).1
    simp at hl
    unfold t4C
    rw [up2_ro (by decide)]
    by_cases hil : i < (tls A).length
    · rw [List.getElem?_append_left hil] at hi
      exact (c2 i t hi).mv (fun q hq => p3 _ (by omega))
    · have : i = (tls A).length := by omega
      subst this
      rw [List.getElem?_append_right (Nat.le_refl _), Nat.sub_self] at hi
      cases hi
      exact p4
  · obtain ⟨E, hE, y1, y2⟩ := c3
    refine ⟨E, hE, by rw [up2_ne (by omega), p2 24 (by decide)]; exact y1, fun i t hi => ?_⟩
    unfold t4C
    rw [up2_ro (by decide), p2 _ (by decide)]; exact y2 i t hi
  · refine ⟨fun a ha => ?_, fun a ha => ?_, fun a ha => ?_⟩
    · rw [up2_ro (by decide), p2 _ (by decide)]; exact c4.1 a ha
    · rw [up2_ro (by decide), p2 _ (by decide)]; exact c4.2.1 a ha
    · rw [up2_ro (by decide), p2 _ (by decide)]; exact c4.2.2 a ha
  · rw [up2_ne (by omega), up2_ne (by omega)]; exact r11
  · rw [up2_ne (by omega), up2_ne (by omega)]; exact r12
  · rw [up2_ne (by omega), up2_ne (by omega)]; exact r13
  · rw [up2_ne (by omega), up2_ne (by omega)]; exact r14
  · rw [up2_ne (by omega), up2_ne (by omega)]; exact r15
  · rw [up2_eq]; show _ = nI (tls A ++ [(x, a, 4 * fa L a, a)]).length; simp
  · rw [up2_ne (by omega), up2_ne (by omega)]; exact r17
  · intro i t hi
    have hi : (tls A ++ [(x, a, 4 * fa L a, a)])[i]? = some t := hi
    have hl := (List.getElem?_eq_some_iff.mp hi).1
    simp at hl
    rw [Nat.zero_add, up2_ne (by omega)]
    by_cases hil : i < (tls A).length
    · rw [List.getElem?_append_left hil] at hi
      have := r2 i t hi
      rw [Nat.zero_add] at this
      rw [up2_ne (by omega)]; exact this
    · have : i = (tls A).length := by omega
      subst this
      rw [List.getElem?_append_right (Nat.le_refl _), Nat.sub_self] at hi
      cases hi
      exact up2_eq _ _ _ _
  · intro i t hi
    rw [up2_ne (by omega), up2_ne (by omega)]; exact r3 i t hi
  · refine ⟨fun a ha => ?_, fun a ha => ?_, fun a ha => ?_⟩
    · rw [up2_ne (by omega), up2_ne (by omega)]; exact r4.1 a ha
    · rw [up2_ne (by omega), up2_ne (by omega)]; exact r4.2.1 a ha
    · rw [up2_ne (by omega), up2_ne (by omega)]; exact r4.2.2 a ha
  · refine ⟨by show (tls A ++ [(x, a, 4 * fa L a, a)]).length ≤ 12; simp; omega, fun t ht => ?_⟩
    have ht : t ∈ tls A ++ [(x, a, 4 * fa L a, a)] := ht
    rcases List.mem_append.mp ht with ht | ht
    · exact w5.2 t ht
    · rw [List.mem_singleton.mp ht]
      exact ⟨hx, ⟨h0, ha⟩, ⟨by show 1 ≤ 4 * fa L a; omega, by show 4 * fa L a ≤ 36; omega⟩, h0, ha⟩
theorem ok_say {c m : MM} (h : Rel c m) (x y : Int32) : Ok c m (f_X6_say x y c) (f_X7_say x y m) := by
  obtain ⟨n, L, A, P, I0, I1, hr⟩ := id h
  obtain ⟨hI, hC, hR⟩ := hr.2.2.1
  obtain ⟨⟨hcw, hrw, hiw⟩, hh⟩ := hr.2.2.2.1
  have hF9 := hI.1
  have c6 : c 24 5 = nI (tls A).length := hcw.1.2.2.2.2.2.1
  have r6 : m 149 32 = nI (tls A).length := hrw.1.2.2.2.2.2.1
  have hT := hiw.2.2.2.2.1.1
  simp only [f_X6_say, f_X7_say, bd]
  rcases farm_cs hI hC hR x with ⟨a, ha, rfl, e1, e2⟩ | ⟨e1, e2⟩
  · rw [e1, if_neg one_ne, e2, if_neg one_ne]
    rcases word_cs hI hC hR y with ⟨b, hb, rfl, e3, e4⟩ | ⟨e3, e4⟩
    · rw [e3, if_neg one_ne, e4, if_neg one_ne]
      by_cases h0 : a = 0
      · rw [if_pos (show nI a = 0 by rw [h0]; rfl), if_pos (show nI a = 0 by rw [h0]; rfl)]
        exact ⟨_, _, _, rfl, rfl, h⟩
      · rw [if_neg (show ¬ nI a = 0 from nI_neI (b := 0) (by omega) (by decide) h0), if_neg (show ¬ nI a = 0 from nI_neI (b := 0) (by omega) (by decide) h0), c6, r6]
        by_cases hl : (tls A).length < 12
        · rw [if_pos (show nI (tls A).length < 12 from nI_lt (b := 12) hl (by omega)), if_neg (show ¬ nI (tls A).length = 12 from nI_neI (b := 12) (by omega) (by decide) (by omega))]
          obtain ⟨c1, m1, P1, q1, q2, q3⟩ := remX hr
          rw [q1, q2, Option.bind_some, Option.bind_some]
          obtain ⟨c2, m2, B, p1, p2, p3, p4⟩ := enterX q3 ha (by omega) hb hl
          rw [p1, p2, Option.bind_some]
          have s6 : c2 24 5 = nI (tls B).length := p3.2.2.2.1.1.1.1.2.2.2.2.2.1
          have t6 : m2 149 32 = nI (tls B).length := p3.2.2.2.1.1.2.1.1.2.2.2.2.2.1
          rw [s6, t6]
          exact ⟨_, _, _, rfl, rfl, n, L, B, P1, I0, I1, p3⟩
        · rw [if_neg (show ¬ nI (tls A).length < 12 from nI_nlt (b := 12) (by omega) (by omega)), if_pos (show nI (tls A).length = 12 by rw [show (tls A).length = 12 by omega]; rfl)]
          exact ⟨_, _, _, rfl, rfl, h⟩
    · rw [e3, if_pos rfl, e4, if_pos rfl]
      exact ⟨_, _, _, rfl, rfl, h⟩
  · rw [e1, if_pos rfl, e2, if_pos rfl]
    exact ⟨_, _, _, rfl, rfl, h⟩
