theorem ok_feed {c m : MM} (h : Rel c m) (x : Int32) : Ok c m (some (f_X6_feed x c)) (f_X7_feed x m) := by
  obtain ⟨n, L, A, P, I0, I1, ⟨hn, t1, t2, t3⟩, h2, ⟨hI, hC, hR⟩, ⟨h4, h4b⟩, h5, h6, h7, h8, h9⟩ := id h
  simp only [f_X6_feed, f_X7_feed, bd]
  rcases in_k x m (k := 255) (by decide) (K := 255) (by decide) with ⟨a, ha, rfl, e⟩ | ⟨h1, e⟩
  · rw [e, if_neg (nI_pos (by omega)), if_pos (show nI a ≤ 255 from nI_le ha (by decide))]
    rw [if_neg one_ne, t1, t2]
    by_cases hlt : n < 240
    · rw [if_pos (show nI n < 240 from nI_lt hlt (by decide)), if_neg (fun q => by rw [z240, nI_eq (by omega) (by omega)] at q; omega), gdI hlt (by decide), putC (n := 240) _ _ rfl hlt (by decide), nI_clamp (by omega)]
      have e1 : up2 c 2 n (nI a) 1 1 = nI n := by rw [up2_ne (by omega)]; exact t1
      have e2 : up2 m 150 n (nI a) 144 10 = nI n := by rw [up2_ne (by omega)]; exact t2
      simp only [e1, e2, up2_eq, nI_1]
      refine ⟨_, _, _, rfl, rfl, n + 1, L, A, P, I0, I1, ?_⟩
      refine ⟨⟨by omega, by rw [up2_eq], by rw [up2_eq], fun k hk => ?_⟩, ?_, ⟨hI, hC.eq rfl rfl rfl rfl rfl, hR.eq rfl rfl rfl rfl rfl⟩, ⟨h4.eq hI.F (fun k hk => by rw [up2_ro (by omega), up2_ro (by omega)]) (fun k hk => rfl), h4b⟩, h5.eq hI.F rfl rfl (fun r h1 h2 => by rw [up2_ro (by omega), up2_ro (by omega)]) rfl rfl, h6.eq hI.F rfl (fun r h1 h2 => by rw [up2_ro (by omega), up2_ro (by omega)]) rfl rfl rfl, h7.eq rfl rfl, h8.eq rfl rfl rfl rfl rfl rfl, h9.eq rfl rfl rfl rfl rfl rfl⟩
      · rw [up2_ne (by omega), up2_ne (r' := 150) (by omega)]
        by_cases hk2 : k = n
        · subst hk2
          exact ⟨a, ha, by rw [up2_eq], by rw [up2_eq]⟩
        · obtain ⟨y, hy, q1, q2⟩ := t3 k (by omega)
          exact ⟨y, hy, by rw [up2_ne (by omega)]; exact q1, by rw [up2_ne (by omega)]; exact q2⟩
      · rw [up2_ne (by omega), up2_ne (by omega), up2_ne (r' := 144) (by omega), up2_ne (r' := 144) (by omega)]
        exact h2
    · have hn2 : n = 240 := by omega
      subst hn2
      rw [if_neg (show ¬ nI 240 < 240 from by decide), if_pos (show nI 240 = 240 from rfl)]
      exact ⟨_, _, _, rfl, rfl, h⟩
  · rw [e]
    rw [if_pos rfl]
    rcases h1 with h1 | h1
    · rw [if_pos h1]
      exact ⟨_, _, _, rfl, rfl, h⟩
    · have h0 : ¬ x < 0 := by
        intro q
        simp only [Int32.lt_iff_toInt_lt] at *
        rw [nI_toInt (by decide)] at h1
        have t0 : Int32.toInt 0 = 0 := by decide
        omega
      rw [if_neg h0, if_neg (fun q => by
        have q2 : x ≤ nI 255 := q
        simp only [Int32.lt_iff_toInt_lt, Int32.le_iff_toInt_le] at *
        omega)]
      exact ⟨_, _, _, rfl, rfl, h⟩
theorem nI_neI {a b : Nat} (ha : a < 2 ^ 31) (hb : b < 2 ^ 31) (h : a ≠ b) : ¬ nI a = nI b := fun q => h ((nI_eq ha hb).mp q)
theorem ok_see {c m : MM} (h : Rel c m) (x y : Int32) : Ok c m (some (f_X6_see x y c)) (f_X7_see x y m) := by
  obtain ⟨n, L, A, P, I0, I1, h1, h2, ⟨hI, hC, hR⟩, ⟨h4, h4b⟩, h5, h6, h7, ⟨k, hk, t1, t2, t3⟩, h9⟩ := id h
  have hW := hI.2.1
  simp only [f_X6_see, f_X7_see, bd]
  rcases word_cs hI hC hR x with ⟨a, ha, rfl, e1, e2⟩ | ⟨e1, e2⟩
  · rw [e1, e2, if_neg one_ne, if_neg one_ne]
    rcases word_cs hI hC hR y with ⟨b, hb, rfl, d1, d2⟩ | ⟨d1, d2⟩
    · rw [d1, d2, if_neg one_ne, if_neg one_ne, t1, t2]
      by_cases hlt : k < 6
      · rw [if_pos (show nI k < 6 from nI_lt hlt (by decide)), if_neg (show ¬ nI k = 6 from nI_neI (b := 6) (by omega) (by decide) (by omega)), gdI hlt (by decide), nI_clamp (by omega)]
        simp only [f_X2_add, bd]
        rw [t1, putC (n := 6) _ _ rfl hlt (by decide)]
        have e3 : up2 c 18 k (nI a) 17 3 = nI k := by rw [up2_ne (by omega)]; exact t1
        have e4 : up2 m 159 k (nI a) 144 27 = nI k := by rw [up2_ne (by omega)]; exact t2
        rw [e3, e4, putC (n := 6) _ _ rfl hlt (by decide), gdI hlt (by decide), nI_clamp (by omega)]
        have e5 : up2 (up2 c 18 k (nI a)) 19 k (nI b) 17 3 = nI k := by rw [up2_ne (by omega)]; exact e3
        have e6 : up2 (up2 m 159 k (nI a)) 160 k (nI b) 144 27 = nI k := by rw [up2_ne (by omega)]; exact e4
        rw [e5, e6, up2_eq, up2_eq, nI_1]
        refine ⟨_, _, _, rfl, rfl, n, L, A, P, I0, I1, ?_⟩
        refine ⟨h1.eq rfl rfl rfl rfl, h2, ⟨hI, hC.eq rfl rfl rfl rfl rfl, hR.eq rfl rfl rfl rfl rfl⟩, ⟨h4.eq hI.F (fun k hk => by rw [up2_ro (by omega), up2_ro (by omega), up2_ro (by omega)]) (fun k hk => rfl), h4b⟩, h5.eq hI.F rfl rfl (fun r h1 h2 => by rw [up2_ro (by omega), up2_ro (by omega), up2_ro (by omega)]) rfl rfl, h6.eq hI.F rfl (fun r h1 h2 => by rw [up2_ro (by omega), up2_ro (by omega), up2_ro (by omega)]) rfl rfl rfl, h7.eq rfl rfl, ⟨k + 1, by omega, by rw [up2_eq], by rw [up2_eq], fun i hi => ?_⟩, h9.eq rfl rfl rfl rfl rfl rfl⟩
        rw [up2_ro (r' := 18) (by omega), up2_ro (r' := 18) (by omega), up2_ro (r' := 19) (by omega), up2_ro (r' := 159) (by omega), up2_ro (r' := 159) (by omega), up2_ro (r' := 160) (by omega)]
        by_cases hik : i = k
        · subst hik
          exact ⟨a, b, ha, hb, by rw [up2_eq], by rw [up2_eq], by rw [up2_eq], by rw [up2_eq]⟩
        · obtain ⟨x, y, q1, q2, q3, q4, q5, q6⟩ := t3 i (by omega)
          exact ⟨x, y, q1, q2, by rw [up2_ne (by omega)]; exact q3, by rw [up2_ne (by omega)]; exact q4, by rw [up2_ne (by omega), up2_ne (by omega)]; exact q5, by rw [up2_ne (by omega), up2_ne (by omega)]; exact q6⟩
      · obtain rfl : k = 6 := by omega
        rw [if_neg (show ¬ nI 6 < 6 from by decide), if_pos (show nI 6 = 6 from rfl)]
        exact ⟨_, _, _, rfl, rfl, h⟩
    · rw [d1, d2, if_pos rfl, if_pos rfl]
      exact ⟨_, _, _, rfl, rfl, h⟩
  · rw [e1, e2, if_pos rfl, if_pos rfl]
    exact ⟨_, _, _, rfl, rfl, h⟩
/-- an entry behind the book -/
theorem ok_wr {c m : MM} (h : Rel c m) {a : Nat} (y : Int32) (ha : ∀ n L A P I0 I1, RelS c m n L A P I0 I1 → a < nF L) :
    Ok c m (some (if (c 21 2) < 15 then bd (f_X0_add (nI a) y c) fun x2 => ((x2 21 2), x2) else ((-1000000004), c))) (if (m 144 31) = 15 then some ((-1000000004), m) else gd (¬ ((m 144 31) < 0 ∨ 15 ≤ Int32.toNatClampNeg (m 144 31))) (bd (up2 m 162 (Int32.toNatClampNeg (m 144 31)) (nI a)) fun μ2 => gd (¬ ((μ2 144 31) < 0 ∨ 15 ≤ Int32.toNatClampNeg (μ2 144 31))) (bd (up2 μ2 163 (Int32.toNatClampNeg (μ2 144 31)) y) fun μ3 => bd (up2 μ3 144 31 ((μ3 144 31) + 1)) fun μ4 => some ((μ4 144 31), μ4)))) := by
  obtain ⟨n, L, A, P, I0, I1, hr⟩ := id h
  have haF := ha n L A P I0 I1 hr
  obtain ⟨h1, h2, ⟨hI, hC, hR⟩, ⟨h4, h4b⟩, h5, h6, h7, h8, ⟨k, hk, t1, t2, t3⟩⟩ := hr
  rw [t1, t2]
  by_cases hlt : k < 15
  · rw [if_pos (show nI k < 15 from nI_lt hlt (by decide)), if_neg (show ¬ nI k = 15 from nI_neI (b := 15) (by omega) (by decide) (by omega)), gdI hlt (by decide), nI_clamp (by omega)]
    simp only [f_X0_add, bd]
    rw [t1, putC (n := 15) _ _ rfl hlt (by decide)]
    have e3 : up2 c 22 k (nI a) 21 2 = nI k := by rw [up2_ne (by omega)]; exact t1
    have e4 : up2 m 162 k (nI a) 144 31 = nI k := by rw [up2_ne (by omega)]; exact t2
    rw [e3, e4, putC (n := 15) _ _ rfl hlt (by decide), gdI hlt (by decide), nI_clamp (by omega)]
    have e5 : up2 (up2 c 22 k (nI a)) 23 k y 21 2 = nI k := by rw [up2_ne (by omega)]; exact e3
    have e6 : up2 (up2 m 162 k (nI a)) 163 k y 144 31 = nI k := by rw [up2_ne (by omega)]; exact e4
    rw [e5, e6, up2_eq, up2_eq, nI_1]
    refine ⟨_, _, _, rfl, rfl, n, L, A, P, I0, I1, ?_⟩
    refine ⟨h1.eq rfl rfl rfl rfl, h2, ⟨hI, hC.eq rfl rfl rfl rfl rfl, hR.eq rfl rfl rfl rfl rfl⟩, ⟨h4.eq hI.F (fun k hk => by rw [up2_ro (by omega), up2_ro (by omega), up2_ro (by omega)]) (fun k hk => rfl), h4b⟩, h5.eq hI.F rfl rfl (fun r h1 h2 => by rw [up2_ro (by omega), up2_ro (by omega), up2_ro (by omega)]) rfl rfl, h6.eq hI.F rfl (fun r h1 h2 => by rw [up2_ro (by omega), up2_ro (by omega), up2_ro (by omega)]) rfl rfl rfl, h7.eq rfl rfl, h8.eq rfl rfl rfl rfl rfl rfl, ⟨k + 1, by omega, by rw [up2_eq], by rw [up2_eq], fun i hi => ?_⟩⟩
    rw [up2_ro (r' := 22) (by omega), up2_ro (r' := 22) (by omega), up2_ro (r' := 23) (by omega), up2_ro (r' := 162) (by omega), up2_ro (r' := 162) (by omega), up2_ro (r' := 163) (by omega)]
    by_cases hik : i = k
    · subst hik
      exact ⟨a, haF, by rw [up2_eq], by rw [up2_eq], by rw [up2_eq, up2_eq]⟩
    · obtain ⟨x, q1, q2, q3, q4⟩ := t3 i (by omega)
      exact ⟨x, q1, by rw [up2_ne (by omega)]; exact q2, by rw [up2_ne (by omega)]; exact q3, by rw [up2_ne (by omega), up2_ne (by omega), up2_ne (by omega), up2_ne (by omega)]; exact q4⟩
  · obtain rfl : k = 15 := by omega
    rw [if_neg (show ¬ nI 15 < 15 from by decide), if_pos (show nI 15 = 15 from rfl)]
    exact ⟨_, _, _, rfl, rfl, h⟩
theorem ok_write {c m : MM} (h : Rel c m) (x y : Int32) : Ok c m (some (f_X6_write x y c)) (f_X7_write x y m) := by
  obtain ⟨n, L, A, P, I0, I1, hr⟩ := id h
  obtain ⟨hI, hC, hR⟩ := hr.2.2.1
  simp only [f_X6_write, f_X7_write, bd]
  rcases farm_cs hI hC hR x with ⟨a, ha, rfl, e1, e2⟩ | ⟨e1, e2⟩
  · have hall : ∀ n L A P I0 I1, RelS c m n L A P I0 I1 → a < nF L := by
      intro n' L' A' P' I0' I1' hr'
      have hb := hI.1
      have hb' := hr'.2.2.1.1.1
      have q1 := hC.2.1
      have q2 := hr'.2.2.1.2.1.2.1
      rw [q1] at q2
      have := (nI_eq (by omega) (by omega)).mp q2
      omega
    rw [e1, e2]
    rw [if_neg one_ne, if_neg one_ne]
    by_cases hy : y = -1
    · rw [if_pos hy, if_pos hy]
      exact ok_wr h y hall
    · rw [if_neg hy, if_neg hy]
      rcases word_cs hI hC hR y with ⟨b, hb, rfl, d1, d2⟩ | ⟨d1, d2⟩
      · rw [d1, d2, if_neg one_ne, if_neg one_ne]
        exact ok_wr h (nI b) hall
      · rw [d1, d2, if_pos rfl, if_pos rfl]
        exact ⟨_, _, _, rfl, rfl, h⟩
  · rw [e1, e2]
    rw [if_pos rfl, if_pos rfl]
    exact ⟨_, _, _, rfl, rfl, h⟩
theorem dry_LL (a b : Int32) (c m : MM) : ∀ (n : Nat) (x : Int64) (k : Int32), f_X6_dry_L30 a b c n x k = f_X7_dry_L34 a b m n x k
  | 0, x, k => rfl
  | n + 1, x, k => by
    simp only [f_X6_dry_L30, f_X7_dry_L34, bd]
    rw [dry_LL a b c m n]
theorem dry_some (a : Nat) (ha : a ≤ 60) (b : Int32) (c : MM) : ∀ (n : Nat) (x : Int64) (k : Nat), k ≤ a → a < n + k → ∃ z, f_X6_dry_L30 (nI a) b c n x (nI k) = some z
  | 0, x, k, h1, h2 => by omega
  | n + 1, x, k, h1, h2 => by
    simp only [f_X6_dry_L30, bd]
    by_cases h : a ≤ k
    · rw [if_pos (nI_le h (by omega))]
      exact ⟨_, rfl⟩
    · rw [if_neg (nI_ge (by omega) (by omega)), nI_1]
      exact dry_some a ha b c n _ (k + 1) (by omega) (by omega)
theorem ok_dry {c m : MM} (h : Rel c m) (x y : Int32) : Ok c m ((f_X6_dry x y c).map fun r => (r, c)) ((f_X7_dry x y m).map fun r => (r, m)) := by
  simp only [f_X6_dry, f_X7_dry, bd]
  have out : ∀ {x : Int32} {k : Nat}, k < 2 ^ 30 → nI k < x → ¬ x < 0 := by
    intro x k hk h1 q
    simp only [Int32.lt_iff_toInt_lt] at *
    rw [nI_toInt (by omega)] at h1
    have t0 : Int32.toInt 0 = 0 := by decide
    omega
  rcases in_k x m (k := 60) (by decide) (K := 60) (by decide) with ⟨a, ha, rfl, e⟩ | ⟨h1, e⟩
  · rw [e, if_neg (nI_pos (by omega)), if_neg (show ¬ 60 < nI a from nI_nlt (a := 60) ha (by decide))]
    rcases in_k y m (k := 100) (by decide) (K := 100) (by decide) with ⟨b, hb, rfl, e2⟩ | ⟨h1, e2⟩
    · rw [e2, if_neg (nI_pos (by omega)), if_pos (show nI b ≤ 100 from nI_le hb (by decide))]
      rw [if_neg one_ne, if_neg one_ne, ← dry_LL (nI a) (nI b) c m FU]
      obtain ⟨z, hz⟩ := dry_some a ha (nI b) c FU 1000000000 0 (by omega) (by unfold FU; omega)
      rw [show (0 : Int32) = nI 0 from rfl, hz]
      exact ⟨_, _, _, rfl, rfl, h⟩
    · rw [e2]
      rw [if_neg one_ne, if_pos rfl]
      rcases h1 with h1 | h1
      · rw [if_pos h1]; exact ⟨_, _, _, rfl, rfl, h⟩
      · rw [if_neg (out (by decide) h1), if_neg (fun q => by
          have q2 : y ≤ nI 100 := q
          simp only [Int32.lt_iff_toInt_lt, Int32.le_iff_toInt_le] at *
          omega)]
        exact ⟨_, _, _, rfl, rfl, h⟩
  · rw [e]
    rw [if_pos rfl]
    rcases h1 with h1 | h1
    · rw [if_pos h1]; exact ⟨_, _, _, rfl, rfl, h⟩
    · rw [if_neg (out (by decide) h1), if_pos (show (60 : Int32) < x from h1)]; exact ⟨_, _, _, rfl, rfl, h⟩
