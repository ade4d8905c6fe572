/-! the log; the book -/
theorem lgE (E i : Nat) (hi : i < 20) : nI E - 1 - nI i + 40 = nI (E + 39 - i) := by
  have e1 : nI (E + 39 - i) + nI i + 1 = nI E + 40 := by
    rw [nI_add, z1, nI_add, z40, nI_add]
    congr 1
    omega
  grind
theorem ok_logged {c m : MM} (h : Rel c m) (x y : Int32) : Ok c m ((some (f_X6_logged x y c)).map fun r => (r, c)) ((f_X7_logged x y m).map fun r => (r, m)) := by
  apply ok_pure h
  obtain ⟨n, L, A, P, I0, I1, hr⟩ := id h
  obtain ⟨h1, h2, ⟨hI, hC, hR⟩, ⟨⟨⟨⟨s1, s2, s3, s4, s5, s6, s7⟩, ht, ⟨E, hE, s8, hl⟩, ha1, ha2, ha3⟩, ⟨⟨r1, r2, r3, r4, r5, r6, r7⟩, rt, rl, ra1, ra2, ra3⟩, hW⟩, h4b⟩, h5, h6, h7, h8, h9⟩ := hr
  have hlen := hW.2.2.2.2.2.1.1
  simp only [Nat.zero_add] at r7
  simp only [f_X6_logged, f_X7_logged, bd]
  rcases in_k y m (k := 3) (by decide) (K := 3) (by decide) with ⟨j, hj, rfl, e⟩ | ⟨g, e⟩
  · rw [e, if_neg (nI_pos (by omega)), if_pos (show nI j < 4 from nI_lt (b := 4) (by omega) (by decide)), if_neg one_ne, s7, r7]
    rcases nI_cases x (n := (lgs A).length) (by omega) with ⟨i, hi, rfl⟩ | ⟨g1, g2⟩
    · rw [if_neg (nI_pos (by omega)), if_pos (nI_lt hi (by omega)), in_nI hi (by omega), if_neg one_ne]
      obtain ⟨t, htl⟩ : ∃ t, (lgs A)[i]? = some t := ⟨_, List.getElem?_eq_getElem hi⟩
      have hti := hW.2.2.2.2.2.1.2 t (List.mem_of_getElem? htl)
      obtain ⟨c1, c2, c3, c4⟩ := hl i t htl
      have hm := rl i t htl
      obtain ⟨p1, p2, p3, p4, p5⟩ := pl_un (t := t) (by unfold lgI at hti; omega)
      have k1 : (46 : Int32) + nI (lgs A).length - 1 - nI i = nI (46 + ((lgs A).length - 1 - i)) := by
        rw [z46, nI_add, show 46 + (lgs A).length = (45 + (lgs A).length) + 1 by omega, nI_pred, pk_sub (by omega)]
        congr 1
        omega
      simp only [Nat.zero_add] at hm
      rw [k1, gdI (by omega) (by decide), nI_clamp (by omega), hm]
      simp only [f_X5_ofLog, bd]
      rw [s8, lgE E i (by omega), z20, rm_nI (by omega) (by decide) (by decide), z4, pk_mul, nI_add, cellC (n := 80) c rfl (by have := Nat.mod_lt (E + 39 - i) (show 20 > 0 by decide); omega) (by decide)]
      rw [z100, z10, z1000, dv_nI (by omega) (by decide) (by decide), dv_nI (by omega) (by decide) (by decide), dv_nI (by omega) (by decide) (by decide), rm_nI (by omega) (by decide) (by decide), rm_nI (by omega) (by decide) (by decide), rm_nI (by omega) (by decide) (by decide), p1, p2, p3, p4]
      rcases (show j = 0 ∨ j = 1 ∨ j = 2 ∨ j = 3 by omega) with rfl | rfl | rfl | rfl
      · exact ⟨_, congrArg some c1, rfl⟩
      · exact ⟨_, congrArg some c2, rfl⟩
      · exact ⟨_, congrArg some c3, rfl⟩
      · exact ⟨_, congrArg some c4, rfl⟩
    · rw [in_no g2, if_pos rfl]
      rcases g1 with g1 | g1
      · rw [if_pos g1]; exact ⟨_, rfl, rfl⟩
      · by_cases hx : x < 0
        · rw [if_pos hx]; exact ⟨_, rfl, rfl⟩
        · rw [if_neg hx, if_neg (fun q => by simp only [Int32.lt_iff_toInt_lt, Int32.le_iff_toInt_le] at *; omega)]
          exact ⟨_, rfl, rfl⟩
  · rw [e, if_pos rfl]
    rcases g with g | g
    · rw [if_pos g]; exact ⟨_, rfl, rfl⟩
    · by_cases hx : y < 0
      · rw [if_pos hx]; exact ⟨_, rfl, rfl⟩
      · rw [if_neg hx, if_neg (fun q => by
          have q2 : y < nI 4 := q
          obtain ⟨j, hj, rfl⟩ := nI_of hx
          have q3 := (nI_ltI hj (by decide)).mp q2
          have q4 := (nI_ltI (by decide) hj).mp g
          omega)]
        exact ⟨_, rfl, rfl⟩
theorem juL {c m : MM} {L : LG} (hI : LI L) {k : Nat} (hk : k ≤ 15) (d1 : c 21 2 = nI k) (d2 : m 144 31 = nI k) (d3 : ∀ i, i < k → ∃ a, a < nF L ∧ c 22 i = nI a ∧ m 162 i = nI a ∧ c 23 i = m 163 i) {la : Nat → Int32} (e1 : ∀ a, a < nF L → c 28 a = la a) (e2 : ∀ a, a < 9 → m 149 (14 + a) = la a) : ∀ (n i : Nat), i ≤ k → k < n + i → (∃ z z', f_X0_firstWrong_L2 28 c n (nI i) = some (.inl z) ∧ f_X7_judge_L2 m n (nI i) = some (.inl z')) ∨ ∃ r, f_X0_firstWrong_L2 28 c n (nI i) = some (.inr r) ∧ f_X7_judge_L2 m n (nI i) = some (.inr r) := by
  have hF9 := hI.1
  intro n
  induction n with
  | zero => intro i h1 h2; omega
  | succ n ih =>
    intro i h1 h2
    simp only [f_X0_firstWrong_L2, f_X7_judge_L2, bd]
    rw [d1, d2]
    by_cases h : k ≤ i
    · rw [if_pos (nI_le h (by omega)), if_pos (nI_le h (by omega))]
      exact Or.inl ⟨_, _, rfl, rfl⟩
    · obtain ⟨a, ha, q1, q2, q3⟩ := d3 i (by omega)
      have k14 : (14 : Int32) + nI a = nI (14 + a) := by rw [z14, nI_add]
      rw [if_neg (nI_ge (by omega) (by omega)), if_neg (nI_ge (by omega) (by omega)), cellC (n := 15) c rfl (by omega) (by decide), cellC (n := 15) c rfl (by omega) (by decide), q1, cellC (n := 9) c rfl (by omega) (by decide), e1 a (by omega), gdI (by omega) (by decide), gdI (by omega) (by decide), nI_clamp (by omega), q2, k14, gdI (by omega) (by decide), nI_clamp (by omega), e2 a (by omega), q3, nI_1]
      by_cases hw : la a = m 163 i
      · rw [if_pos hw, if_pos hw]
        exact ih (i + 1) (by omega) (by omega)
      · rw [if_neg hw, if_neg hw]
        exact Or.inr ⟨_, rfl, rfl⟩
theorem ok_judge {c m : MM} (h : Rel c m) : Ok c m ((f_X6_judge c).map fun r => (r, c)) ((f_X7_judge m).map fun r => (r, m)) := by
  apply ok_pure h
  obtain ⟨n, L, A, P, I0, I1, hr⟩ := id h
  obtain ⟨h1, h2, ⟨hI, hC, hR⟩, ⟨⟨⟨hs, ht, hl, ha1, ha2, ha3⟩, ⟨rs, rt, rl, ra1, ra2, ra3⟩, hW⟩, h4b⟩, h5, h6, h7, h8, ⟨k, hk, d1, d2, d3⟩⟩ := hr
  unfold f_X6_judge f_X0_firstWrong f_X7_judge
  rw [show f_X0_firstWrong_L2 28 c FU 0 = f_X0_firstWrong_L2 28 c FU (nI 0) from rfl, show f_X7_judge_L2 m FU 0 = f_X7_judge_L2 m FU (nI 0) from rfl]
  rcases juL hI hk d1 d2 d3 (la := fun a => nI (lat A a) - 1) ha2 (fun a ha => by have := ra2 a ha; simpa using this) FU 0 (by omega) (by unfold FU; omega) with ⟨z, z', q1, q2⟩ | ⟨r, q1, q2⟩
  · rw [q1, q2]; exact ⟨_, rfl, rfl⟩
  · rw [q1, q2]; exact ⟨_, rfl, rfl⟩
