/-! each part of the relation stays where its cells stay -/
theorem RText.eq {c c' m m' : MM} {n : Nat} (h : RText c m n) (a1 : c' 1 1 = c 1 1) (a2 : c' 2 = c 2) (b1 : m' 144 10 = m 144 10) (b2 : m' 150 = m 150) : RText c' m' n := by
  unfold RText at *; rw [a1, a2, b1, b2]; exact h
theorem LC.eq {c c' : MM} {L : LG} (h : LC c L) (a1 : c' 3 0 = c 3 0) (a2 : c' 3 2 = c 3 2) (a3 : c' 4 = c 4) (a4 : c' 5 = c 5) (a5 : c' 7 = c 7) : LC c' L := by
  unfold LC at *; rw [a1, a2, a3, a4, a5]; exact h
theorem LR.eq {m m' : MM} {L : LG} (h : LR m L) (a1 : m' 144 0 = m 144 0) (a2 : m' 144 1 = m 144 1) (a3 : m' 145 = m 145) (a4 : m' 146 = m 146) (a5 : m' 148 = m 148) : LR m' L := by
  unfold LR at *; rw [a1, a2, a3, a4, a5]; exact h
theorem LI.F {L : LG} (h : LI L) : nF L ≤ 9 := h.1
theorem RPast.eq {c c' m m' : MM} {L : LG} {P : List WS} (h : RPast c m L P) (hF : nF L ≤ 9) (a1 : c' 13 1 = c 13 1) (a2 : c' 13 2 = c 13 2) (aw : ∀ r, 48 ≤ r → r < 144 → c' r = c r) (b1 : m' 144 24 = m 144 24) (b2 : m' 157 = m 157) : RPast c' m' L P := by
  obtain ⟨h1, h2, h3, e, h4, h5, h6⟩ := h
  refine ⟨h1, by rw [b1]; exact h2, by rw [a2]; exact h3, e, h4, by rw [a1]; exact h5, fun i B hB => ?_⟩
  obtain ⟨q1, q2⟩ := h6 i B hB
  exact ⟨q1.eq hF (fun k hk => aw _ (by omega) (by omega)) (fun k _ => by rw [b2]), q2⟩
theorem imI.eq {c c' m m' : MM} {L : LG} {K i : Nat} {im : IM} (h : imI c m L K i im) (hi : i < 2) (hF : nF L ≤ 9) (aw : ∀ r, 36 ≤ r → r < 48 → c' r = c r) (a1 : c' 16 = c 16) (b1 : m' 164 = m 164) (b2 : m' 165 = m 165) : imI c' m' L K i im := by
  cases im with
  | none => obtain ⟨h1, h2⟩ := h; exact ⟨h1, by rw [b2]; exact h2⟩
  | some p =>
    obtain ⟨B, sd⟩ := p
    obtain ⟨h1, h2, h3, h4, h5, h6, h7⟩ := h
    exact ⟨h1, by rw [b2]; exact h2, h3.eq hF (fun k hk => aw _ (by omega) (by omega)) (fun k _ => by rw [b1]), h4, by rw [a1]; exact h5, by rw [b1]; exact h6, h7⟩
theorem RImg.eq {c c' m m' : MM} {L : LG} {I0 I1 : IM} (h : RImg c m L I0 I1) (hF : nF L ≤ 9) (a0 : c' 0 8 = c 0 8) (aw : ∀ r, 36 ≤ r → r < 48 → c' r = c r) (a1 : c' 16 = c 16) (b1 : m' 164 = m 164) (b2 : m' 165 = m 165) : RImg c' m' L I0 I1 := by
  obtain ⟨K, h1, h2, h3, h4⟩ := h
  exact ⟨K, h1, by rw [a0]; exact h2, h3.eq (by decide) hF aw a1 b1 b2, h4.eq (by decide) hF aw a1 b1 b2⟩
theorem RSd.eq {c c' m m' : MM} (h : RSd c m) (a : c' 0 9 = c 0 9) (b : m' 144 8 = m 144 8) : RSd c' m' := by unfold RSd at *; rw [a, b]; exact h
theorem RSeen.eq {c c' m m' : MM} {L : LG} (h : RSeen c m L) (a1 : c' 17 3 = c 17 3) (a2 : c' 18 = c 18) (a3 : c' 19 = c 19) (b1 : m' 144 27 = m 144 27) (b2 : m' 159 = m 159) (b3 : m' 160 = m 160) : RSeen c' m' L := by
  unfold RSeen at *; rw [a1, a2, a3, b1, b2, b3]; exact h
theorem RBook.eq {c c' m m' : MM} {L : LG} (h : RBook c m L) (a1 : c' 21 2 = c 21 2) (a2 : c' 22 = c 22) (a3 : c' 23 = c 23) (b1 : m' 144 31 = m 144 31) (b2 : m' 162 = m 162) (b3 : m' 163 = m 163) : RBook c' m' L := by
  unfold RBook at *; rw [a1, a2, a3, b1, b2, b3]; exact h
/-! farms and words on both sides -/
theorem farm_cs {c m : MM} {L : LG} (hI : LI L) (hC : LC c L) (hR : LR m L) (x : Int32) : (∃ a, a < nF L ∧ x = nI a ∧ f_X6_isFarm x c = 1 ∧ f_X7_isFarm x m = 1) ∨ (f_X6_isFarm x c = 0 ∧ f_X7_isFarm x m = 0) := by
  have hF := hI.1
  have hb : nF L < 2 ^ 31 := by omega
  rcases nI_cases x hb with ⟨a, ha, rfl⟩ | ⟨h1, h2⟩
  · refine Or.inl ⟨a, ha, rfl, ?_, ?_⟩
    · unfold f_X6_isFarm; rw [hC.2.1]; exact X6_yes ha hb
    · unfold f_X7_isFarm bd; rw [hR.2.1]; exact in_nI ha hb m
  · refine Or.inr ⟨?_, ?_⟩
    · unfold f_X6_isFarm; rw [hC.2.1]; exact X6_no h1
    · unfold f_X7_isFarm bd; rw [hR.2.1]; exact in_no h2 m
theorem word_cs {c m : MM} {L : LG} (hI : LI L) (hC : LC c L) (hR : LR m L) (x : Int32) : (∃ a, a < nW L ∧ x = nI a ∧ f_X6_isWord x c = 1 ∧ f_X7_isWord x m = 1) ∨ (f_X6_isWord x c = 0 ∧ f_X7_isWord x m = 0) := by
  have hF := hI.2.1
  have hb : nW L < 2 ^ 31 := by omega
  rcases nI_cases x hb with ⟨a, ha, rfl⟩ | ⟨h1, h2⟩
  · refine Or.inl ⟨a, ha, rfl, ?_, ?_⟩
    · unfold f_X6_isWord; rw [hC.1]; exact X6_yes ha hb
    · unfold f_X7_isWord bd; rw [hR.1]; exact in_nI ha hb m
  · refine Or.inr ⟨?_, ?_⟩
    · unfold f_X6_isWord; rw [hC.1]; exact X6_no h1
    · unfold f_X7_isWord bd; rw [hR.1]; exact in_no h2 m
theorem one_ne : ¬ (1 : Int32) = 0 := by decide
/-- in() with whole bounds from 0 on -/
theorem in_k (x : Int32) (μ : MM) {k : Nat} (hk : k < 2 ^ 30) {K : Int64} (hK : K = Int32.toInt64 (nI k)) : (∃ a, a ≤ k ∧ x = nI a ∧ f_X7_in (Int32.toInt64 x) 0 K μ = 1) ∨ ((x < 0 ∨ nI k < x) ∧ f_X7_in (Int32.toInt64 x) 0 K μ = 0) := by
  have hb : k + 1 < 2 ^ 31 := by omega
  rcases nI_cases x hb with ⟨a, ha, rfl⟩ | ⟨h1, h2⟩
  · refine Or.inl ⟨a, by omega, rfl, ?_⟩
    have := in_nI ha hb μ
    rw [nI_pred, ← hK] at this
    exact this
  · refine Or.inr ⟨?_, ?_⟩
    · rcases h1 with h | h
      · exact Or.inl h
      · refine Or.inr ?_
        simp only [Int32.le_iff_toInt_le, Int32.lt_iff_toInt_lt] at *
        rw [nI_toInt hb] at h
        rw [nI_toInt (by omega)]
        omega
    · have := in_no h2 μ
      rw [nI_pred, ← hK] at this
      exact this
theorem cellC {r i n : Nat} (μ : MM) (hr : aln r = n) (h : i < n) (hn : n < 2 ^ 31) : f_X6_cell r (nI i) μ = μ r i := cell_nI μ (by omega) (by omega)
theorem putC {r i n : Nat} (v : Int32) (μ : MM) (hr : aln r = n) (h : i < n) (hn : n < 2 ^ 31) : f_X6_put r (nI i) v μ = up2 μ r i v := put_nI v μ (by omega) (by omega)
