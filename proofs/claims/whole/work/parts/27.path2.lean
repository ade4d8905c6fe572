/-! up, private; words and hours on the way -/
theorem pow_512 {F : Nat} (h : F ≤ 9) : 2 ^ F ≤ 512 := by
  have : ∀ F, F < 10 → 2 ^ F ≤ 512 := by decide
  exact this F (by omega)
theorem env_of {c m : MM} {n : Nat} {L : LG} {A : WS} {P : List WS} {I0 I1 : IM} (h : RelS c m n L A P I0 I1) : Env2 c m L (dmm A) := by
  obtain ⟨h1, h2, ⟨hI, hC, hR⟩, ⟨⟨⟨hs, ht, hl, ha1, ha2, ha3⟩, ⟨rs, rt, rl, ra1, ra2, ra3⟩, hW⟩, h4b⟩, h5, h6, h7, h8, h9⟩ := h
  have := pow_512 hI.1
  have := hW.2.2.1.1
  exact ⟨hI, hC, hR, by omega, hs.2.2.2.1, rs.2.2.2.1⟩
theorem upL {c m : MM} {L : LG} {D : Nat} (H : Env2 c m L D) {b : Nat} (hb : b < nF L) : ∀ (n a set : Nat), a ≤ nF L → nF L < n + a → set < 512 → ∃ v z z', v < 512 ∧ f_X6_upOf_L4 (nI b) c n (nI set) (nI a) = some (nI v, z) ∧ f_X7_upOf_L4 (nI b) m n (nI set) (nI a) = some (nI v, z') := by
  have hF9 := H.1.1
  intro n
  induction n with
  | zero => intro a set h1 h2; omega
  | succ n ih =>
    intro a set h1 h2 h3
    simp only [f_X6_upOf_L4, f_X7_upOf_L4, bd]
    rw [H.2.1.2.1, H.2.2.1.2.1]
    by_cases h : nF L ≤ a
    · rw [if_pos (nI_le h (by omega)), if_pos (nI_le h (by omega))]
      exact ⟨_, _, _, h3, rfl, rfl⟩
    · have ha : a < nF L := by omega
      obtain ⟨d1, d2⟩ := downX H ha
      have hlt := dw_lt H.1 D a a (Nat.le_refl a) ha
      rw [if_neg (nI_ge (by omega) (by omega)), if_neg (nI_ge (by omega) (by omega)), d1, d2]
      simp only [Option.bind_some]
      rw [holds_nI hlt (by omega), has_nI hlt (by omega), nI_1, sl_dec _ (by omega), z0, fa_or, fa_or, Nat.or_zero]
      by_cases ht : (dw L D a).testBit b = true
      · rw [if_pos ht, if_neg (by decide), if_neg (by decide)]
        exact ih (a + 1) _ (by omega) (by omega) (or_lt h3 (two_lt (by omega)))
      · rw [if_neg ht, if_pos (by rfl), if_pos (by rfl)]
        exact ih (a + 1) _ (by omega) (by omega) h3
theorem upX {c m : MM} {L : LG} {D : Nat} (H : Env2 c m L D) {b : Nat} (hb : b < nF L) : ∃ v, v < 512 ∧ f_X6_upOf (nI b) c = some (nI v) ∧ f_X7_upOf (nI b) m = some (nI v) := by
  have hF9 := H.1.1
  obtain ⟨v, z, z', h1, h2, h3⟩ := upL H hb FU 0 0 (by omega) (by unfold FU; omega) (by omega)
  refine ⟨v, h1, ?_, ?_⟩
  · unfold f_X6_upOf; rw [show f_X6_upOf_L4 (nI b) c FU 0 0 = f_X6_upOf_L4 (nI b) c FU (nI 0) (nI 0) from rfl, h2]; rfl
  · unfold f_X7_upOf; rw [show f_X7_upOf_L4 (nI b) m FU 0 0 = f_X7_upOf_L4 (nI b) m FU (nI 0) (nI 0) from rfl, h3]; rfl
theorem ok_down {c m : MM} (h : Rel c m) (x : Int32) : Ok c m ((f_X6_down x c).map fun r => (r, c)) ((f_X7_down x m).map fun r => (r, m)) := by
  apply ok_pure h
  obtain ⟨n, L, A, P, I0, I1, hr⟩ := id h
  have H := env_of hr
  simp only [f_X6_down, f_X7_down, bd]
  rcases farm_cs H.1 H.2.1 H.2.2.1 x with ⟨a, ha, rfl, e1, e2⟩ | ⟨e1, e2⟩
  · obtain ⟨d1, d2⟩ := downX H ha
    rw [e1, e2, if_neg one_ne, if_neg one_ne, d1, d2]
    exact ⟨_, rfl, rfl⟩
  · rw [e1, e2, if_pos rfl, if_pos rfl]; exact ⟨_, rfl, rfl⟩
theorem ok_up {c m : MM} (h : Rel c m) (x : Int32) : Ok c m ((f_X6_up x c).map fun r => (r, c)) ((f_X7_up x m).map fun r => (r, m)) := by
  apply ok_pure h
  obtain ⟨n, L, A, P, I0, I1, hr⟩ := id h
  have H := env_of hr
  simp only [f_X6_up, f_X7_up, bd]
  rcases farm_cs H.1 H.2.1 H.2.2.1 x with ⟨a, ha, rfl, e1, e2⟩ | ⟨e1, e2⟩
  · obtain ⟨v, hv, d1, d2⟩ := upX H ha
    rw [e1, e2, if_neg one_ne, if_neg one_ne, d1, d2]
    exact ⟨_, rfl, rfl⟩
  · rw [e1, e2, if_pos rfl, if_pos rfl]; exact ⟨_, rfl, rfl⟩
/-- sets of farms: one that both take, or both refuse -/
theorem setA_dec : ∀ F, F < 10 → ∀ x, x < 512 → (nI x &&& (-(nI (2 ^ F))) = 0 ↔ x < 2 ^ F) := by decide +kernel
theorem i_dist (x y z : Int32) : x &&& (y ||| z) = (x &&& y) ||| (x &&& z) := by
  apply Int32.toBitVec_inj.1
  show x.toBitVec &&& (y.toBitVec ||| z.toBitVec) = (x.toBitVec &&& y.toBitVec) ||| (x.toBitVec &&& z.toBitVec)
  apply BitVec.eq_of_getLsbD_eq
  intro i hi
  simp only [BitVec.getLsbD_and, BitVec.getLsbD_or]
  cases x.toBitVec.getLsbD i <;> simp
theorem set_big (x : Int32) (h : ¬ ∃ k, k < 512 ∧ x = nI k) {F : Nat} (hF : F ≤ 9) : ¬ x &&& (-(nI (2 ^ F))) = 0 := by
  intro q
  apply h
  have e1 : x &&& (-(nI 512)) = 0 := by
    have key : ∀ F, F < 10 → (-(nI 512)) = (-(nI (2 ^ F))) &&& (-(nI 512)) := by decide +kernel
    rw [key F (by omega), ← Int32.and_assoc, q, Int32.zero_and]
  have e2 : x = x &&& nI 511 := by
    have k1 : (-(nI 512)) ||| nI 511 = -1 := by decide +kernel
    have k2 : x &&& ((-(nI 512)) ||| nI 511) = x := by rw [k1]; exact Int32.and_neg_one
    have k3 : x &&& ((-(nI 512)) ||| nI 511) = (x &&& (-(nI 512))) ||| (x &&& nI 511) := i_dist _ _ _
    rw [k2, e1, Int32.zero_or] at k3
    exact k3
  refine ⟨x.toBitVec.toNat % 2 ^ 9, Nat.mod_lt _ (by decide), ?_⟩
  rw [← pk_and x (m := nI 511) 9 (by decide)]
  exact e2
theorem set_cs {c m : MM} {L : LG} (hI : LI L) (hC : LC c L) (hR : LR m L) (x : Int32) : (∃ k, k < 2 ^ nF L ∧ k < 512 ∧ x = nI k ∧ f_X6_areFarms x c = 1 ∧ f_X7_isSet x m = 1) ∨ (f_X6_areFarms x c = 0 ∧ f_X7_isSet x m = 0) := by
  have hF := hI.1
  have hp := pow_512 hF
  have h1 : f_X6_areFarms x c = if (x &&& (-(nI (2 ^ nF L)))) = 0 then 1 else 0 := by
    unfold f_X6_areFarms; rw [hC.2.1, sl_dec _ (by omega)]
  have h2 : f_X7_isSet x m = f_X7_in (Int32.toInt64 x) 0 (Int32.toInt64 (nI (2 ^ nF L) - 1)) m := by
    simp only [f_X7_isSet, bd]; rw [hR.2.1, sl_dec _ (by omega)]
  rcases nI_cases x (n := 2 ^ nF L) (by omega) with ⟨k, hk, rfl⟩ | ⟨g1, g2⟩
  · refine Or.inl ⟨k, hk, by omega, rfl, ?_, ?_⟩
    · rw [h1, if_pos ((setA_dec _ (by omega) k (by omega)).mpr hk)]
    · rw [h2]; exact in_nI hk (by omega) m
  · refine Or.inr ⟨?_, ?_⟩
    · rw [h1, if_neg]
      by_cases hx : ∃ k, k < 512 ∧ x = nI k
      · obtain ⟨k, hk, rfl⟩ := hx
        intro q
        have q2 := (setA_dec _ (by omega) k hk).mp q
        rcases g1 with g1 | g1
        · exact nI_pos (by omega) g1
        · have := (nI_leI (by omega) (by omega)).mp g1
          omega
      · exact set_big x hx hF
    · rw [h2]; exact in_no g2 m
theorem and_lt {a b : Nat} (ha : a < 512) : a &&& b < 512 := Nat.lt_of_le_of_lt Nat.and_le_left ha
theorem prL {c m : MM} {L : LG} {D : Nat} (H : Env2 c m L D) {s : Nat} (hs : s < 512) : ∀ (n a set : Nat), nF L + 1 < n + a → a ≤ nF L + 1 → ∃ v z z', f_X6_privately_L15 (nI s) c n (nI set) (nI a) = some (v, z) ∧ f_X7_privately_L15 (nI s) m n (nI set) (nI a) = some (v, z') := by
  have hF9 := H.1.1
  intro n
  induction n with
  | zero =>
    intro a set h1 h2
    omega
  | succ n ih =>
    intro a set h2 h3
    simp only [f_X6_privately_L15, f_X7_privately_L15, bd]
    rw [H.2.1.2.1, H.2.2.1.2.1]
    by_cases h : nF L ≤ a
    · rw [if_pos (nI_le h (by omega)), if_pos (nI_le h (by omega))]
      exact ⟨_, _, _, rfl, rfl⟩
    · have ha : a < nF L := by omega
      obtain ⟨d1, d2⟩ := downX H ha
      have hlt := dw_lt H.1 D a a (Nat.le_refl a) ha
      rw [if_neg (nI_ge (by omega) (by omega)), if_neg (nI_ge (by omega) (by omega)), d1, d2]
      simp only [Option.bind_some]
      rw [nI_1, sl_dec _ (by omega), fa_or, z0, fa_or, Nat.or_zero]
      by_cases ht : (nI (dw L D a) &&& nI s) = nI 0
      · rw [if_pos ht, if_pos ht]
        exact ih (a + 1) _ (by omega) (by omega)
      · rw [if_neg ht, if_neg ht]
        exact ih (a + 1) _ (by omega) (by omega)
theorem ok_privately {c m : MM} (h : Rel c m) (x : Int32) : Ok c m ((f_X6_privately x c).map fun r => (r, c)) ((f_X7_privately x m).map fun r => (r, m)) := by
  apply ok_pure h
  obtain ⟨n, L, A, P, I0, I1, hr⟩ := id h
  have H := env_of hr
  have hF9 := H.1.1
  simp only [f_X6_privately, f_X7_privately, bd]
  rcases set_cs H.1 H.2.1 H.2.2.1 x with ⟨k, hk, hk2, rfl, e1, e2⟩ | ⟨e1, e2⟩
  · obtain ⟨v, z, z', q1, q2⟩ := prL H hk2 FU 1 0 (by unfold FU; omega) (by omega)
    rw [e1, e2, if_neg one_ne, if_neg one_ne, show f_X6_privately_L15 (nI k) c FU 0 1 = f_X6_privately_L15 (nI k) c FU (nI 0) (nI 1) from rfl, show f_X7_privately_L15 (nI k) m FU 0 1 = f_X7_privately_L15 (nI k) m FU (nI 0) (nI 1) from rfl, q1, q2]
    exact ⟨_, rfl, rfl⟩
  · rw [e1, e2, if_pos rfl, if_pos rfl]; exact ⟨_, rfl, rfl⟩
