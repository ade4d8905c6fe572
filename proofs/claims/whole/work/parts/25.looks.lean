/-! what is looked at -/
theorem ok_pure {c m : MM} (h : Rel c m) {fx fr : Option Int32} (e : ∃ v, fx = some v ∧ fr = some v) : Ok c m (fx.map fun r => (r, c)) (fr.map fun r => (r, m)) := by
  obtain ⟨v, rfl, rfl⟩ := e
  exact ⟨v, c, m, rfl, rfl, h⟩
theorem gdJ {α : Type} {n N : Nat} {y : Int32} {x : Option α} (e : y = nI n) (h : n < N) (hN : N < 2 ^ 31) : gd (¬ (y < 0 ∨ N ≤ y.toNatClampNeg)) x = x := by rw [e]; exact gdI h hN
theorem clJ {n : Nat} {y : Int32} (e : y = nI n) (h : n < 2 ^ 31) : y.toNatClampNeg = n := by rw [e]; exact nI_clamp h
theorem ok_farm {c m : MM} (h : Rel c m) (x y : Int32) : Ok c m ((some (f_X6_farm x y c)).map fun r => (r, c)) ((f_X7_farm x y m).map fun r => (r, m)) := by
  apply ok_pure h
  obtain ⟨n, L, A, P, I0, I1, h1, h2, ⟨hI, hC, hR⟩, ⟨h4, h4b⟩, h5, h6, h7, h8, h9⟩ := id h
  obtain ⟨⟨hs, ht, hl, ha1, ha2, ha3⟩, ⟨rs, rt, rl, ra1, ra2, ra3⟩, hW⟩ := h4
  have hF := hI.1
  simp only [f_X6_farm, f_X7_farm, bd]
  rcases farm_cs hI hC hR x with ⟨a, ha, rfl, e1, e2⟩ | ⟨e1, e2⟩
  · have ha9 : a < 9 := by omega
    obtain ⟨q1, q2, q3⟩ := hC.2.2 a ha
    obtain ⟨s1, s2, s3⟩ := hR.2.2.2 a ha
    have u1 := ha1 a ha
    have u2 := ha2 a ha
    have u3 := ha3 a ha9
    have v1 := ra1 a ha
    have v2 := ra2 a ha9
    have v3 := ra3 a ha9
    simp only [Nat.zero_add] at v1 v2 v3
    have k14 : (14 : Int32) + nI a = nI (14 + a) := by rw [z14, nI_add]
    have k23 : (23 : Int32) + nI a = nI (23 + a) := by rw [z23, nI_add]
    have k0 : (0 : Int32) + nI a = nI a := by rw [z0, nI_add, Nat.zero_add]
    rw [e1, e2, if_neg one_ne, if_neg one_ne]
    rw [cellC (n := 9) c rfl ha9 (by decide), cellC (n := 9) c rfl ha9 (by decide), cellC (n := 9) c rfl ha9 (by decide), cellC (n := 9) c rfl ha9 (by decide), cellC (n := 9) c rfl ha9 (by decide), cellC (n := 9) c rfl ha9 (by decide)]
    rw [gdI ha9 (by decide), gdI ha9 (by decide), gdI ha9 (by decide), gdJ k0 (by omega) (by decide), gdJ k14 (by omega) (by decide), gdJ k23 (by omega) (by decide), clJ k14 (by omega), clJ k23 (by omega), clJ k0 (by omega), nI_clamp (by omega), q1, q2, q3, s1, s2, s3, u1, u2, u3, v1, v2, v3]
    have z : nI a = 0 ↔ a = 0 := nI_eq (b := 0) (by omega) (by decide)
    by_cases y0 : y = 0
    · rw [if_pos y0, if_pos y0]
      by_cases a0 : nI a = 0
      · rw [if_pos a0, if_pos a0]; exact ⟨_, rfl, rfl⟩
      · rw [if_neg a0, if_neg a0]; exact ⟨_, rfl, rfl⟩
    rw [if_neg y0, if_neg y0]
    by_cases y1 : y = 1
    · rw [if_pos y1, if_pos y1]
      by_cases a0 : nI a = 0
      · rw [if_pos a0]
        have := z.mp a0
        subst this
        rw [hI.2.2.2.2.1.2.1]; exact ⟨_, rfl, rfl⟩
      · rw [if_neg a0]; exact ⟨_, rfl, rfl⟩
    rw [if_neg y1, if_neg y1]
    by_cases y2 : y = 2
    · rw [if_pos y2, if_pos y2]
      by_cases a0 : nI a = 0
      · rw [if_pos a0]
        have := z.mp a0
        subst this
        rw [hW.2.2.2.2.2.2.2.1]; exact ⟨_, rfl, rfl⟩
      · rw [if_neg a0]; exact ⟨_, rfl, rfl⟩
    rw [if_neg y2, if_neg y2]
    by_cases y3 : y = 3
    · rw [if_pos y3, if_pos y3]
      by_cases a0 : nI a = 0
      · rw [if_pos a0]
        have := z.mp a0
        subst this
        rw [hI.2.2.2.2.1.2.2]; exact ⟨_, rfl, rfl⟩
      · rw [if_neg a0]; exact ⟨_, rfl, rfl⟩
    rw [if_neg y3, if_neg y3]
    by_cases y4 : y = 4
    · rw [if_pos y4, if_pos y4]; exact ⟨_, rfl, rfl⟩
    rw [if_neg y4, if_neg y4]
    by_cases y5 : y = 5
    · rw [if_pos y5, if_pos y5]; exact ⟨_, rfl, rfl⟩
    rw [if_neg y5, if_neg y5]
    exact ⟨_, rfl, rfl⟩
  · rw [e1, e2, if_pos rfl, if_pos rfl]
    exact ⟨_, rfl, rfl⟩
/-- what is packed, unpacked -/
theorem pkT_un {t : T4} (h : t.1 < 10 ∧ t.2.1 < 10 ∧ t.2.2.1 ≤ 9300 ∧ t.2.2.2 < 10) : pkT t / 1000 = t.2.2.1 ∧ pkT t / 100 % 10 = t.2.1 ∧ pkT t / 10 % 10 = t.1 ∧ pkT t % 10 = t.2.2.2 ∧ pkT t < 10000000 := by
  unfold pkT
  omega
theorem pl_un {t : T4} (h : t.1 < 10 ∧ t.2.1 < 10 ∧ t.2.2.1 ≤ 9300 ∧ t.2.2.2 < 10) : pkL t / 1000 = t.2.2.1 ∧ pkL t / 100 % 10 = t.1 ∧ pkL t / 10 % 10 = t.2.1 ∧ pkL t % 10 = t.2.2.2 ∧ pkL t < 10000000 := by
  unfold pkL
  omega
theorem rm_k {a : Nat} {d : Int32} (k : Nat) (hd : d = nI k) (ha : a < 2 ^ 31) (h0 : 0 < k) (hk : k < 2 ^ 31) : rm (nI a) d = nI (a % k) := by rw [hd]; exact rm_nI ha h0 hk
theorem dv_k {a : Nat} {d : Int32} (k : Nat) (hd : d = nI k) (ha : a < 2 ^ 31) (h0 : 0 < k) (hk : k < 2 ^ 31) : nI a / d = nI (a / k) := by rw [hd]; exact dv_nI ha h0 hk
/-- the talk at i of the reference's row -/
theorem talkR {m : MM} {i : Nat} {t : T4} (hm : m 149 (33 + i) = nI (pkT t)) (hi : i < 12) (h : t.1 < 10 ∧ t.2.1 < 10 ∧ t.2.2.1 ≤ 9300 ∧ t.2.2.2 < 10) :
    f_X7_wordOf (nI i) m = some (nI t.1) ∧ f_X7_goesFrom (nI i) m = some (nI t.2.1) ∧ f_X7_toGo (nI i) m = some (nI t.2.2.1) ∧ f_X7_saidAt (nI i) m = some (nI t.2.2.2) := by
  have k33 : (33 : Int32) + nI i = nI (33 + i) := by rw [z33, nI_add]
  obtain ⟨p1, p2, p3, p4, p5⟩ := pkT_un h
  unfold f_X7_wordOf f_X7_goesFrom f_X7_toGo f_X7_saidAt
  rw [gdJ k33 (by omega) (by decide), gdJ k33 (by omega) (by decide), gdJ k33 (by omega) (by decide), gdJ k33 (by omega) (by decide), clJ k33 (by omega), hm]
  rw [z10, z100, z1000, dv_nI (by omega) (by decide) (by decide), dv_nI (by omega) (by decide) (by decide), dv_nI (by omega) (by decide) (by decide), rm_nI (by omega) (by decide) (by decide), rm_nI (by omega) (by decide) (by decide), rm_nI (by omega) (by decide) (by decide), p1, p2, p3, p4]
  exact ⟨rfl, rfl, rfl, rfl⟩
theorem tk_small {L : LG} (hI : LI L) {t : T4} (h : tkI L t) : t.1 < 10 ∧ t.2.1 < 10 ∧ t.2.2.1 ≤ 9300 ∧ t.2.2.2 < 10 := by
  obtain ⟨h1, h2, h3, h4⟩ := h
  have a1 := hI.1
  have a2 := hI.2.1
  omega
theorem ofTalk_k {c : MM} {w i j n : Nat} (hw : aln (w + 1) = 48) (hi : i < 12) (hj : j < 4) {y : Int32} (hy : y = nI j) (hn : n = 4 * i + j) : f_X5_ofTalk w (nI i) y c = c (w + 1) n := by
  subst hy; subst hn
  simp only [f_X5_ofTalk, bd]
  rw [z4, pk_mul, nI_add, cellC (n := 48) c hw (by omega) (by decide)]
theorem talk_cs {c m : MM} {T : Nat} (hT : T ≤ 12) (e1 : c 24 5 = nI T) (e2 : m 149 32 = nI T) (x : Int32) : (∃ i, i < T ∧ x = nI i ∧ f_X6_isTalk x c = 1 ∧ f_X7_in (Int32.toInt64 x) 0 (Int32.toInt64 ((m 149 32) - 1)) m = 1) ∨ (f_X6_isTalk x c = 0 ∧ f_X7_in (Int32.toInt64 x) 0 (Int32.toInt64 ((m 149 32) - 1)) m = 0) := by
  rw [e2]
  unfold f_X6_isTalk
  rw [e1]
  rcases nI_cases x (n := T) (by omega) with ⟨i, hi, rfl⟩ | ⟨g1, g2⟩
  · exact Or.inl ⟨i, hi, rfl, X6_yes hi (by omega), in_nI hi (by omega) m⟩
  · exact Or.inr ⟨X6_no g1, in_no g2 m⟩
theorem ok_talk {c m : MM} (h : Rel c m) (x y : Int32) : Ok c m ((some (f_X6_talk x y c)).map fun r => (r, c)) ((f_X7_talk x y m).map fun r => (r, m)) := by
  apply ok_pure h
  obtain ⟨n, L, A, P, I0, I1, h1, h2, ⟨hI, hC, hR⟩, ⟨h4, h4b⟩, h5, h6, h7, h8, h9⟩ := id h
  obtain ⟨⟨hs, ht, hl, ha1, ha2, ha3⟩, ⟨rs, rt, rl, ra1, ra2, ra3⟩, hW⟩ := h4
  have hT := hW.2.2.2.2.1.1
  have eT : c 24 5 = nI (tls A).length := hs.2.2.2.2.2.1
  have eR : m 149 32 = nI (tls A).length := rs.2.2.2.2.2.1
  simp only [f_X6_talk, f_X7_talk, bd]
  rcases talk_cs hT eT eR x with ⟨i, hi, rfl, g1, g2⟩ | ⟨g1, g2⟩
  · rw [g1, g2, if_neg one_ne, if_neg one_ne]
    obtain ⟨t, htl⟩ : ∃ t, (tls A)[i]? = some t := ⟨_, List.getElem?_eq_getElem hi⟩
    have hti := hW.2.2.2.2.1.2 t (List.mem_of_getElem? htl)
    obtain ⟨c1, c2, c3, c4⟩ := ht i t htl
    have hm := rt i t htl
    simp only [Nat.zero_add] at hm
    obtain ⟨r1, r2, r3, r4⟩ := talkR hm (by omega) (tk_small hI hti)
    rw [r1, r2, r3, r4]
    by_cases y0 : y = 0
    · subst y0
      rw [if_neg (by decide), if_pos (by decide), if_pos rfl, ofTalk_k (j := 0) (y := 0) rfl (by omega) (by decide) rfl rfl]
      exact ⟨_, congrArg some c1, rfl⟩
    rw [if_neg y0]
    by_cases y1 : y = 1
    · subst y1
      rw [if_neg (by decide), if_pos (by decide), if_pos rfl, ofTalk_k (j := 1) (y := 1) rfl (by omega) (by decide) rfl rfl]
      exact ⟨_, congrArg some c2, rfl⟩
    rw [if_neg y1]
    by_cases y2 : y = 2
    · subst y2
      rw [if_neg (by decide), if_pos (by decide), if_pos rfl, ofTalk_k (j := 2) (y := 2) rfl (by omega) (by decide) rfl rfl]
      exact ⟨_, congrArg some c3, rfl⟩
    rw [if_neg y2]
    by_cases y3 : y = 3
    · subst y3
      rw [if_neg (by decide), if_pos (by decide), if_pos rfl, ofTalk_k (j := 3) (y := 3) rfl (by omega) (by decide) rfl rfl]
      exact ⟨_, congrArg some c4, rfl⟩
    rw [if_neg y3]
    by_cases yn : y < 0
    · rw [if_pos yn]; exact ⟨_, rfl, rfl⟩
    · rw [if_neg yn, if_neg (fun q => by
        obtain ⟨j, hj, rfl⟩ := nI_of yn
        have q2 := (nI_ltI (b := 4) hj (by decide)).mp q
        rcases (show j = 0 ∨ j = 1 ∨ j = 2 ∨ j = 3 by omega) with rfl | rfl | rfl | rfl
        · exact y0 rfl
        · exact y1 rfl
        · exact y2 rfl
        · exact y3 rfl)]
      exact ⟨_, rfl, rfl⟩
  · rw [g1, g2, if_pos rfl, if_pos rfl]
    exact ⟨_, rfl, rfl⟩
