/-! talks: said, moved, over -/
theorem plC {c : MM} {w i : Nat} (hw : aln (w + 1) = 48) (hi : i < 12) (t : T4) : ∃ c', f_X5_placeTalk w (nI i) (nI t.1) (nI t.2.1) (nI t.2.2.1) (nI t.2.2.2) c = c' ∧ (∀ r, r ≠ w + 1 → c' r = c r) ∧ (∀ k, (k < 4 * i ∨ 4 * i + 4 ≤ k) → c' (w + 1) k = c (w + 1) k) ∧ t4C c' (w + 1) (4 * i) t := by
  simp only [f_X5_placeTalk, bd]
  rw [z4, pk_mul, z0, z1, z2, z3, nI_add, nI_add, nI_add, nI_add, putC (n := 48) _ _ hw (by omega) (by decide), putC (n := 48) _ _ hw (by omega) (by decide), putC (n := 48) _ _ hw (by omega) (by decide), putC (n := 48) _ _ hw (by omega) (by decide)]
  refine ⟨_, rfl, fun r hr => by rw [up2_ro hr, up2_ro hr, up2_ro hr, up2_ro hr], fun k hk => by rw [up2_ne (by omega), up2_ne (by omega), up2_ne (by omega), up2_ne (by omega)], ?_, ?_, ?_, ?_⟩
  · rw [up2_ne (by omega), up2_ne (by omega), up2_ne (by omega)]; exact up2_eq _ _ _ _
  · rw [up2_ne (by omega), up2_ne (by omega), up2_eq]
  · rw [up2_ne (by omega), up2_eq]
  · rw [up2_eq]
theorem ofT {c : MM} {w i : Nat} (hw : aln (w + 1) = 48) (hi : i < 12) {t : T4} (h : t4C c (w + 1) (4 * i) t) : f_X5_ofTalk w (nI i) 0 c = nI t.1 ∧ f_X5_ofTalk w (nI i) 1 c = nI t.2.1 ∧ f_X5_ofTalk w (nI i) 2 c = nI t.2.2.1 ∧ f_X5_ofTalk w (nI i) 3 c = nI t.2.2.2 := by
  obtain ⟨h1, h2, h3, h4⟩ := h
  exact ⟨(ofTalk_k (j := 0) (y := 0) hw hi (by decide) rfl rfl).trans h1, (ofTalk_k (j := 1) (y := 1) hw hi (by decide) rfl rfl).trans h2, (ofTalk_k (j := 2) (y := 2) hw hi (by decide) rfl rfl).trans h3, (ofTalk_k (j := 3) (y := 3) hw hi (by decide) rfl rfl).trans h4⟩
theorem t4C.mv {c c' : MM} {r k : Nat} {t : T4} (h : t4C c r k t) (e : ∀ j, j < 4 → c' r (k + j) = c r (k + j)) : t4C c' r k t := by
  obtain ⟨h1, h2, h3, h4⟩ := h
  exact ⟨by have := e 0 (by decide); rw [Nat.add_zero] at this; rw [this]; exact h1, by rw [e 1 (by decide)]; exact h2, by rw [e 2 (by decide)]; exact h3, by rw [e 3 (by decide)]; exact h4⟩
theorem bdE {α β : Type} (x : α) (f : α → β) : bd x f = f x := rfl
theorem mvE {c : MM} {w : Nat} {x y a1 a2 a3 a4 : Int32} (o1 : f_X5_ofTalk w x 0 c = a1) (o2 : f_X5_ofTalk w x 1 c = a2) (o3 : f_X5_ofTalk w x 2 c = a3) (o4 : f_X5_ofTalk w x 3 c = a4) : f_X5_moveTalk w x y c = f_X5_placeTalk w y a1 a2 a3 a4 c := by
  have e0 : f_X5_moveTalk w x y c = bd (f_X5_ofTalk w x 0 c) fun x1 => bd (f_X5_ofTalk w x 1 c) fun x2 => bd (f_X5_ofTalk w x 2 c) fun x3 => bd (f_X5_ofTalk w x 3 c) fun x4 => bd (f_X5_placeTalk w y x1 x2 x3 x4 c) fun x5 => x5 := by
    delta f_X5_moveTalk
    exact Eq.refl _
  rw [e0, o1, bdE, o2, bdE, o3, bdE, o4, bdE, bdE]
theorem mvC {c : MM} {w i j : Nat} (hw : aln (w + 1) = 48) (hi : i < 12) (hj : j < 12) {t : T4} (h : t4C c (w + 1) (4 * i) t) : ∃ c', f_X5_moveTalk w (nI i) (nI j) c = c' ∧ (∀ r, r ≠ w + 1 → c' r = c r) ∧ (∀ k, (k < 4 * j ∨ 4 * j + 4 ≤ k) → c' (w + 1) k = c (w + 1) k) ∧ t4C c' (w + 1) (4 * j) t := by
  have o := ofT hw hi h
  have e := mvE (y := nI j) o.1 o.2.1 o.2.2.1 o.2.2.2
  obtain ⟨c', p1, p2, p3, p4⟩ := plC (c := c) hw hj t
  exact ⟨c', e.trans p1, p2, p3, p4⟩
theorem enC {w T : Nat} (hw : aln (w + 1) = 48) (hT : T ≤ 12) (l1 : Int32) (tl : List T4) (htl : tl.length = T) {i : Nat} : ∀ (n k : Nat) (c : MM), c w 5 = nI T → i < k → k ≤ T → T < n + k → (∀ j t, tl[j]? = some t → (j < i ∨ k ≤ j) → t4C c (w + 1) (4 * j) t) → (∀ j t, tl[j + 1]? = some t → i ≤ j → j + 1 < k → t4C c (w + 1) (4 * j) t) → ∃ c', f_X5_endTalk_L4 w l1 n (nI k) c = some (nI T, c') ∧ (∀ r, r ≠ w + 1 → c' r = c r) ∧ (∀ j t, tl[j]? = some t → j < i → t4C c' (w + 1) (4 * j) t) ∧ ∀ j t, tl[j + 1]? = some t → i ≤ j → t4C c' (w + 1) (4 * j) t := by
  intro n
  induction n with
  | zero => intro k c _ _ h1 h2; omega
  | succ n ih =>
    intro k c h5 h0 h1 h2 h3 h4
    simp only [f_X5_endTalk_L4, bd]
    rw [h5]
    by_cases h : T ≤ k
    · obtain rfl : k = T := by omega
      rw [if_pos (nI_le h (by omega))]
      refine ⟨c, rfl, fun _ _ => rfl, fun j t hj hji => h3 j t hj (Or.inl hji), fun j t hj hji => h4 j t hj hji ?_⟩
      have := (List.getElem?_eq_some_iff.mp hj).1
      omega
    · rw [if_neg (nI_ge (by omega) (by omega))]
      obtain ⟨t, ht⟩ : ∃ t, tl[k]? = some t := ⟨_, List.getElem?_eq_getElem (by omega)⟩
      have hk1 : nI k - 1 = nI (k - 1) := by
        obtain ⟨q, rfl⟩ : ∃ q, k = q + 1 := ⟨k - 1, by omega⟩
        rw [nI_pred]; rfl
      obtain ⟨c1, a1, a2, a3, a4⟩ := mvC (c := c) hw (show k < 12 by omega) (show k - 1 < 12 by omega) (h3 k t ht (Or.inr (Nat.le_refl k)))
      rw [hk1, a1, nI_1]
      obtain ⟨c', b1, b2, b3, b4⟩ := ih (k + 1) c1 (by rw [a2 w (by omega)]; exact h5) (by omega) (by omega) (by omega) (fun j t' hj hjk => (h3 j t' hj (by omega)).mv (fun q hq => a3 _ (by omega))) (fun j t' hj hji hjk => by
        by_cases hjk2 : j + 1 < k
        · exact (h4 j t' hj hji hjk2).mv (fun q hq => a3 _ (by omega))
        · have hjk3 : j + 1 = k := by omega
          rw [hjk3, ht] at hj
          cases hj
          rw [show j = k - 1 by omega]
          exact a4)
      exact ⟨c', b1, fun r hr => by rw [b2 r hr, a2 r hr], b3, b4⟩
theorem toR {T : Nat} (hT : T ≤ 11) (l1 : Int32) : ∀ (n k : Nat) (m : MM), m 149 32 = nI T → k ≤ T → T < n + k → ∃ m', f_X7_takeOff_L13 l1 n (nI k) m = some (nI T, m') ∧ (∀ r, r ≠ 149 → m' r = m r) ∧ (∀ j, (j < 33 + k ∨ 33 + T ≤ j) → m' 149 j = m 149 j) ∧ ∀ j, k ≤ j → j < T → m' 149 (33 + j) = m 149 (33 + j + 1) := by
  intro n
  induction n with
  | zero => intro k m _ h1 h2; omega
  | succ n ih =>
    intro k m h5 h1 h2
    simp only [f_X7_takeOff_L13, bd]
    rw [h5]
    by_cases h : T ≤ k
    · obtain rfl : k = T := by omega
      rw [if_pos (nI_le h (by omega))]
      exact ⟨m, rfl, fun _ _ => rfl, fun _ _ => rfl, fun j q1 q2 => by omega⟩
    · rw [if_neg (nI_ge (by omega) (by omega)), z33, nI_add, nI_1, nI_1, gdI (by omega) (by decide), gdI (by omega) (by decide), nI_clamp (by omega), nI_clamp (by omega)]
      obtain ⟨m', e1, e2, e3, e4⟩ := ih (k + 1) (up2 m 149 (33 + k) (m 149 (33 + k + 1))) (by rw [up2_ne (by omega)]; exact h5) (by omega) (by omega)
      refine ⟨m', e1, fun r hr => by rw [e2 r hr, up2_ro hr], fun j hj => by rw [e3 j (by omega), up2_ne (by omega)], fun j q1 q2 => ?_⟩
      by_cases hk : j = k
      · subst hk; rw [e3 _ (by omega), up2_eq]
      · rw [e4 j (by omega) q2, up2_ne (by omega)]
/-- a talk taken off the reference's row -/
theorem toX {m : MM} {tl : List T4} {i : Nat} (hlen : tl.length ≤ 12) (hi : i < tl.length) (h32 : m 149 32 = nI tl.length) (ht : ∀ j t, tl[j]? = some t → m 149 (33 + j) = nI (pkT t)) : ∃ m', f_X7_takeOff (nI i) m = some m' ∧ (∀ r, r ≠ 149 → m' r = m r) ∧ (∀ j, j ≠ 32 → (j < 33 ∨ 45 ≤ j) → m' 149 j = m 149 j) ∧ m' 149 32 = nI (tl.eraseIdx i).length ∧ ∀ j t, (tl.eraseIdx i)[j]? = some t → m' 149 (33 + j) = nI (pkT t) := by
  have hp : nI tl.length - 1 = nI (tl.length - 1) := by
    obtain ⟨q, hq⟩ : ∃ q, tl.length = q + 1 := ⟨tl.length - 1, by omega⟩
    rw [hq, nI_pred]; rfl
  have hle : (tl.eraseIdx i).length = tl.length - 1 := List.length_eraseIdx_of_lt hi
  obtain ⟨m1, e1, e2, e3, e4⟩ := toR (T := tl.length - 1) (by omega) (nI i) FU i (up2 m 149 32 (nI (tl.length - 1))) (up2_eq _ _ _ _) (by omega) (by unfold FU; omega)
  have r32 : m1 149 32 = nI (tl.length - 1) := by rw [e3 32 (by omega), up2_eq]
  simp only [f_X7_takeOff, bd]
  rw [h32, hp, e1, Option.bind_some]
  show ∃ m', gd (¬ ((33 + m1 149 32) < 0 ∨ 66 ≤ Int32.toNatClampNeg (33 + m1 149 32))) (some (up2 m1 149 (Int32.toNatClampNeg (33 + m1 149 32)) 0)) = some m' ∧ _
  rw [r32, z33, nI_add, gdI (by omega) (by decide), nI_clamp (by omega)]
  refine ⟨_, rfl, fun r hr => by rw [up2_ro hr, e2 r hr, up2_ro hr], fun j hj1 hj2 => by rw [up2_ne (by omega), e3 j (by omega), up2_ne (by omega)], by rw [up2_ne (by omega), r32, hle], fun j t hj => ?_⟩
  have hjl := (List.getElem?_eq_some_iff.mp hj).1
  rw [List.getElem?_eraseIdx] at hj
  rw [up2_ne (by omega)]
  by_cases hji : j < i
  · rw [if_pos hji] at hj
    rw [e3 _ (by omega), up2_ne (by omega)]
    exact ht j t hj
  · rw [if_neg hji] at hj
    rw [e4 j (by omega) (by omega), up2_ne (by omega)]
    exact ht (j + 1) t hj
theorem ok_hush {c m : MM} (h : Rel c m) (x : Int32) : Ok c m (f_X6_hush x c) (f_X7_hush x m) := by
  obtain ⟨n, L, A, P, I0, I1, hr⟩ := id h
  obtain ⟨⟨⟨⟨_, _, _, _, _, s6, _⟩, _⟩, ⟨⟨_, _, _, _, _, r6, _⟩, _⟩, hW⟩, _⟩ := hr.2.2.2.1
  have hT := hW.2.2.2.2.1.1
  simp only [f_X6_hush, f_X7_hush, bd]
  rcases talk_cs hT s6 r6 x with ⟨i, hi, rfl, g1, g2⟩ | ⟨g1, g2⟩
  · rw [g1, g2, if_neg one_ne, if_neg one_ne]
    obtain ⟨c1, m1, P1, q1, q2, q3⟩ := remX hr
    rw [q1, q2, Option.bind_some, Option.bind_some]
    obtain ⟨⟨⟨⟨s1, s2, s3, s4, s5, s6, s7⟩, hct, ⟨E, hE, s8, hl⟩, ha1, ha2, ha3⟩, ⟨⟨r1, r2, r3, r4, r5, r6, r7⟩, hrt, hrl, ra1, ra2, ra3⟩, hiw⟩, hh⟩ := q3.2.2.2.1
    have hI := q3.2.2.1.1
    simp only [Nat.zero_add] at r1 r2 r3 r4 r5 r6 r7
    obtain ⟨c2, b1, b2, b3, b4⟩ := enC (w := 24) rfl hT (nI i) (tls A) rfl (i := i) FU (i + 1) c1 s6 (by omega) (by omega) (by unfold FU; omega) (fun j t hj _ => hct j t hj) (fun j t hj h1 h2 => by omega)
    obtain ⟨m2, d1, d2, d3, d4, d5⟩ := toX hT hi r6 (fun j t hj => by have := hrt j t hj; simpa using this)
    have hle : ((tls A).eraseIdx i).length = (tls A).length - 1 := List.length_eraseIdx_of_lt hi
    have hp : nI (tls A).length - 1 = nI ((tls A).length - 1) := by
      obtain ⟨q, hq⟩ : ∃ q, (tls A).length = q + 1 := ⟨(tls A).length - 1, by omega⟩
      rw [hq, nI_pred]; rfl
    have hen : f_X5_endTalk 24 (nI i) c1 = some (up2 c2 24 5 (nI ((tls A).length - 1))) := by
      simp only [f_X5_endTalk, bd]
      rw [nI_1, b1, Option.bind_some]
      show some (up2 c2 24 5 (c2 24 5 - 1)) = _
      rw [b2 24 (by decide), s6, hp]
    rw [hen, d1, Option.bind_some, Option.bind_some, up2_eq, d4, hle]
    refine ⟨_, _, _, rfl, rfl, n, L, (A.1, (tls A).eraseIdx i, A.2.2), P1, I0, I1, ?_⟩
    refine q3.now (fun r w1 w2 => by rw [up2_ro (by omega), b2 r (by omega)]) (fun r w1 w2 => d2 r w1) ⟨⟨?_, ?_, ⟨E, hE, ?_, ?_⟩, ?_, ?_, ?_⟩, ⟨?_, ?_, ?_, ?_, ?_, ?_⟩, ?_⟩ hh
    · refine ⟨?_, ?_, ?_, ?_, ?_, ?_, ?_⟩
      · rw [up2_ne (by omega), b2 24 (by decide)]; exact s1
      · rw [up2_ne (by omega), b2 24 (by decide)]; exact s2
      · rw [up2_ne (by omega), b2 24 (by decide)]; exact s3
      · rw [up2_ne (by omega), b2 24 (by decide)]; exact s4
      · rw [up2_ne (by omega), b2 24 (by decide)]; exact s5
      · rw [up2_eq]; show _ = nI ((tls A).eraseIdx i).length; rw [hle]
      · rw [up2_ne (by omega), b2 24 (by decide)]; exact s7
    · intro j t hj
      have hj : ((tls A).eraseIdx i)[j]? = some t := hj
      rw [List.getElem?_eraseIdx] at hj
      unfold t4C
      rw [up2_ro (by decide)]
      by_cases hji : j < i
      · rw [if_pos hji] at hj; exact b3 j t hj hji
      · rw [if_neg hji] at hj; exact b4 j t hj (by omega)
    · rw [up2_ne (by omega), b2 24 (by decide)]; exact s8
    · intro j t hj; unfold t4C; rw [up2_ro (by decide), b2 _ (by decide)]; exact hl j t hj
    · intro a ha; rw [up2_ro (by decide), b2 _ (by decide)]; exact ha1 a ha
    · intro a ha; rw [up2_ro (by decide), b2 _ (by decide)]; exact ha2 a ha
    · intro a ha; rw [up2_ro (by decide), b2 _ (by decide)]; exact ha3 a ha
    · have hf := hI.1
      refine ⟨?_, ?_, ?_, ?_, ?_, ?_, ?_⟩
      · rw [d3 _ (by omega) (by omega)]; exact r1
      · rw [d3 _ (by omega) (by omega)]; exact r2
      · rw [d3 _ (by omega) (by omega)]; exact r3
      · rw [d3 _ (by omega) (by omega)]; exact r4
      · rw [d3 _ (by omega) (by omega)]; exact r5
      · exact d4
      · rw [d3 _ (by omega) (by omega)]; exact r7
    · intro j t hj; rw [Nat.zero_add]; exact d5 j t hj
    · intro j t hj; rw [d3 _ (by omega) (by omega)]; exact hrl j t hj
    · intro a ha; have hf := hI.1; rw [d3 _ (by omega) (by omega)]; exact ra1 a ha
    · intro a ha; rw [d3 _ (by omega) (by omega)]; exact ra2 a ha
    · intro a ha; rw [d3 _ (by omega) (by omega)]; exact ra3 a ha
    · obtain ⟨i1, i2, i3, i4, i5, i6⟩ := hiw
      exact ⟨i1, i2, i3, i4, ⟨by show ((tls A).eraseIdx i).length ≤ 12; omega, fun t ht => i5.2 t (List.mem_of_mem_eraseIdx ht)⟩, i6⟩
  · rw [g1, g2, if_pos rfl, if_pos rfl]
    exact ⟨_, _, _, rfl, rfl, h⟩
