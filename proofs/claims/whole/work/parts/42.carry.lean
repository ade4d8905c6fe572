/-! an hour's talks, one by one, on both sides -/
theorem IX.hear {L : LG} {A : WS} (h : IX L A) (hh : hrs A ≤ 9300) (hF : nF L ≤ 9) (hW : nW L ≤ 9) {to x sd : Nat} (hto : to < 9) (hx : x < nW L) (hsd : sd ≤ 8) : IX L (hearA A to x sd) := by
  obtain ⟨i1, i2, i3, i4, i5, i6, i7, i8, i9⟩ := h
  refine ⟨i1, i2, i3, i4, ⟨?_, ?_⟩, i6, i7, ?_, ?_⟩
  · show (((to, x, hrs A, sd) :: lgs A).take 20).length ≤ 20
    rw [List.length_take]; omega
  · intro t ht
    have ht : t ∈ ((to, x, hrs A, sd) :: lgs A).take 20 := ht
    rcases List.mem_cons.mp (List.mem_of_mem_take ht) with h | h
    · rw [h]; exact ⟨by show to ≤ 8; omega, by show x ≤ 8; omega, by show hrs A ≤ 9300; omega, hsd⟩
    · exact i5.2 t h
  · intro a ha
    show (if a = to then x + 1 else lat A a) ≤ nW L
    split
    · omega
    · exact i8 a ha
  · intro a ha
    show (if a = to then min 999999 (hrd A a + 1) else hrd A a) ≤ 999999
    split
    · omega
    · exact i9 a ha
/-- both sides amid an hour: done talks, talks to come, what has been heard -/
def Mid (c m : MM) (w : Nat) (L : LG) (A : WS) (T i : Nat) (dn rs : List T4) (H U : Nat) : Prop :=
  CX c w (nF L) A ∧ RX m (nF L) A ∧ IX L A ∧ c w 5 = nI T ∧ T = i + rs.length ∧ dn.length ≤ i ∧ T ≤ 12 ∧ (∀ t ∈ dn, tkI L t) ∧ (∀ t ∈ rs, tkI L t) ∧
  (∀ j t, dn[j]? = some t → t4C c (w + 1) (4 * j) t) ∧ (∀ j t, rs[j]? = some t → t4C c (w + 1) (4 * (i + j)) t) ∧
  m 149 32 = nI (dn.length + rs.length) ∧ (∀ j t, (dn ++ rs)[j]? = some t → m 149 (33 + j) = nI (pkT t)) ∧
  H < 512 ∧ U < 512 ∧ HU m H U A ∧ ∀ a, a < 9 → H.testBit a = true → 1 ≤ lat A a
theorem getI {m : MM} {i k : Nat} {v : Int32} (h : m 149 (33 + i) = v) : m 149 (33 + i) = v := h
theorem pkN (a b d e : Nat) (μ : MM) : f_X7_packed (nI d) (nI b) (nI a) (nI e) μ = nI (pkT (a, b, d, e)) := by
  unfold f_X7_packed pkT
  rw [z1000, z100, z10, pk_mul, pk_mul, pk_mul, nI_add, nI_add, nI_add]
theorem app_get {dn rs : List T4} {t : T4} : (dn ++ t :: rs)[dn.length]? = some t := by rw [List.getElem?_append_right (Nat.le_refl _), Nat.sub_self]; rfl
theorem app_erase (dn rs : List T4) (t : T4) : (dn ++ t :: rs).eraseIdx dn.length = dn ++ rs := by
  rw [List.eraseIdx_append_of_length_le (Nat.le_refl _), Nat.sub_self]; rfl
/-- a talk that stays where the reference has put it -/
theorem setR {m m' : MM} {dn rs : List T4} {t t' : T4} (ht : ∀ j u, (dn ++ t :: rs)[j]? = some u → m 149 (33 + j) = nI (pkT u)) (hl : dn.length + rs.length ≤ 11) (e : ∀ j, j ≠ dn.length → j ≤ 11 → m' 149 (33 + j) = m 149 (33 + j)) (e2 : m' 149 (33 + dn.length) = nI (pkT t')) : ∀ j u, ((dn ++ [t']) ++ rs)[j]? = some u → m' 149 (33 + j) = nI (pkT u) := by
  intro j u hj
  rw [List.append_assoc, List.singleton_append] at hj
  by_cases hjd : j = dn.length
  · subst hjd
    rw [app_get] at hj
    cases hj
    exact e2
  · have hj12 := (List.getElem?_eq_some_iff.mp hj).1
    simp at hj12
    rw [e j hjd (by omega)]
    apply ht j u
    rw [← hj]
    by_cases hlt : j < dn.length
    · rw [List.getElem?_append_left hlt, List.getElem?_append_left hlt]
    · rw [List.getElem?_append_right (by omega), List.getElem?_append_right (by omega)]
      obtain ⟨q, hq⟩ : ∃ q, j - dn.length = q + 1 := ⟨j - dn.length - 1, by omega⟩
      rw [hq]; rfl
theorem CX.eq {c c' : MM} {w F : Nat} {A : WS} (h : CX c w F A) (h0 : ∀ k, k ≠ 5 → c' w k = c w k) (h2 : c' (w + 2) = c (w + 2)) (h3 : c' (w + 3) = c (w + 3)) (h4 : c' (w + 4) = c (w + 4)) (h5 : c' (w + 5) = c (w + 5)) : CX c' w F A := by
  obtain ⟨⟨s1, s2, s3, s4, s5, s7⟩, ⟨E, hE, s8, hl⟩, a1, a2, a3⟩ := h
  refine ⟨⟨by rw [h0 0 (by decide)]; exact s1, by rw [h0 1 (by decide)]; exact s2, by rw [h0 2 (by decide)]; exact s3, by rw [h0 3 (by decide)]; exact s4, by rw [h0 4 (by decide)]; exact s5, by rw [h0 6 (by decide)]; exact s7⟩, ⟨E, hE, by rw [h0 7 (by decide)]; exact s8, fun i t hi => ?_⟩, fun a ha => by rw [h3]; exact a1 a ha, fun a ha => by rw [h4]; exact a2 a ha, fun a ha => by rw [h5]; exact a3 a ha⟩
  unfold t4C
  rw [h2]; exact hl i t hi
theorem RX.eq {m m' : MM} {F : Nat} {A : WS} (h : RX m F A) (hF : F ≤ 9) (hl : (lgs A).length ≤ 20) (e : ∀ k, k < 66 → (k < 32 ∨ 45 ≤ k) → m' 149 k = m 149 k) : RX m' F A := by
  obtain ⟨⟨s1, s2, s3, s4, s5, s7⟩, h3, h4, h5, h6⟩ := h
  refine ⟨⟨by rw [e 12 (by decide) (by decide)]; exact s1, by rw [e 10 (by decide) (by decide)]; exact s2, by rw [e 11 (by decide) (by decide)]; exact s3, by rw [e 9 (by decide) (by decide)]; exact s4, by rw [e 13 (by decide) (by decide)]; exact s5, by rw [e 45 (by decide) (by decide)]; exact s7⟩, fun i t hi => ?_, fun a ha => by rw [e _ (by omega) (by omega)]; exact h4 a ha, fun a ha => by rw [e _ (by omega) (by omega)]; exact h5 a ha, fun a ha => by rw [e _ (by omega) (by omega)]; exact h6 a ha⟩
  have := (List.getElem?_eq_some_iff.mp hi).1
  rw [e _ (by omega) (by omega)]; exact h3 i t hi
/-- the reference's one talk: it stays -/
theorem goStay {m : MM} {L : LG} {A : WS} (hI : LI L) (hX : RX m (nF L) A) (hIX : IX L A) {i : Nat} (hi : i < 12) {t : T4} (ht : tkI L t) (hm : m 149 (33 + i) = nI (pkT t)) (hfl : flw A < t.2.2.1) : f_X7_go (nI i) m = some (1, up2 m 149 (33 + i) (nI (pkT (t.1, t.2.1, t.2.2.1 - flw A, t.2.2.2)))) := by
  obtain ⟨r1, r2, r3, r4⟩ := talkR hm hi (tk_small hI ht)
  have hfl9 := hIX.1
  have h36 := ht.2.2.1.2
  unfold f_X7_go
  rw [r3, Option.bind_some, hX.1.2.1, pk_sub (by omega), bdE, r2, Option.bind_some, if_neg (nI_nle (by omega) (by omega)), r1, Option.bind_some, r4, Option.bind_some, pkN, bdE, show (33 : Int32) + nI i = nI (33 + i) by rw [z33, nI_add], gdI (by omega) (by decide), nI_clamp (by omega), bdE]
theorem subNeg {a b : Nat} (ha : a ≤ 100) (hb : b ≤ 100) (h : a ≤ b) : nI a - nI b ≤ 0 ∧ ¬ 0 < nI a - nI b := by
  have e := pk_sub_toInt (a := a) (b := b) (by omega) (by omega)
  have t0 : Int32.toInt 0 = 0 := by decide
  simp only [Int32.le_iff_toInt_le, Int32.lt_iff_toInt_lt, e, t0]
  omega
/-- the reference's one talk: it comes to T -/
theorem goCome {m : MM} {L : LG} {A : WS} {H U : Nat} (hI : LI L) (hR : LR m L) (hX : RX m (nF L) A) (hIX : IX L A) (hh : hrs A ≤ 9300) (hHU : HU m H U A) (hHl : H < 512) (hlat : ∀ a, a < 9 → H.testBit a = true → 1 ≤ lat A a) {i : Nat} (hi : i < 12) {t : T4} (ht : tkI L t) (hm : m 149 (33 + i) = nI (pkT t)) (hfl : t.2.2.1 ≤ flw A) : ∃ m', f_X7_go (nI i) m = some (if nx L t.2.1 = 0 ∨ (dmm A).testBit (nx L t.2.1) = true then 0 else 1, up2 m' 149 (33 + i) (nI (pkT (gf L (flw A) (srt A) t.2.1 t.1, nx L t.2.1, 4 * fa L (nx L t.2.1), t.2.2.2)))) ∧ RX m' (nF L) (hearA A (nx L t.2.1) (gf L (flw A) (srt A) t.2.1 t.1) t.2.2.2) ∧ HU m' (H ||| 2 ^ nx L t.2.1) (unA H U A (nx L t.2.1) (gf L (flw A) (srt A) t.2.1 t.1)) (hearA A (nx L t.2.1) (gf L (flw A) (srt A) t.2.1 t.1) t.2.2.2) ∧ (∀ r, r ≠ 149 → r ≠ 155 → r ≠ 156 → m' r = m r) ∧ ∀ j, 32 ≤ j → j ≤ 44 → m' 149 j = m 149 j := by
  obtain ⟨r1, r2, r3, r4⟩ := talkR hm hi (tk_small hI ht)
  have hF9 := hI.1
  have hW9 := hI.2.1
  have hp := pow_512 hF9
  have hfl9 := hIX.1
  have h36 := ht.2.2.1.2
  have hfr := ht.2.1
  have hsd := ht.2.2.2
  have hxl := (hI.2.2.2.2.2 t.2.1 hfr.1 hfr.2).1
  have hg := gf_lt (fl := flw A) (so := srt A) hI hfr.1 hfr.2 ht.1
  obtain ⟨m', e1, e2, e3, e4, e5⟩ := hearR (to := nx L t.2.1) (x := gf L (flw A) (srt A) t.2.1 t.1) (sd := t.2.2.2) hI hX hIX hh hHU hHl hlat (by omega) hg (by omega)
  have hm' : m' 149 (33 + i) = nI (pkT t) := by rw [e5 _ (by omega) (by omega)]; exact hm
  have q4 := (talkR hm' hi (tk_small hI ht)).2.2.2
  have hfa : m' 146 (nx L t.2.1) = nI (fa L (nx L t.2.1)) := by rw [e4 146 (by decide) (by decide) (by decide)]; exact (hR.2.2.2 _ (by omega)).2.1
  have hov := gfR (so := srt A) hI hR hfl9 hX.1.2.1 (fun a ha => by have := hX.2.2.1 a ha; rwa [Nat.zero_add] at this) hIX.2.2.2.2.2.1 hfr.1 hfr.2 ht.1
  refine ⟨m', ?_, e2, e3, e4, e5⟩
  have hdm : up2 m' 149 (33 + i) (nI (pkT (gf L (flw A) (srt A) t.2.1 t.1, nx L t.2.1, 4 * fa L (nx L t.2.1), t.2.2.2))) 149 9 = nI (dmm A) := by
    rw [up2_ne (by omega)]; exact e2.1.2.2.2.1
  unfold f_X7_go
  rw [r3, Option.bind_some, hX.1.2.1, bdE, r2, Option.bind_some, if_pos (subNeg (by omega) (by omega) hfl).1, gdI (by omega) (by decide), nI_clamp (by omega), (hR.2.2.2 _ hfr.2).1, bdE, r1, Option.bind_some, hov, Option.bind_some, r4, Option.bind_some, e1, Option.bind_some, gdI (by omega) (by decide), nI_clamp (by omega), q4, Option.bind_some, hfa, z4, pk_mul, pkN, bdE, show (33 : Int32) + nI i = nI (33 + i) by rw [z33, nI_add], gdI (by omega) (by decide), nI_clamp (by omega), bdE, stops (by have := hIX.2.2.1.1; omega) hdm (by omega), bdE]
  by_cases hs : nx L t.2.1 = 0 ∨ (dmm A).testBit (nx L t.2.1) = true
  · rw [if_pos hs, if_pos hs, if_neg one_ne]
  · rw [if_neg hs, if_neg hs, if_pos rfl]
