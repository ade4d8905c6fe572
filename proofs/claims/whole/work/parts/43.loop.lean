theorem unA_lt {H U : Nat} {A : WS} {to x : Nat} (hU : U < 512) (ht : to < 9) : unA H U A to x < 512 := by
  unfold unA
  split
  · exact or_lt hU (two_lt ht)
  · exact hU
theorem LC.fr {c c' : MM} {L : LG} {w : Nat} (hw : isW w) (h : LC c L) (e : ∀ r, (r < w ∨ w + 5 < r) → c' r = c r) : LC c' L := by
  obtain ⟨i, hi, rfl⟩ := hw
  exact h.eq (by rw [e 3 (by omega)]) (by rw [e 3 (by omega)]) (e 4 (by omega)) (e 5 (by omega)) (e 7 (by omega))
theorem LR.fr {m m' : MM} {L : LG} (h : LR m L) (e : ∀ r, r ≠ 149 → r ≠ 155 → r ≠ 156 → m' r = m r) : LR m' L := h.eq (by rw [e 144 (by decide) (by decide) (by decide)]) (by rw [e 144 (by decide) (by decide) (by decide)]) (e 145 (by decide) (by decide) (by decide)) (e 146 (by decide) (by decide) (by decide)) (e 148 (by decide) (by decide) (by decide))
theorem HU.eq {m m' : MM} {H U : Nat} {A : WS} (h : HU m H U A) (e1 : m' 155 = m 155) (e2 : m' 156 = m 156) : HU m' H U A := by
  unfold HU at *; rw [e1, e2]; exact h
theorem tkNew {L : LG} (hI : LI L) {fl : Nat} {so : Nat → Nat} {t : T4} (ht : tkI L t) (h0 : 0 < nx L t.2.1) : tkI L (gf L fl so t.2.1 t.1, nx L t.2.1, 4 * fa L (nx L t.2.1), t.2.2.2) := by
  have hfr := ht.2.1
  have hxl := (hI.2.2.2.2.2 t.2.1 hfr.1 hfr.2).1
  obtain ⟨-, q1, q2, -⟩ := hI.2.2.2.2.2 (nx L t.2.1) h0 (by omega)
  exact ⟨gf_lt hI hfr.1 hfr.2 ht.1, ⟨h0, by show nx L t.2.1 < nF L; omega⟩, ⟨by show 1 ≤ 4 * fa L (nx L t.2.1); omega, by show 4 * fa L (nx L t.2.1) ≤ 36; omega⟩, ht.2.2.2⟩
set_option maxHeartbeats 1000000 in
theorem caL {L : LG} {w T : Nat} (hw : isW w) (hI : LI L) : ∀ (rs : List T4) (n n2 : Nat) (c m : MM) (A : WS) (i : Nat) (dn : List T4) (H U : Nat), Mid c m w L A T i dn rs H U → LC c L → LR m L → hrs A ≤ 9300 → rs.length < n → rs.length < n2 → ∃ c' m' A' dn' H' U' z, f_X5_carryAll_L10 w 3 n (nI H) (nI U) (nI dn.length) (nI i) c = some (nI H', nI U', nI dn'.length, z, c') ∧ f_X7_goAll_L30 n2 (nI dn.length) m = some (nI dn'.length, m') ∧ Mid c' m' w L A' T T dn' [] H' U' ∧ A'.1 = A.1 ∧ (∀ r, (r < w ∨ w + 5 < r) → c' r = c r) ∧ ∀ r, r ≠ 149 → r ≠ 155 → r ≠ 156 → m' r = m r := by
  have hF9 := hI.1
  have hW9 := hI.2.1
  have hp := pow_512 hF9
  have n1 := isW_n1 hw
  have n3 := isW_n3 hw
  have n4 := isW_n4 hw
  intro rs
  induction rs with
  | nil =>
    intro n n2 c m A i dn H U hM hC hR hh hn hn2
    obtain ⟨n, rfl⟩ : ∃ j, n = j + 1 := ⟨n - 1, by simp at hn; omega⟩
    obtain ⟨n2, rfl⟩ : ∃ j, n2 = j + 1 := ⟨n2 - 1, by simp at hn2; omega⟩
    obtain ⟨m1, m2, m3, m4, m5, m6, m7, m8, m9, m10, m11, m12, m13, m14, m15, m16, m17⟩ := id hM
    have hiT : i = T := by simp at m5; omega
    subst hiT
    refine ⟨c, m, A, dn, H, U, nI i, ?_, ?_, hM, rfl, fun _ _ => rfl, fun _ _ _ _ => rfl⟩
    · simp only [f_X5_carryAll_L10]
      rw [m4, if_pos (nI_le (Nat.le_refl i) (by omega))]
    · simp only [f_X7_goAll_L30]
      rw [m12, if_pos (nI_le (by simp) (by simp; omega))]
  | cons t rs ih =>
    intro n n2 c m A i dn H U hM hC hR hh hn hn2
    obtain ⟨n, rfl⟩ : ∃ j, n = j + 1 := ⟨n - 1, by simp at hn; omega⟩
    obtain ⟨n2, rfl⟩ : ∃ j, n2 = j + 1 := ⟨n2 - 1, by simp at hn2; omega⟩
    simp only [List.length_cons] at hn hn2
    obtain ⟨m1, m2, m3, m4, m5, m6, m7, m8, m9, m10, m11, m12, m13, m14, m15, m16, m17⟩ := id hM
    simp only [List.length_cons] at m5 m12
    have htk := m9 t List.mem_cons_self
    have hrs : ∀ u ∈ rs, tkI L u := fun u hu => m9 u (List.mem_cons_of_mem _ hu)
    have ht4 := m11 0 t rfl
    rw [Nat.add_zero] at ht4
    obtain ⟨o1, o2, o3, o4⟩ := ofT n1 (show i < 12 by omega) ht4
    have hpk := m13 dn.length t app_get
    have hdl : dn.length < 12 := by omega
    have hfl9 := m3.1
    have h36 := htk.2.2.1.2
    have hfr := htk.2.1
    have hxl := (hI.2.2.2.2.2 t.2.1 hfr.1 hfr.2).1
    have hD : dmm A < 512 := by have := m3.2.2.1.1; omega
    -- both heads
    have hcls : f_X5_carryAll_L10 w 3 (n + 1) (nI H) (nI U) (nI dn.length) (nI i) c = bd (α := Int32 × Int32 × Int32 × Int32 × Int32 × MM) (if 0 < nI t.2.2.1 - nI (flw A) then (nI H, nI U, nI t.2.1, nI t.1, nI t.2.2.1 - nI (flw A), c) else bd (f_X6_cell (3 + 1) (nI t.2.1) c) fun x7 => bd (f_X5_garbled w 3 (nI t.2.1) (nI t.1) c) fun x8 => bd (f_X6_holds (nI H) x7 c) fun x9 => bd (α := Int32) (if x9 = 0 then nI U else bd (f_X6_cell (w + 4) x7 c) fun x11 => if x11 = x8 then nI U else bd (α := Int32) ((nI U ||| (sl 1 x7))) fun v12 => v12) fun j10 => bd (α := Int32) ((nI H ||| (sl 1 x7))) fun v13 => bd (f_X5_hears w x7 x8 (nI t.2.2.2) c) fun x14 => bd (f_X5_goesOnFrom w x7 x14) fun x15 => bd (f_X1_toGoFrom 3 x15 x14) fun x16 => (v13, j10, x15, x8, x16, x14)) fun j6 => if j6.2.2.1 = 0 then f_X5_carryAll_L10 w 3 n j6.1 j6.2.1 (nI dn.length) (nI (i + 1)) j6.2.2.2.2.2 else bd (f_X5_placeTalk w (nI dn.length) j6.2.2.2.1 j6.2.2.1 j6.2.2.2.2.1 (nI t.2.2.2) j6.2.2.2.2.2) fun x17 => f_X5_carryAll_L10 w 3 n j6.1 j6.2.1 (nI (dn.length + 1)) (nI (i + 1)) x17 := by
      simp only [f_X5_carryAll_L10]
      rw [m4, if_neg (nI_ge (by omega) (by omega)), o2, bdE, o4, bdE, o1, bdE, o3, bdE, m1.1.2.1, bdE, nI_1, nI_1]
    have hrf : f_X7_goAll_L30 (n2 + 1) (nI dn.length) m = (f_X7_go (nI dn.length) m).bind fun x4 => if x4.1 = 0 then (f_X7_takeOff (nI dn.length) x4.2).bind fun x5 => f_X7_goAll_L30 n2 (nI dn.length) x5 else f_X7_goAll_L30 n2 (nI (dn.length + 1)) x4.2 := by
      simp only [f_X7_goAll_L30]
      rw [m12, if_neg (nI_ge (by omega) (by omega)), nI_1]
    by_cases hst : flw A < t.2.2.1
    · -- it stays
      have hgo := goStay hI m2 m3 hdl htk hpk hst
      obtain ⟨c1, p1, p2, p3, p4⟩ := plC (c := c) n1 hdl (t.1, t.2.1, t.2.2.1 - flw A, t.2.2.2)
      have hnt : tkI L (t.1, t.2.1, t.2.2.1 - flw A, t.2.2.2) := ⟨htk.1, htk.2.1, ⟨by show 1 ≤ t.2.2.1 - flw A; omega, by show t.2.2.1 - flw A ≤ 36; omega⟩, htk.2.2.2⟩
      have e1 : f_X5_carryAll_L10 w 3 (n + 1) (nI H) (nI U) (nI dn.length) (nI i) c = f_X5_carryAll_L10 w 3 n (nI H) (nI U) (nI (dn.length + 1)) (nI (i + 1)) c1 := by
        rw [hcls, pk_sub (by omega), if_pos (show (0 : Int32) < nI (t.2.2.1 - flw A) from nI_lt (a := 0) (by omega) (by omega)), bdE]
        dsimp only
        rw [if_neg (show ¬ nI t.2.1 = 0 from nI_neI (b := 0) (by omega) (by decide) (by omega)), p1, bdE]
      have e2 : f_X7_goAll_L30 (n2 + 1) (nI dn.length) m = f_X7_goAll_L30 n2 (nI (dn.length + 1)) (up2 m 149 (33 + dn.length) (nI (pkT (t.1, t.2.1, t.2.2.1 - flw A, t.2.2.2)))) := by
        rw [hrf, hgo, Option.bind_some, if_neg one_ne]
      have hM' : Mid c1 (up2 m 149 (33 + dn.length) (nI (pkT (t.1, t.2.1, t.2.2.1 - flw A, t.2.2.2)))) w L A T (i + 1) (dn ++ [(t.1, t.2.1, t.2.2.1 - flw A, t.2.2.2)]) rs H U := by
        refine ⟨m1.eq (fun k _ => by rw [p2 w (by omega)]) (p2 _ (by omega)) (p2 _ (by omega)) (p2 _ (by omega)) (p2 _ (by omega)), m2.eq hF9 m3.2.2.2.2.1.1 (fun k hk hk2 => up2_ne (by omega)), m3, by rw [p2 w (by omega)]; exact m4, by omega, by simp; omega, m7, ?_, hrs, ?_, ?_, ?_, ?_, m14, m15, m16.eq (up2_ro (by decide)) (up2_ro (by decide)), m17⟩
        · intro u hu
          rcases List.mem_append.mp hu with hu | hu
          · exact m8 u hu
          · rw [List.mem_singleton.mp hu]; exact hnt
        · intro j u hj
          by_cases hjd : j < dn.length
          · rw [List.getElem?_append_left hjd] at hj
            exact (m10 j u hj).mv (fun q hq => p3 _ (by omega))
          · have := (List.getElem?_eq_some_iff.mp hj).1
            simp at this
            have hjd2 : j = dn.length := by omega
            subst hjd2
            rw [List.getElem?_append_right (Nat.le_refl _), Nat.sub_self] at hj
            cases hj
            exact p4
        · intro j u hj
          have := m11 (j + 1) u hj
          rw [show i + (j + 1) = i + 1 + j by omega] at this
          exact this.mv (fun q hq => p3 _ (by omega))
        · rw [up2_ne (by omega), m12]; congr 1; simp; omega
        · exact setR m13 (by omega) (fun j hj _ => up2_ne (by omega)) (up2_eq _ _ _ _)
      obtain ⟨i0, hi0, rfl⟩ := id hw
      obtain ⟨c', m', A', dn', H', U', z, q1, q2, q3, q4, q5, q6⟩ := ih n n2 c1 _ A (i + 1) (dn ++ [(t.1, t.2.1, t.2.2.1 - flw A, t.2.2.2)]) H U hM' (hC.fr hw (fun r hr => p2 r (by omega))) (hR.fr (fun r h1 _ _ => up2_ro h1)) hh (by omega) (by omega)
      rw [List.length_append, List.length_singleton] at q1 q2
      exact ⟨c', m', A', dn', H', U', z, e1.trans q1, e2.trans q2, q3, q4, fun r hr => by rw [q5 r hr, p2 r (by omega)], fun r h1 h2 h3 => by rw [q6 r h1 h2 h3, up2_ro h1]⟩
    · -- it comes to the next farm
      have hle : t.2.2.1 ≤ flw A := by omega
      have hg := gf_lt (fl := flw A) (so := srt A) hI hfr.1 hfr.2 htk.1
      obtain ⟨mm, g1, g2, g3, g4, g5⟩ := goCome hI hR m2 m3 hh m16 m14 m17 hdl htk hpk hle
      obtain ⟨c1, h1, h2, h3, h4⟩ := hearC (c := c) (to := nx L t.2.1) (x := gf L (flw A) (srt A) t.2.1 t.1) (sd := t.2.2.2) hw hF9 m1 m3.2.2.2.2.1.1 m3.2.2.2.2.2.2.2.2 (by omega)
      have hix := m3.hear hh hF9 hW9 (to := nx L t.2.1) (x := gf L (flw A) (srt A) t.2.1 t.1) (sd := t.2.2.2) (by omega) hg (by have := htk.2.2.2; omega)
      have hgC := gfC (so := srt A) hI hC n3 hfl9 m1.1.2.1 m1.2.2.1 m3.2.2.2.2.2.1 hfr.1 hfr.2 htk.1
      have hun : (if (if H.testBit (nx L t.2.1) = true then (1 : Int32) else 0) = 0 then nI U else bd (f_X6_cell (w + 4) (nI (nx L t.2.1)) c) fun x11 => if x11 = nI (gf L (flw A) (srt A) t.2.1 t.1) then nI U else bd (α := Int32) ((nI U ||| (sl 1 (nI (nx L t.2.1))))) fun v12 => v12) = nI (unA H U A (nx L t.2.1) (gf L (flw A) (srt A) t.2.1 t.1)) := by
        unfold unA
        by_cases hb : H.testBit (nx L t.2.1) = true
        · have hl1 := m17 _ (show nx L t.2.1 < 9 by omega) hb
          have hlW := m3.2.2.2.2.2.2.2.1 _ (show nx L t.2.1 < 9 by omega)
          rw [if_pos hb, if_neg one_ne, cellC (n := 9) c n4 (by omega) (by decide), m1.2.2.2.1 _ (by omega)]
          obtain ⟨q, hq⟩ : ∃ q, lat A (nx L t.2.1) = q + 1 := ⟨lat A (nx L t.2.1) - 1, by omega⟩
          rw [hq, nI_pred, bdE]
          by_cases hqx : q = gf L (flw A) (srt A) t.2.1 t.1
          · rw [if_pos (show nI q = _ by rw [hqx]), if_neg (show ¬ (H.testBit (nx L t.2.1) = true ∧ q + 1 ≠ gf L (flw A) (srt A) t.2.1 t.1 + 1) from fun z => z.2 (by omega))]
          · rw [if_neg (nI_neI (by omega) (by omega) hqx), if_pos (show H.testBit (nx L t.2.1) = true ∧ q + 1 ≠ gf L (flw A) (srt A) t.2.1 t.1 + 1 from ⟨hb, by omega⟩), sl_dec _ (by omega), fa_or, bdE]
        · rw [if_neg hb, if_pos rfl, if_neg (fun z => hb z.1)]
      have hc3 : c1 w 3 = nI (dmm A) := h2.1.2.2.2.1
      have hc5 : c1 5 = c 5 := by obtain ⟨i0, hi0, rfl⟩ := id hw; exact h3 5 (by omega) (by omega) (by omega) (by omega)
      have hels : (bd (f_X6_cell (3 + 1) (nI t.2.1) c) fun x7 => bd (f_X5_garbled w 3 (nI t.2.1) (nI t.1) c) fun x8 => bd (f_X6_holds (nI H) x7 c) fun x9 => bd (α := Int32) (if x9 = 0 then nI U else bd (f_X6_cell (w + 4) x7 c) fun x11 => if x11 = x8 then nI U else bd (α := Int32) ((nI U ||| (sl 1 x7))) fun v12 => v12) fun j10 => bd (α := Int32) ((nI H ||| (sl 1 x7))) fun v13 => bd (f_X5_hears w x7 x8 (nI t.2.2.2) c) fun x14 => bd (f_X5_goesOnFrom w x7 x14) fun x15 => bd (f_X1_toGoFrom 3 x15 x14) fun x16 => ((v13, j10, x15, x8, x16, x14) : Int32 × Int32 × Int32 × Int32 × Int32 × MM)) = (nI (H ||| 2 ^ nx L t.2.1), nI (unA H U A (nx L t.2.1) (gf L (flw A) (srt A) t.2.1 t.1)), (if (dmm A).testBit (nx L t.2.1) = true then (0 : Int32) else nI (nx L t.2.1)), nI (gf L (flw A) (srt A) t.2.1 t.1), f_X1_toGoFrom 3 (if (dmm A).testBit (nx L t.2.1) = true then (0 : Int32) else nI (nx L t.2.1)) c1, c1) := by
        rw [show 3 + 1 = 4 from rfl, cellC (n := 9) c rfl (by omega) (by decide), (hC.2.2 _ hfr.2).1, bdE, hgC, bdE, holds_nI m14 (by omega), bdE, hun, bdE, sl_dec _ (by omega), fa_or, bdE, h1, bdE, onFrom hD hc3 (by omega), bdE, bdE]
      have hcls2 : f_X5_carryAll_L10 w 3 (n + 1) (nI H) (nI U) (nI dn.length) (nI i) c = if (if (dmm A).testBit (nx L t.2.1) = true then (0 : Int32) else nI (nx L t.2.1)) = 0 then f_X5_carryAll_L10 w 3 n (nI (H ||| 2 ^ nx L t.2.1)) (nI (unA H U A (nx L t.2.1) (gf L (flw A) (srt A) t.2.1 t.1))) (nI dn.length) (nI (i + 1)) c1 else bd (f_X5_placeTalk w (nI dn.length) (nI (gf L (flw A) (srt A) t.2.1 t.1)) (if (dmm A).testBit (nx L t.2.1) = true then (0 : Int32) else nI (nx L t.2.1)) (f_X1_toGoFrom 3 (if (dmm A).testBit (nx L t.2.1) = true then (0 : Int32) else nI (nx L t.2.1)) c1) (nI t.2.2.2) c1) fun x17 => f_X5_carryAll_L10 w 3 n (nI (H ||| 2 ^ nx L t.2.1)) (nI (unA H U A (nx L t.2.1) (gf L (flw A) (srt A) t.2.1 t.1))) (nI (dn.length + 1)) (nI (i + 1)) x17 := by
        rw [hcls, if_neg (subNeg (by omega) (by omega) hle).2, hels, bdE]
      have hH2 : H ||| 2 ^ nx L t.2.1 < 512 := or_lt m14 (two_lt (by omega))
      have hU2 : unA H U A (nx L t.2.1) (gf L (flw A) (srt A) t.2.1 t.1) < 512 := unA_lt m15 (by omega)
      have hlat2 : ∀ a, a < 9 → (H ||| 2 ^ nx L t.2.1).testBit a = true → 1 ≤ lat (hearA A (nx L t.2.1) (gf L (flw A) (srt A) t.2.1 t.1) t.2.2.2) a := by
        intro a ha hb
        show 1 ≤ if a = nx L t.2.1 then gf L (flw A) (srt A) t.2.1 t.1 + 1 else lat A a
        by_cases hat : a = nx L t.2.1
        · rw [if_pos hat]; omega
        · rw [if_neg hat]
          rw [bitOr] at hb
          have hne : ¬ nx L t.2.1 = a := fun q => hat q.symm
          simp [hne] at hb
          exact m17 a ha hb
      have hw5 : c1 w 5 = nI T := by rw [h4]; exact m4
      have hrow1 : c1 (w + 1) = c (w + 1) := h3 _ (by omega) (by omega) (by omega) (by omega)
      have hfr1 : ∀ r, (r < w ∨ w + 5 < r) → c1 r = c r := fun r hr => h3 r (by omega) (by omega) (by omega) (by omega)
      have hset : ∀ j u, (dn ++ (gf L (flw A) (srt A) t.2.1 t.1, nx L t.2.1, 4 * fa L (nx L t.2.1), t.2.2.2) :: rs)[j]? = some u → up2 mm 149 (33 + dn.length) (nI (pkT (gf L (flw A) (srt A) t.2.1 t.1, nx L t.2.1, 4 * fa L (nx L t.2.1), t.2.2.2))) 149 (33 + j) = nI (pkT u) := by
        have := setR (m := m) (m' := up2 mm 149 (33 + dn.length) (nI (pkT (gf L (flw A) (srt A) t.2.1 t.1, nx L t.2.1, 4 * fa L (nx L t.2.1), t.2.2.2)))) (t' := (gf L (flw A) (srt A) t.2.1 t.1, nx L t.2.1, 4 * fa L (nx L t.2.1), t.2.2.2)) m13 (by omega) (fun j hj hj11 => by rw [up2_ne (by omega), g5 _ (by omega) (by omega)]) (up2_eq _ _ _ _)
        rw [List.append_assoc, List.singleton_append] at this; exact this
      by_cases hs : nx L t.2.1 = 0 ∨ (dmm A).testBit (nx L t.2.1) = true
      · -- over
        have hz : (if (dmm A).testBit (nx L t.2.1) = true then (0 : Int32) else nI (nx L t.2.1)) = 0 := by
          rcases hs with hs | hs
          · rw [hs]; split <;> rfl
          · rw [if_pos hs]
        have hmm32 : up2 mm 149 (33 + dn.length) (nI (pkT (gf L (flw A) (srt A) t.2.1 t.1, nx L t.2.1, 4 * fa L (nx L t.2.1), t.2.2.2))) 149 32 = nI (dn ++ (gf L (flw A) (srt A) t.2.1 t.1, nx L t.2.1, 4 * fa L (nx L t.2.1), t.2.2.2) :: rs).length := by
          rw [up2_ne (by omega), g5 32 (by omega) (by omega), m12]; congr 1; simp
        obtain ⟨m2', t1, t2, t3, t4, t5⟩ := toX (i := dn.length) (by simp; omega) (by simp) hmm32 hset
        rw [app_erase] at t4 t5
        have e1 : f_X5_carryAll_L10 w 3 (n + 1) (nI H) (nI U) (nI dn.length) (nI i) c = f_X5_carryAll_L10 w 3 n (nI (H ||| 2 ^ nx L t.2.1)) (nI (unA H U A (nx L t.2.1) (gf L (flw A) (srt A) t.2.1 t.1))) (nI dn.length) (nI (i + 1)) c1 := by
          rw [hcls2, if_pos hz]
        have e2 : f_X7_goAll_L30 (n2 + 1) (nI dn.length) m = f_X7_goAll_L30 n2 (nI dn.length) m2' := by
          rw [hrf, g1, Option.bind_some, if_pos hs, if_pos rfl, t1, Option.bind_some]
        have hM' : Mid c1 m2' w L (hearA A (nx L t.2.1) (gf L (flw A) (srt A) t.2.1 t.1) t.2.2.2) T (i + 1) dn rs (H ||| 2 ^ nx L t.2.1) (unA H U A (nx L t.2.1) (gf L (flw A) (srt A) t.2.1 t.1)) := by
          refine ⟨h2, g2.eq hF9 hix.2.2.2.2.1.1 (fun k hk hk2 => by rw [t3 k (by omega) (by omega), up2_ne (by omega)]), hix, hw5, by omega, by omega, m7, m8, hrs, ?_, ?_, ?_, t5, hH2, hU2, g3.eq (by rw [t2 155 (by decide), up2_ro (by decide)]) (by rw [t2 156 (by decide), up2_ro (by decide)]), hlat2⟩
          · intro j u hj
            exact (m10 j u hj).mv (fun q hq => by rw [hrow1])
          · intro j u hj
            have := m11 (j + 1) u hj
            rw [show i + (j + 1) = i + 1 + j by omega] at this
            exact this.mv (fun q hq => by rw [hrow1])
          · rw [t4]; congr 1; simp
        obtain ⟨i0, hi0, rfl⟩ := id hw
        obtain ⟨c', m', A', dn', H', U', z, q1, q2, q3, q4, q5, q6⟩ := ih n n2 c1 m2' _ (i + 1) dn _ _ hM' (hC.fr hw hfr1) (hR.fr (fun r h1 h2 h3 => by rw [t2 r h1, up2_ro h1, g4 r h1 h2 h3])) hh (by omega) (by omega)
        exact ⟨c', m', A', dn', H', U', z, e1.trans q1, e2.trans q2, q3, q4, fun r hr => by rw [q5 r hr, hfr1 r hr], fun r h1 h2 h3 => by rw [q6 r h1 h2 h3, t2 r h1, up2_ro h1, g4 r h1 h2 h3]⟩
      · -- goes on
        have hnd : ¬ (dmm A).testBit (nx L t.2.1) = true := fun z => hs (Or.inr z)
        have hn0 : 0 < nx L t.2.1 := by
          have : nx L t.2.1 ≠ 0 := fun z => hs (Or.inl z)
          omega
        have htg : f_X1_toGoFrom 3 (nI (nx L t.2.1)) c1 = nI (4 * fa L (nx L t.2.1)) := by
          unfold f_X1_toGoFrom
          rw [show 3 + 2 = 5 from rfl, cellC (n := 9) c1 rfl (by omega) (by decide), hc5, (hC.2.2 _ (by omega)).2.1, bdE, z4, pk_mul]
        have hnt := tkNew (fl := flw A) (so := srt A) hI htk hn0
        obtain ⟨c2, p1, p2, p3, p4⟩ := plC (c := c1) n1 hdl (gf L (flw A) (srt A) t.2.1 t.1, nx L t.2.1, 4 * fa L (nx L t.2.1), t.2.2.2)
        have e1 : f_X5_carryAll_L10 w 3 (n + 1) (nI H) (nI U) (nI dn.length) (nI i) c = f_X5_carryAll_L10 w 3 n (nI (H ||| 2 ^ nx L t.2.1)) (nI (unA H U A (nx L t.2.1) (gf L (flw A) (srt A) t.2.1 t.1))) (nI (dn.length + 1)) (nI (i + 1)) c2 := by
          rw [hcls2, if_neg hnd, if_neg (show ¬ nI (nx L t.2.1) = 0 from nI_neI (b := 0) (by omega) (by decide) (by omega)), htg, p1, bdE]
        have e2 : f_X7_goAll_L30 (n2 + 1) (nI dn.length) m = f_X7_goAll_L30 n2 (nI (dn.length + 1)) (up2 mm 149 (33 + dn.length) (nI (pkT (gf L (flw A) (srt A) t.2.1 t.1, nx L t.2.1, 4 * fa L (nx L t.2.1), t.2.2.2)))) := by
          rw [hrf, g1, Option.bind_some, if_neg hs, if_neg one_ne]
        have hM' : Mid c2 (up2 mm 149 (33 + dn.length) (nI (pkT (gf L (flw A) (srt A) t.2.1 t.1, nx L t.2.1, 4 * fa L (nx L t.2.1), t.2.2.2)))) w L (hearA A (nx L t.2.1) (gf L (flw A) (srt A) t.2.1 t.1) t.2.2.2) T (i + 1) (dn ++ [(gf L (flw A) (srt A) t.2.1 t.1, nx L t.2.1, 4 * fa L (nx L t.2.1), t.2.2.2)]) rs (H ||| 2 ^ nx L t.2.1) (unA H U A (nx L t.2.1) (gf L (flw A) (srt A) t.2.1 t.1)) := by
          refine ⟨h2.eq (fun k _ => by rw [p2 w (by omega)]) (p2 _ (by omega)) (p2 _ (by omega)) (p2 _ (by omega)) (p2 _ (by omega)), g2.eq hF9 hix.2.2.2.2.1.1 (fun k hk hk2 => up2_ne (by omega)), hix, by rw [p2 w (by omega)]; exact hw5, by omega, by simp; omega, m7, ?_, hrs, ?_, ?_, ?_, ?_, hH2, hU2, g3.eq (up2_ro (by decide)) (up2_ro (by decide)), hlat2⟩
          · intro u hu
            rcases List.mem_append.mp hu with hu | hu
            · exact m8 u hu
            · rw [List.mem_singleton.mp hu]; exact hnt
          · intro j u hj
            by_cases hjd : j < dn.length
            · rw [List.getElem?_append_left hjd] at hj
              exact (m10 j u hj).mv (fun q hq => by rw [p3 _ (by omega), hrow1])
            · have := (List.getElem?_eq_some_iff.mp hj).1
              simp at this
              have hjd2 : j = dn.length := by omega
              subst hjd2
              rw [List.getElem?_append_right (Nat.le_refl _), Nat.sub_self] at hj
              cases hj
              exact p4
          · intro j u hj
            have := m11 (j + 1) u hj
            rw [show i + (j + 1) = i + 1 + j by omega] at this
            exact this.mv (fun q hq => by rw [p3 _ (by omega), hrow1])
          · rw [up2_ne (by omega), g5 32 (by omega) (by omega), m12]; congr 1; simp; omega
          · intro j u hj
            rw [List.append_assoc, List.singleton_append] at hj
            exact hset j u hj
        obtain ⟨i0, hi0, rfl⟩ := id hw
        obtain ⟨c', m', A', dn', H', U', z, q1, q2, q3, q4, q5, q6⟩ := ih n n2 c2 _ _ (i + 1) (dn ++ [(gf L (flw A) (srt A) t.2.1 t.1, nx L t.2.1, 4 * fa L (nx L t.2.1), t.2.2.2)]) _ _ hM' (hC.fr hw (fun r hr => by rw [p2 r (by omega), hfr1 r hr])) (hR.fr (fun r h1 h2 h3 => by rw [up2_ro h1, g4 r h1 h2 h3])) hh (by omega) (by omega)
        rw [List.length_append, List.length_singleton] at q1 q2
        exact ⟨c', m', A', dn', H', U', z, e1.trans q1, e2.trans q2, q3, q4, fun r hr => by rw [q5 r hr, p2 r (by omega), hfr1 r hr], fun r h1 h2 h3 => by rw [q6 r h1 h2 h3, up2_ro h1, g4 r h1 h2 h3]⟩
