/-! WHERE THE LAW BEGINS: the classes as the tables have them; both memories when they are new (wip/whole/mk_start.py) -/
theorem ist_X0 : Cond.instantiable RX0 3 ∈ wG := in_ix 262 (by decide +kernel) rfl
theorem ist_X1 : Cond.instantiable RX1 7 ∈ wG := in_ix 125 (by decide +kernel) rfl
theorem ist_X2 : Cond.instantiable RX2 4 ∈ wG := in_ix 242 (by decide +kernel) rfl
theorem ist_X3 : Cond.instantiable RX3 3 ∈ wG := in_ix 222 (by decide +kernel) rfl
theorem ist_X4 : Cond.instantiable RX4 5 ∈ wG := in_ix 98 (by decide +kernel) rfl
theorem ist_X5 : Cond.instantiable RX5 13 ∈ wG := in_ix 166 (by decide +kernel) rfl
theorem ist_X6 : Cond.instantiable RX6 12 ∈ wG := in_ix 90 (by decide +kernel) rfl
theorem ist_X7 : Cond.instantiable RX7 36 ∈ wG := in_ix 761 (by decide +kernel) rfl
theorem aov : Cond.arrayOver (.object "BeckTalk$World") ∈ lw_tbl := List.mem_of_getElem? (i := 228) (by decide +kernel)
theorem known {s : State} {args : Array Value} (l : Launch) (hts : ∀ w ∈ lw_tbl, w.before args s = true) : ∃ (D : va_G) (T : ClassId × ClassId × ClassId), KS D T l s := by
  have htg : ∀ w ∈ wG, w.before args s = true := fun w h => hts w (wG_tbl h)
  obtain ⟨c0, i0, k0⟩ := u_known (C := RX0) (T := TX0) (N := 3) (n := 3) htg cls_X0.2.1 (htg _ ist_X0)
  obtain ⟨c1, i1, k1⟩ := u_known (C := RX1) (T := TX1) (N := 7) (n := 7) htg cls_X1.2.1 (htg _ ist_X1)
  obtain ⟨c2, i2, k2⟩ := u_known (C := RX2) (T := TX2) (N := 4) (n := 4) htg cls_X2.2.1 (htg _ ist_X2)
  obtain ⟨c3, i3, k3⟩ := u_known (C := RX3) (T := TX3) (N := 3) (n := 3) htg cls_X3.2.1 (htg _ ist_X3)
  obtain ⟨c4, i4, k4⟩ := u_known (C := RX4) (T := TX4) (N := 5) (n := 5) htg cls_X4.2.1 (htg _ ist_X4)
  obtain ⟨c5, i5, k5⟩ := u_known (C := RX5) (T := TX5) (N := 13) (n := 13) htg cls_X5.2.1 (htg _ ist_X5)
  obtain ⟨c6, i6, k6⟩ := u_known (C := RX6) (T := TX6) (N := 12) (n := 12) htg cls_X6.2.1 (htg _ ist_X6)
  obtain ⟨c7, i7, k7⟩ := u_known (C := RX7) (T := TX7) (N := 36) (n := 36) htg cls_X7.2.1 (htg _ ist_X7)
  obtain ⟨a1, x1, m1, f1, f2, f3⟩ := Cond.arrayClass_spec (htg _ arr_int)
  obtain ⟨a2, x2, m2, g1, g2, g3⟩ := Cond.arrayClass_spec (htg _ arr_boo)
  have hAO : va_AO "BeckTalk$World" s := va_AO.of (hts _ aov)
  obtain ⟨m3, a3, x3, h1, -, h3, h4, h5⟩ := Cond.arrayOver_spec hAO
  refine ⟨(fun k => if k = 0 then c0 else if k = 1 then c1 else if k = 2 then c2 else if k = 3 then c3 else if k = 4 then c4 else if k = 5 then c5 else if k = 6 then c6 else c7, fun k => if k = 0 then i0 else if k = 1 then i1 else if k = 2 then i2 else if k = 3 then i3 else if k = 4 then i4 else if k = 5 then i5 else if k = 6 then i6 else i7), (a1, a2, a3), ⟨⟨fun k q hq => ?_, fun k q hq => ?_⟩, fun w hw => ?_⟩, hAO⟩
  · match k, hq with
    | 0, hq => cases hq; exact k0
    | 1, hq => cases hq; exact k1
    | 2, hq => cases hq; exact k2
    | 3, hq => cases hq; exact k3
    | 4, hq => cases hq; exact k4
    | 5, hq => cases hq; exact k5
    | 6, hq => cases hq; exact k6
    | 7, hq => cases hq; exact k7
    | k + 8, hq => exact absurd hq (by simp)
  · match k, hq with
    | 0, hq => cases hq; exact ⟨fun n z => ⟨fun k h => (by cases h), x1, f2, m1, f3⟩, f1⟩
    | 1, hq => cases hq; exact ⟨fun n z => ⟨fun k h => (by cases h), x2, g2, m2, g3⟩, g1⟩
    | 2, hq => cases hq; exact ⟨fun n z => ⟨fun k h => (by cases h), x3, h3, m3, h4⟩, x3, m3, h3, h4, h1, h5⟩
    | k + 3, hq => exact absurd hq (by simp [tysG])
  · have h1 := List.mem_filter.mp hw
    have h2 := hts w (List.mem_append_right _ h1.1)
    have h8 := h1.2
    cases w with
    | methodLinkNest a1 i x b => exact va_Nw.of rfl h2
    | _ => exact absurd h8 (by simp)
theorem nilE {α : Type} {i : Nat} {t : α} (h : ([] : List α)[i]? = some t) : False := by simp at h
theorem rel0 {cc mm : MM} (h1 : cc = MU0) (h2 : f_X7_emptyAll MU0 = some mm) : Rel cc mm := by
  subst h1
  obtain ⟨m', e2, hm, d1, d2⟩ := emX MU0
  rw [h2] at e2
  cases e2
  refine ⟨0, (0, 0, fun _ => 0, fun _ => 0, fun _ => 0), ((0, 0, 0, 0, 0), [], [], fun _ => 0, fun _ => 0, fun _ => 0), [], none, none, ?_⟩
  have z : ∀ r k, r ≠ 149 → mm r k = MU0 r k := fun r k h => by rw [hm r h]
  refine ⟨⟨Nat.zero_le _, rfl, by rw [z _ _ (by omega)]; rfl, fun k hk => absurd hk (Nat.not_lt_zero _)⟩, by rw [z _ _ (by omega)]; rfl, ⟨?_, ?_, ?_⟩, ⟨⟨⟨?_, ?_, ?_, ?_⟩, ⟨?_, ?_, ?_, ?_⟩, ?_⟩, Nat.zero_le _⟩, ?_, ?_, ?_, ?_, ?_⟩
  · exact ⟨Nat.zero_le _, Nat.zero_le _, fun _ => rfl, fun h => absurd h (Nat.lt_irrefl 0), ⟨rfl, rfl, rfl⟩, fun a _ h => absurd h (Nat.not_lt_zero _)⟩
  · exact ⟨rfl, rfl, fun a h => absurd h (Nat.not_lt_zero _)⟩
  · exact ⟨by rw [z _ _ (by omega)]; rfl, by rw [z _ _ (by omega)]; rfl, ⟨by rw [z _ _ (by omega)]; rfl, by rw [z _ _ (by omega)]; rfl, by rw [z _ _ (by omega)]; rfl⟩, fun a h => absurd h (Nat.not_lt_zero _)⟩
  · exact ⟨rfl, rfl, rfl, rfl, rfl, rfl, rfl⟩
  · intro i t h; exact (nilE h).elim
  · exact ⟨0, by decide, rfl, fun i t h => (nilE h).elim⟩
  · exact ⟨fun a h => absurd h (Nat.not_lt_zero _), fun a h => absurd h (Nat.not_lt_zero _), fun a h => by rw [MU0_row (by decide) (by decide)]; rfl⟩
  · exact ⟨d1 _ (by decide) (by decide), d1 _ (by decide) (by decide), d1 _ (by decide) (by decide), d1 _ (by decide) (by decide), d1 _ (by decide) (by decide), d1 _ (by decide) (by decide), d1 _ (by decide) (by decide)⟩
  · intro i t h; exact (nilE h).elim
  · intro i t h; exact (nilE h).elim
  · refine ⟨fun a h => absurd h (Nat.not_lt_zero _), fun a h => ?_, fun a h => ?_⟩
    · rw [show 0 + 14 + a = 14 + a by omega]; exact d2 a h
    · rw [show 0 + 23 + a = 23 + a by omega]; exact d1 _ (by omega) (by omega)
  · exact ⟨Nat.zero_le _, Nat.zero_le _, ⟨by decide, by decide⟩, Nat.zero_le _, ⟨Nat.zero_le _, fun t h => absurd h List.not_mem_nil⟩, ⟨Nat.zero_le _, fun t h => absurd h List.not_mem_nil⟩, fun a h => Nat.zero_le _, rfl, fun a h => Nat.zero_le _, fun a h => Nat.zero_le _⟩
  · exact ⟨Nat.zero_le _, by rw [z _ _ (by omega)]; rfl, rfl, 0, by decide, rfl, fun i B h => (nilE h).elim⟩
  · exact ⟨0, by decide, rfl, ⟨by decide, by rw [z _ _ (by omega)]; rfl⟩, ⟨by decide, by rw [z _ _ (by omega)]; rfl⟩⟩
  · exact ⟨by rw [z _ _ (by omega)]; rfl, by decide⟩
  · exact ⟨0, Nat.zero_le _, rfl, by rw [z _ _ (by omega)]; rfl, fun i h => absurd h (Nat.not_lt_zero _)⟩
  · exact ⟨0, Nat.zero_le _, rfl, by rw [z _ _ (by omega)]; rfl, fun i h => absurd h (Nat.not_lt_zero _)⟩
theorem clC : ∀ k ∈ List.range 144, ∀ q ∈ rfs k, q < 144 := by decide +kernel
theorem clR : ∀ k ∈ List.range 22, ∀ q ∈ rfs (144 + k), 144 ≤ q ∧ q < 166 := by decide +kernel
theorem eW_ad {ad ad' : Nat → Nat} {D : va_G} {T : ClassId × ClassId × ClassId} {l : Launch} {a b : Nat} {μ : MM} (hc : ∀ k ∈ List.range b, ∀ q ∈ rfs (a + k), a ≤ q ∧ q < a + b) (h : ∀ k, a ≤ k → k < a + b → ad k = ad' k) : eW (ad, D, T, l, a, b) μ = eW (ad', D, T, l, a, b) μ := by
  unfold eW
  apply List.map_congr_left
  intro k hk
  have hk2 := List.mem_range.mp hk
  show (ad (a + k), eC (ad, D, T, l, a, b) μ (a + k)) = (ad' (a + k), eC (ad', D, T, l, a, b) μ (a + k))
  have hk2 : k < b := hk2
  rw [h _ (by omega) (by omega), eC_rng (a' := 0) (b' := 166), eC_rng (ad := ad') (a' := 0) (b' := 166)]
  have := eC_ad (D := D) (T := T) (l := l) (μ := μ) (ad := ad) (ad' := ad') (k := a + k) (fun q hq => h q (hc k hk q hq).1 (hc k hk q hq).2)
  rw [show eC (ad, D, T, l, 0, 166) μ (a + k) = eC (ad', D, T, l, 0, 166) μ (a + k) from this]
