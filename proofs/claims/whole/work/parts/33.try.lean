/-! which word to try next -/
theorem fillL (r : Nat) (v : Int32) (N : Nat) (hN : N < 2 ^ 30) (hr : aln r = N) : ∀ (n i : Nat) (c : MM), i ≤ N → N < n + i → ∃ c', f_J7_fill_53178_L5 r v (nI N) n (nI i) c = some (nI N, c') ∧ (∀ q, q ≠ r → c' q = c q) ∧ (∀ k, k < i → c' r k = c r k) ∧ ∀ k, i ≤ k → k < N → c' r k = v := by
  intro n
  induction n with
  | zero => intro i c h1 h2; omega
  | succ n ih =>
    intro i c h1 h2
    simp only [f_J7_fill_53178_L5, bd]
    by_cases h : N ≤ i
    · obtain rfl : i = N := by omega
      rw [if_pos (nI_le h (by omega))]
      exact ⟨c, rfl, fun _ _ => rfl, fun _ _ => rfl, fun k q1 q2 => by omega⟩
    · rw [if_neg (nI_ge (by omega) (by omega)), hr, gdI (by omega) (by omega), nI_clamp (by omega), nI_1]
      obtain ⟨c', e1, e2, e3, e4⟩ := ih (i + 1) (up2 c r i v) (by omega) (by omega)
      refine ⟨c', e1, fun q hq => by rw [e2 q hq, up2_ro hq], fun k hk => by rw [e3 k (by omega), up2_ne (by omega)], fun k q1 q2 => ?_⟩
      by_cases hk : k = i
      · subst hk; rw [e3 k (by omega), up2_eq]
      · exact e4 k (by omega) q2
theorem fillX {r : Nat} (v : Int32) {N : Nat} (hN : N < 1900) (hr : aln r = N) (c : MM) : ∃ c', f_J7_fill_53178 r v c = some c' ∧ (∀ q, q ≠ r → c' q = c q) ∧ ∀ k, k < N → c' r k = v := by
  obtain ⟨c', e1, e2, e3, e4⟩ := fillL r v N (by omega) hr FU 0 c (by omega) (by unfold FU; omega)
  refine ⟨c', ?_, e2, fun k hk => e4 k (by omega) hk⟩
  simp only [f_J7_fill_53178, bd]
  rw [hr, show f_J7_fill_53178_L5 r v (Int32.ofNat N) FU 0 c = f_J7_fill_53178_L5 r v (nI N) FU (nI 0) c from rfl, e1]
  rfl
theorem zeroL (l1 : Int32) : ∀ (n i : Nat) (m : MM), i ≤ 10 → 10 < n + i → ∃ m', f_X7_greatestPart_L4 l1 n (nI i) m = some (nI 10, m') ∧ (∀ q, q ≠ 161 → m' q = m q) ∧ (∀ k, k < i → m' 161 k = m 161 k) ∧ ∀ k, i ≤ k → k < 10 → m' 161 k = 0 := by
  intro n
  induction n with
  | zero => intro i c h1 h2; omega
  | succ n ih =>
    intro i c h1 h2
    simp only [f_X7_greatestPart_L4, bd]
    by_cases h : i = 10
    · subst h
      rw [if_pos (show (10 : Int32) ≤ nI 10 by decide)]
      exact ⟨c, rfl, fun _ _ => rfl, fun _ _ => rfl, fun k q1 q2 => by omega⟩
    · rw [if_neg (show ¬ (10 : Int32) ≤ nI i from nI_ge (b := 10) (by omega) (by decide)), gdI (by omega) (by omega), nI_clamp (by omega), nI_1]
      obtain ⟨c', e1, e2, e3, e4⟩ := ih (i + 1) (up2 c 161 i 0) (by omega) (by omega)
      refine ⟨c', e1, fun q hq => by rw [e2 q hq, up2_ro hq], fun k hk => by rw [e3 k (by omega), up2_ne (by omega)], fun k q1 q2 => ?_⟩
      by_cases hk : k = i
      · subst hk; rw [e3 k (by omega), up2_eq]
      · exact e4 k (by omega) q2
theorem FE.eq {c c' m m' : MM} {L : LG} (h : FE c m L) (hc : ∀ r, r ≠ 20 → c' r = c r) (hm : ∀ r, r ≠ 161 → m' r = m r) : FE c' m' L := by
  obtain ⟨h1, h2, h3, h4⟩ := h
  exact ⟨h1, h2.eq (by rw [hc 3 (by decide)]) (by rw [hc 3 (by decide)]) (hc 4 (by decide)) (hc 5 (by decide)) (hc 7 (by decide)), h3.eq (by rw [hm 144 (by decide)]) (by rw [hm 144 (by decide)]) (hm 145 (by decide)) (hm 146 (by decide)) (hm 148 (by decide)), h4.eq (by rw [hc 17 (by decide)]) (hc 18 (by decide)) (hc 19 (by decide)) (by rw [hm 144 (by decide)]) (hm 159 (by decide)) (hm 160 (by decide))⟩
theorem gpL {L : LG} {w : Nat} (hw : w < nW L) : ∀ (n f g : Nat) (c m : MM), FE c m L → f ≤ 50 → 50 < n + f → g ≤ f → ∀ K : Nat → Nat, (∀ v, v < 9 → K v ≤ f ∧ c 20 v = nI (K v) ∧ m 161 v = nI (K v)) → ∃ r z z' c' m', r ≤ 50 ∧ f_X2_greatestPart_L13 (nI w) (nI (nW L)) n (nI g) (nI f) c = some (nI r, z, c') ∧ f_X7_greatestPart_L25 (nI w) n (nI g) (nI f) m = some (nI r, z', m') ∧ (∀ q, q ≠ 20 → c' q = c q) ∧ ∀ q, q ≠ 161 → m' q = m q := by
  intro n
  induction n with
  | zero => intro f g c m H h1 h2; omega
  | succ n ih =>
    intro f g c m H h1 h2 h3 K hK
    have hW9 := H.1.2.1
    simp only [f_X2_greatestPart_L13, f_X7_greatestPart_L25, f_J9_max_7cf53, bd]
    by_cases h : f = 50
    · subst h
      rw [if_pos (show (50 : Int32) ≤ nI 50 by decide), if_pos (show (50 : Int32) ≤ nI 50 by decide)]
      exact ⟨g, _, _, c, m, h3, rfl, rfl, fun _ _ => rfl, fun _ _ => rfl⟩
    · obtain ⟨v, hv, q1, q2⟩ := fitX H (show f < 50 by omega)
      rw [if_neg (show ¬ (50 : Int32) ≤ nI f from nI_ge (b := 50) (by omega) (by decide)), if_neg (show ¬ (50 : Int32) ≤ nI f from nI_ge (b := 50) (by omega) (by decide)), q1, q2, Option.bind_some, Option.bind_some, nI_1]
      rcases hv with rfl | ⟨rfl, hkey⟩
      · rw [if_pos (show nI 0 = 0 from rfl), if_pos (show nI 0 = 0 from rfl)]
        exact ih (f + 1) g c m H (by omega) (by omega) (by omega) K (fun v hv => ⟨by have := (hK v hv).1; omega, (hK v hv).2⟩)
      · obtain ⟨d1, d2⟩ := fdiv (show f < 50 by omega)
        have hgl := g1_lt (s := f / 10) hkey hw
        have hg9 : g1 (f / 10) (f % 10) (nW L) w < 9 := by omega
        obtain ⟨k1, k2, k3⟩ := hK _ hg9
        rw [if_neg (show ¬ nI 1 = 0 by decide), if_neg (show ¬ nI 1 = 0 by decide), d1, d2, g1C (by omega) hW9 hkey hw, g1R H.2.2.1.1 (by omega) hW9 hkey hw, Option.bind_some, cellC (n := 9) c rfl hg9 (by decide), k2, putC (n := 9) _ _ rfl hg9 (by decide), cellC (n := 9) _ rfl hg9 (by decide), up2_eq, gdI (by omega) (by decide), gdI (by omega) (by decide), nI_clamp (by omega), k3, up2_eq, nI_1, gdI2 (by omega) (by decide), gdI2 (by omega) (by decide)]
        have key : ∀ g' : Nat, g' ≤ f + 1 → ∃ r z z' c' m', r ≤ 50 ∧ f_X2_greatestPart_L13 (nI w) (nI (nW L)) n (nI g') (nI (f + 1)) (up2 c 20 (g1 (f / 10) (f % 10) (nW L) w) (nI (K (g1 (f / 10) (f % 10) (nW L) w) + 1))) = some (nI r, z, c') ∧ f_X7_greatestPart_L25 (nI w) n (nI g') (nI (f + 1)) (up2 m 161 (g1 (f / 10) (f % 10) (nW L) w) (nI (K (g1 (f / 10) (f % 10) (nW L) w) + 1))) = some (nI r, z', m') ∧ (∀ q, q ≠ 20 → c' q = c q) ∧ ∀ q, q ≠ 161 → m' q = m q := by
          intro g' hg'
          obtain ⟨r, z, z', c', m', p1, p2, p3, p4, p5⟩ := ih (f + 1) g' _ _ (H.eq (c' := up2 c 20 (g1 (f / 10) (f % 10) (nW L) w) (nI (K (g1 (f / 10) (f % 10) (nW L) w) + 1))) (m' := up2 m 161 (g1 (f / 10) (f % 10) (nW L) w) (nI (K (g1 (f / 10) (f % 10) (nW L) w) + 1))) (fun r hr => up2_ro hr) (fun r hr => up2_ro hr)) (by omega) (by omega) hg' (fun v => if v = g1 (f / 10) (f % 10) (nW L) w then K v + 1 else K v) (fun v hv => by
            obtain ⟨a1, a2, a3⟩ := hK v hv
            by_cases hve : v = g1 (f / 10) (f % 10) (nW L) w
            · subst hve
              rw [if_pos rfl, up2_eq, up2_eq]
              exact ⟨by omega, rfl, rfl⟩
            · rw [if_neg hve, up2_ne (Or.inr hve), up2_ne (Or.inr hve)]
              exact ⟨by omega, a2, a3⟩)
          exact ⟨r, z, z', c', m', p1, p2, p3, fun q hq => by rw [p4 q hq, up2_ro hq], fun q hq => by rw [p5 q hq, up2_ro hq]⟩
        by_cases hle : K (g1 (f / 10) (f % 10) (nW L) w) + 1 ≤ g
        · rw [if_pos (nI_le hle (by omega)), if_neg (nI_nlt hle (by omega))]
          exact key g (by omega)
        · rw [if_neg (nI_ge (by omega) (by omega)), if_pos (nI_lt (by omega) (by omega))]
          exact key _ (by omega)
theorem gpX {c m : MM} {L : LG} (H : FE c m L) {w : Nat} (hw : w < nW L) : ∃ r c' m', r ≤ 50 ∧ f_X2_greatestPart (nI w) (nI (nW L)) c = some (nI r, c') ∧ f_X7_greatestPart (nI w) m = some (nI r, m') ∧ (∀ q, q ≠ 20 → c' q = c q) ∧ ∀ q, q ≠ 161 → m' q = m q := by
  obtain ⟨c1, e1, e2, e3⟩ := fillX (r := 20) 0 (N := 9) (by decide) rfl c
  obtain ⟨m1, d1, d2, d3, d4⟩ := zeroL (nI w) FU 0 m (by omega) (by unfold FU; omega)
  obtain ⟨r, z, z', c', m', p1, p2, p3, p4, p5⟩ := gpL hw FU 0 0 c1 m1 (H.eq e2 d2) (by omega) (by unfold FU; omega) (by omega) (fun _ => 0) (fun v hv => ⟨by omega, e3 v hv, d4 v (by omega) (by omega)⟩)
  refine ⟨r, c', m', p1, ?_, ?_, fun q hq => by rw [p4 q hq, e2 q hq], fun q hq => by rw [p5 q hq, d2 q hq]⟩
  · unfold f_X2_greatestPart
    rw [e1, Option.bind_some, show f_X2_greatestPart_L13 (nI w) (nI (nW L)) FU 0 0 c1 = f_X2_greatestPart_L13 (nI w) (nI (nW L)) FU (nI 0) (nI 0) c1 from rfl, p2]; rfl
  · unfold f_X7_greatestPart
    rw [show f_X7_greatestPart_L4 (nI w) FU 0 m = f_X7_greatestPart_L4 (nI w) FU (nI 0) m from rfl, d1, Option.bind_some, show f_X7_greatestPart_L25 (nI w) FU 0 0 m1 = f_X7_greatestPart_L25 (nI w) FU (nI 0) (nI 0) m1 from rfl, p3]; rfl
theorem bwL {L : LG} : ∀ (n w l : Nat) (b : Int32) (c m : MM), FE c m L → w ≤ nW L → nW L < n + w → l ≤ 50 → ∃ r z y c' z' y' m', f_X2_bestWord_L11 (nI (nW L)) n (nI l) b (nI w) c = some (z, r, y, c') ∧ f_X7_tryNext_L10 n b (nI l) (nI w) m = some (r, z', y', m') ∧ (∀ q, q ≠ 20 → c' q = c q) ∧ ∀ q, q ≠ 161 → m' q = m q := by
  intro n
  induction n with
  | zero => intro w l b c m H h1 h2; omega
  | succ n ih =>
    intro w l b c m H h1 h2 h3
    have hW9 := H.1.2.1
    simp only [f_X2_bestWord_L11, f_X7_tryNext_L10, bd]
    rw [H.2.2.1.1]
    by_cases h : nW L ≤ w
    · rw [if_pos (nI_le h (by omega)), if_pos (nI_le h (by omega))]
      exact ⟨_, _, _, _, _, _, _, rfl, rfl, fun _ _ => rfl, fun _ _ => rfl⟩
    · obtain ⟨r, c1, m1, p1, p2, p3, p4, p5⟩ := gpX H (show w < nW L by omega)
      rw [if_neg (nI_ge (by omega) (by omega)), if_neg (nI_ge (by omega) (by omega)), p2, p3, Option.bind_some, Option.bind_some, nI_1]
      have key : ∀ (l : Nat) (b : Int32), l ≤ 50 → ∃ r z y c' z' y' m', f_X2_bestWord_L11 (nI (nW L)) n (nI l) b (nI (w + 1)) c1 = some (z, r, y, c') ∧ f_X7_tryNext_L10 n b (nI l) (nI (w + 1)) m1 = some (r, z', y', m') ∧ (∀ q, q ≠ 20 → c' q = c q) ∧ ∀ q, q ≠ 161 → m' q = m q := by
        intro l b hl
        obtain ⟨r, z, y, c', z', y', m', a1, a2, a3, a4⟩ := ih (w + 1) l b c1 m1 (H.eq p4 p5) (by omega) (by omega) hl
        exact ⟨r, z, y, c', z', y', m', a1, a2, fun q hq => by rw [a3 q hq, p4 q hq], fun q hq => by rw [a4 q hq, p5 q hq]⟩
      by_cases hle : nI l ≤ nI r
      · rw [if_pos hle, if_pos hle, if_pos hle]; exact key _ _ h3
      · rw [if_neg hle, if_neg hle, if_neg hle]; exact key _ _ p1
theorem ok_tryNext {c m : MM} (h : Rel c m) : Ok c m (f_X6_tryNext c) (f_X7_tryNext m) := by
  obtain ⟨n, L, A, P, I0, I1, hr⟩ := id h
  have H := fe_of hr
  have hW9 := H.1.2.1
  obtain ⟨⟨r, hr0, a1, a2⟩, -⟩ := fallsX H
  obtain ⟨v, z, y, c', z', y', m', b1, b2, b3, b4⟩ := bwL FU 0 r (-1) c m H (by omega) (by unfold FU; omega) hr0
  unfold f_X6_tryNext f_X2_bestWord f_X7_tryNext
  rw [H.2.1.1, a1, a2, Option.bind_some, Option.bind_some, show f_X2_bestWord_L11 (nI (nW L)) FU (nI r) (-1) 0 c = f_X2_bestWord_L11 (nI (nW L)) FU (nI r) (-1) (nI 0) c from rfl, show f_X7_tryNext_L10 FU (-1) (nI r) 0 m = f_X7_tryNext_L10 FU (-1) (nI r) (nI 0) m from rfl, b1, b2]
  exact ⟨_, _, _, rfl, rfl, h.scr (fun q hq => b3 q (fun e => hq (Or.inr (Or.inl e)))) (fun q hq => b4 q (fun e => hq (Or.inr (Or.inr e))))⟩
