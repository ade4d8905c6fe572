/-! cells that nothing is remembered in -/
def scC (r : Nat) : Prop := (8 ≤ r ∧ r ≤ 12) ∨ r = 20 ∨ (30 ≤ r ∧ r ≤ 35)
def scR (r : Nat) : Prop := (151 ≤ r ∧ r ≤ 156) ∨ r = 158 ∨ r = 161
theorem RelS.scr {c c' m m' : MM} {n : Nat} {L : LG} {A : WS} {P : List WS} {I0 I1 : IM} (h : RelS c m n L A P I0 I1) (hc : ∀ r, ¬ scC r → c' r = c r) (hm : ∀ r, ¬ scR r → m' r = m r) : RelS c' m' n L A P I0 I1 := by
  have hc : ∀ r, ¬ ((8 ≤ r ∧ r ≤ 12) ∨ r = 20 ∨ (30 ≤ r ∧ r ≤ 35)) → c' r = c r := hc
  have hm : ∀ r, ¬ ((151 ≤ r ∧ r ≤ 156) ∨ r = 158 ∨ r = 161) → m' r = m r := hm
  obtain ⟨h1, h2, ⟨hI, hC, hR⟩, ⟨h4, h4b⟩, h5, h6, h7, h8, h9⟩ := h
  have c1 := hc 1 (by omega)
  have c0 := hc 0 (by omega)
  have c3 := hc 3 (by omega)
  have c13 := hc 13 (by omega)
  have c17 := hc 17 (by omega)
  have c21 := hc 21 (by omega)
  have m1 := hm 144 (by omega)
  refine ⟨h1.eq (by rw [c1]) (hc 2 (by omega)) (by rw [m1]) (hm 150 (by omega)), by rw [c1, m1]; exact h2, ⟨hI, hC.eq (by rw [c3]) (by rw [c3]) (hc 4 (by omega)) (hc 5 (by omega)) (hc 7 (by omega)), hR.eq (by rw [m1]) (by rw [m1]) (hm 145 (by omega)) (hm 146 (by omega)) (hm 148 (by omega))⟩, ⟨h4.eq hI.F (fun k hk => hc _ (by omega)) (fun k hk => by rw [hm 149 (by omega)]), h4b⟩, h5.eq hI.F (by rw [c13]) (by rw [c13]) (fun r q1 q2 => hc r (by omega)) (by rw [m1]) (hm 157 (by omega)), h6.eq hI.F (by rw [c0]) (fun r q1 q2 => hc r (by omega)) (hc 16 (by omega)) (hm 164 (by omega)) (hm 165 (by omega)), h7.eq (by rw [c0]) (by rw [m1]), h8.eq (by rw [c17]) (hc 18 (by omega)) (hc 19 (by omega)) (by rw [m1]) (hm 159 (by omega)) (hm 160 (by omega)), h9.eq (by rw [c21]) (hc 22 (by omega)) (hc 23 (by omega)) (by rw [m1]) (hm 162 (by omega)) (hm 163 (by omega))⟩
theorem Rel.scr {c c' m m' : MM} (h : Rel c m) (hc : ∀ r, ¬ scC r → c' r = c r) (hm : ∀ r, ¬ scR r → m' r = m r) : Rel c' m' := by
  obtain ⟨n, L, A, P, I0, I1, hr⟩ := h
  exact ⟨n, L, A, P, I0, I1, hr.scr hc hm⟩
/-! falls that fit -/
def FE (c m : MM) (L : LG) : Prop := LI L ∧ LC c L ∧ LR m L ∧ RSeen c m L
def lsd (f W : Nat) : Nat := if f % 10 < W then (if f / 10 = 0 ∨ f / 10 = 3 then (if f % 10 = 0 then 1 else 0) else if f / 10 = 2 then (if f % 10 + 2 ≤ W then 1 else 0) else (if f % 10 = 0 then 0 else 1)) else 0
theorem lsC_dec : ∀ W, W < 10 → ∀ f, f < 50 → f_X2_isListed (nI f / 10) (rm (nI f) 10) (nI W) (fun _ _ => 0) = nI (lsd f W) := by decide +kernel
theorem lsR_dec : ∀ W, W < 10 → ∀ f, f < 50 → (if (if f % 10 < W then (1 : Int32) else 0) = 0 then (0 : Int32) else if nI f / 10 = 0 then if rm (nI f) 10 = 0 then 1 else 0 else if nI f / 10 = 3 then if rm (nI f) 10 = 0 then 1 else 0 else if nI f / 10 = 2 then if nI W - 2 < rm (nI f) 10 then 0 else 1 else if rm (nI f) 10 ≤ 0 then 0 else 1) = nI (lsd f W) := by decide +kernel
theorem lsd_01 (f W : Nat) : lsd f W = 0 ∨ lsd f W = 1 ∧ f % 10 < W := by
  unfold lsd
  repeat' split
  all_goals first | exact Or.inl rfl | exact Or.inr ⟨rfl, by assumption⟩
theorem fdiv {f : Nat} (h : f < 50) : nI f / 10 = nI (f / 10) ∧ rm (nI f) 10 = nI (f % 10) := by
  rw [z10]
  exact ⟨dv_nI (by omega) (by decide) (by decide), rm_nI (by omega) (by decide) (by decide)⟩
theorem fiL {c m : MM} {L : LG} (H : FE c m L) {f : Nat} (hf : f < 50) (hk : f % 10 < nW L) {k : Nat} (hk6 : k ≤ 6) (t1 : c 17 3 = nI k) (t2 : m 144 27 = nI k) (t3 : ∀ i, i < k → ∃ x y, x < nW L ∧ y < nW L ∧ c 18 i = nI x ∧ m 159 i = nI x ∧ c 19 i = nI y ∧ m 160 i = nI y) (l1 l1' : Int32) : ∀ (n i : Nat), i ≤ k → k + 1 < n + i → (∃ z z', f_X2_fits_L26 l1 (nI (nW L)) (nI (f / 10)) (nI (f % 10)) c n (nI i) = some (.inl z) ∧ f_X7_couldFall_L66 l1' (nI (f / 10)) (nI (f % 10)) m n 1 (nI i) = some (1, z')) ∨ ∃ z', f_X2_fits_L26 l1 (nI (nW L)) (nI (f / 10)) (nI (f % 10)) c n (nI i) = some (.inr 0) ∧ f_X7_couldFall_L66 l1' (nI (f / 10)) (nI (f % 10)) m n 1 (nI i) = some (0, z') := by
  obtain ⟨hI, hC, hR, -⟩ := H
  have hW9 := hI.2.1
  intro n
  induction n with
  | zero => intro i h1 h2; omega
  | succ n ih =>
    intro i h1 h2
    simp only [f_X2_fits_L26, f_X7_couldFall_L66, bd]
    rw [t1, t2]
    by_cases h : k ≤ i
    · rw [if_pos (nI_le h (by omega)), if_pos (nI_le h (by omega))]
      exact Or.inl ⟨_, _, rfl, rfl⟩
    · obtain ⟨x, y, hx, hy, q1, q2, q3, q4⟩ := t3 i (by omega)
      rw [if_neg (nI_ge (by omega) (by omega)), if_neg (nI_ge (by omega) (by omega)), if_neg one_ne, cellC (n := 6) c rfl (by omega) (by decide), cellC (n := 6) c rfl (by omega) (by decide), q1, q3, g1C (by omega) hW9 hk hx, gdI (by omega) (by decide), nI_clamp (by omega), q2, q4, g1R hR.1 (by omega) hW9 hk hx, Option.bind_some, gdI2 (by omega) (by decide), nI_1]
      by_cases hw : nI (g1 (f / 10) (f % 10) (nW L) x) = nI y
      · rw [if_pos hw, if_pos hw]
        exact ih (i + 1) (by omega) (by omega)
      · rw [if_neg hw, if_neg hw]
        refine Or.inr ?_
        obtain ⟨n, rfl⟩ : ∃ j, n = j + 1 := ⟨n - 1, by omega⟩
        simp only [f_X7_couldFall_L66]
        rw [t2]
        by_cases h9 : nI k ≤ nI (i + 1)
        · rw [if_pos h9]; exact ⟨_, trivial, rfl⟩
        · rw [if_neg h9]; exact ⟨_, trivial, rfl⟩
theorem fitX {c m : MM} {L : LG} (H : FE c m L) {f : Nat} (hf : f < 50) : ∃ v, (v = 0 ∨ (v = 1 ∧ f % 10 < nW L)) ∧ f_X2_fits (nI f) (nI (nW L)) c = some (nI v) ∧ f_X7_couldFall (nI f) m = some (nI v) := by
  obtain ⟨hI, hC, hR, k, hk6, t1, t2, t3⟩ := id H
  have hW9 := hI.2.1
  obtain ⟨d1, d2⟩ := fdiv hf
  have e1 := lsC_dec (nW L) (by omega) f hf
  have e2 := lsR_dec (nW L) (by omega) f hf
  have e3 : f_X7_isWord (rm (nI f) 10) m = if f % 10 < nW L then 1 else 0 := by
    rw [d2]
    simp only [f_X7_isWord, bd]
    rw [hR.1]
    by_cases hlt : f % 10 < nW L
    · rw [if_pos hlt]; exact in_nI hlt (by omega) m
    · rw [if_neg hlt]
      rcases nI_cases (nI (f % 10)) (n := nW L) (by omega) with ⟨a, ha, hb⟩ | ⟨g1, g2⟩
      · have := (nI_eq (by omega) (by omega)).mp hb
        omega
      · exact in_no g2 m
  simp only [f_X2_fits, f_X7_couldFall, bd]
  rw [show f_X2_isListed (nI f / 10) (rm (nI f) 10) (nI (nW L)) c = nI (lsd f (nW L)) from e1, hR.1, e3, e2, d1, d2]
  rw [show f_X2_fits_L26 (nI f) (nI (nW L)) (nI (f / 10)) (nI (f % 10)) c FU 0 = f_X2_fits_L26 (nI f) (nI (nW L)) (nI (f / 10)) (nI (f % 10)) c FU (nI 0) from rfl, show f_X7_couldFall_L66 (nI f) (nI (f / 10)) (nI (f % 10)) m FU (nI (lsd f (nW L))) 0 = f_X7_couldFall_L66 (nI f) (nI (f / 10)) (nI (f % 10)) m FU (nI (lsd f (nW L))) (nI 0) from rfl]
  rcases lsd_01 f (nW L) with hl | ⟨hl, hlt⟩
  · rw [hl, if_pos (show nI 0 = 0 from rfl)]
    refine ⟨0, Or.inl rfl, rfl, ?_⟩
    obtain ⟨j, hj⟩ : ∃ j, FU = j + 1 := ⟨1999, rfl⟩
    rw [hj]
    simp only [f_X7_couldFall_L66]
    rw [t2]
    by_cases h9 : nI k ≤ nI 0
    · rw [if_pos h9]; rfl
    · rw [if_neg h9, if_pos (show nI 0 = 0 from rfl)]; rfl
  · rw [hl, if_neg (show ¬ nI 1 = 0 by decide)]
    rcases fiL H hf hlt hk6 t1 t2 t3 (nI f) (nI f) FU 0 (by omega) (by unfold FU; omega) with ⟨z, z', q1, q2⟩ | ⟨z', q1, q2⟩
    · rw [q1, show f_X7_couldFall_L66 (nI f) (nI (f / 10)) (nI (f % 10)) m FU (nI 1) (nI 0) = some (1, z') from q2]
      exact ⟨1, Or.inr ⟨rfl, hlt⟩, rfl, rfl⟩
    · rw [q1, show f_X7_couldFall_L66 (nI f) (nI (f / 10)) (nI (f % 10)) m FU (nI 1) (nI 0) = some (0, z') from q2]
      exact ⟨0, Or.inl rfl, rfl, rfl⟩
/-- how many: in step -/
theorem hmL {c m : MM} {L : LG} (H : FE c m L) (l1 : Int32) : ∀ (n f k : Nat) (y : Int32), f ≤ 50 → 50 < n + f → k ≤ f → ∃ r z z' y', r ≤ 50 ∧ f_X2_howMany_L4 (nI (nW L)) c n (nI k) (nI f) = some (nI r, z) ∧ f_X7_falls_L20 l1 m n (nI k) y (nI f) = some (nI r, y', z') := by
  intro n
  induction n with
  | zero => intro f k y h1 h2; omega
  | succ n ih =>
    intro f k y h1 h2 h3
    simp only [f_X2_howMany_L4, f_X7_falls_L20]
    by_cases h : f = 50
    · subst h
      rw [if_pos (show (50 : Int32) ≤ nI 50 by decide), if_pos (show (50 : Int32) ≤ nI 50 by decide)]
      exact ⟨k, _, _, _, h3, rfl, rfl⟩
    · obtain ⟨v, hv, q1, q2⟩ := fitX H (show f < 50 by omega)
      rw [if_neg (show ¬ (50 : Int32) ≤ nI f from nI_ge (b := 50) (by omega) (by decide)), if_neg (show ¬ (50 : Int32) ≤ nI f from nI_ge (b := 50) (by omega) (by decide)), q1, q2, Option.bind_some, Option.bind_some, nI_1, nI_1]
      rcases hv with rfl | ⟨rfl, -⟩
      · rw [if_pos (show nI 0 = 0 from rfl), if_pos (show nI 0 = 0 from rfl)]
        exact ih (f + 1) k y (by omega) (by omega) (by omega)
      · rw [if_neg (show ¬ nI 1 = 0 by decide), if_neg (show ¬ nI 1 = 0 by decide)]
        by_cases hk : nI k = 0
        · rw [if_pos hk]; exact ih (f + 1) (k + 1) _ (by omega) (by omega) (by omega)
        · rw [if_neg hk]; exact ih (f + 1) (k + 1) _ (by omega) (by omega) (by omega)
/-- the first -/
theorem fsK {c m : MM} {L : LG} (H : FE c m L) (l1 : Int32) : ∀ (n f k : Nat) (y : Int32), f ≤ 50 → 50 < n + f → 1 ≤ k → k ≤ f + 1 → ∃ r z', f_X7_falls_L20 l1 m n (nI k) y (nI f) = some (r, y, z') := by
  intro n
  induction n with
  | zero => intro f k y h1 h2; omega
  | succ n ih =>
    intro f k y h1 h2 h3 h4
    simp only [f_X7_falls_L20]
    by_cases h : f = 50
    · subst h
      rw [if_pos (show (50 : Int32) ≤ nI 50 by decide)]
      exact ⟨_, _, rfl⟩
    · obtain ⟨v, hv, q1, q2⟩ := fitX H (show f < 50 by omega)
      rw [if_neg (show ¬ (50 : Int32) ≤ nI f from nI_ge (b := 50) (by omega) (by decide)), q2, Option.bind_some, nI_1, nI_1]
      rcases hv with rfl | ⟨rfl, -⟩
      · rw [if_pos (show nI 0 = 0 from rfl)]
        exact ih (f + 1) k y (by omega) (by omega) (by omega) (by omega)
      · rw [if_neg (show ¬ nI 1 = 0 by decide), if_neg (show ¬ nI k = 0 from nI_neI (b := 0) (by omega) (by decide) (by omega))]
        exact ih (f + 1) (k + 1) _ (by omega) (by omega) (by omega) (by omega)
theorem fsL {c m : MM} {L : LG} (H : FE c m L) (l1 : Int32) : ∀ (n f : Nat), f ≤ 50 → 50 < n + f → (∃ z z' r, f_X2_first_L2 (nI (nW L)) c n (nI f) = some (.inl z) ∧ f_X7_falls_L20 l1 m n (nI 0) (-1) (nI f) = some (r, -1, z')) ∨ ∃ r z' y, f_X2_first_L2 (nI (nW L)) c n (nI f) = some (.inr y) ∧ f_X7_falls_L20 l1 m n (nI 0) (-1) (nI f) = some (r, y, z') := by
  intro n
  induction n with
  | zero => intro f h1 h2; omega
  | succ n ih =>
    intro f h1 h2
    simp only [f_X2_first_L2, f_X7_falls_L20]
    by_cases h : f = 50
    · subst h
      rw [if_pos (show (50 : Int32) ≤ nI 50 by decide), if_pos (show (50 : Int32) ≤ nI 50 by decide)]
      exact Or.inl ⟨_, _, _, rfl, rfl⟩
    · obtain ⟨v, hv, q1, q2⟩ := fitX H (show f < 50 by omega)
      rw [if_neg (show ¬ (50 : Int32) ≤ nI f from nI_ge (b := 50) (by omega) (by decide)), if_neg (show ¬ (50 : Int32) ≤ nI f from nI_ge (b := 50) (by omega) (by decide)), q1, q2, Option.bind_some, Option.bind_some, nI_1]
      rcases hv with rfl | ⟨rfl, -⟩
      · rw [if_pos (show nI 0 = 0 from rfl), if_pos (show nI 0 = 0 from rfl)]
        exact ih (f + 1) (by omega) (by omega)
      · rw [if_neg (show ¬ nI 1 = 0 by decide), if_neg (show ¬ nI 1 = 0 by decide), if_pos (show nI 0 = 0 from rfl)]
        obtain ⟨r, z', e⟩ := fsK H l1 n (f + 1) 1 (nI f) (by omega) (by omega) (by omega) (by omega)
        rw [show nI 0 + 1 = nI 1 from rfl, e]
        exact Or.inr ⟨_, _, _, rfl, rfl⟩
theorem fallsX {c m : MM} {L : LG} (H : FE c m L) : (∃ r, r ≤ 50 ∧ f_X2_howMany (nI (nW L)) c = some (nI r) ∧ f_X7_falls 0 m = some (nI r)) ∧ ∃ r, f_X2_first (nI (nW L)) c = some r ∧ f_X7_falls 1 m = some r := by
  have i0 : f_X7_in (Int32.toInt64 0) 0 1 m = 1 := by
    have := in_nI (a := 0) (n := 2) (by decide) (by decide) m
    exact this
  have i1 : f_X7_in (Int32.toInt64 1) 0 1 m = 1 := by
    have := in_nI (a := 1) (n := 2) (by decide) (by decide) m
    exact this
  constructor
  · obtain ⟨r, z, z', y', hr, q1, q2⟩ := hmL H 0 FU 0 0 (-1) (by omega) (by unfold FU; omega) (by omega)
    refine ⟨r, hr, ?_, ?_⟩
    · unfold f_X2_howMany
      rw [show f_X2_howMany_L4 (nI (nW L)) c FU 0 0 = f_X2_howMany_L4 (nI (nW L)) c FU (nI 0) (nI 0) from rfl, q1]; rfl
    · simp only [f_X7_falls, bd]
      rw [i0, if_neg one_ne, show f_X7_falls_L20 0 m FU 0 (-1) 0 = f_X7_falls_L20 0 m FU (nI 0) (-1) (nI 0) from rfl, q2]; rfl
  · unfold f_X2_first
    simp only [f_X7_falls, bd]
    rw [i1, if_neg one_ne, show f_X2_first_L2 (nI (nW L)) c FU 0 = f_X2_first_L2 (nI (nW L)) c FU (nI 0) from rfl, show f_X7_falls_L20 1 m FU 0 (-1) 0 = f_X7_falls_L20 1 m FU (nI 0) (-1) (nI 0) from rfl]
    rcases fsL H 1 FU 0 (by omega) (by unfold FU; omega) with ⟨z, z', r, q1, q2⟩ | ⟨r, z', y, q1, q2⟩
    · rw [q1, q2]; exact ⟨_, rfl, rfl⟩
    · rw [q1, q2]; exact ⟨_, rfl, rfl⟩
theorem fe_of {c m : MM} {n : Nat} {L : LG} {A : WS} {P : List WS} {I0 I1 : IM} (h : RelS c m n L A P I0 I1) : FE c m L := ⟨h.2.2.1.1, h.2.2.1.2.1, h.2.2.1.2.2, h.2.2.2.2.2.2.2.1⟩
theorem ok_falls {c m : MM} (h : Rel c m) (x : Int32) : Ok c m ((f_X6_falls x c).map fun r => (r, c)) ((f_X7_falls x m).map fun r => (r, m)) := by
  apply ok_pure h
  obtain ⟨n, L, A, P, I0, I1, hr⟩ := id h
  have H := fe_of hr
  obtain ⟨⟨r, hr0, a1, a2⟩, s, b1, b2⟩ := fallsX H
  unfold f_X6_falls
  rw [H.2.1.1, a1, b1]
  by_cases x0 : x = 0
  · subst x0
    rw [a2]; exact ⟨_, rfl, rfl⟩
  by_cases x1 : x = 1
  · subst x1
    rw [b2]; exact ⟨_, rfl, rfl⟩
  · simp only [f_X7_falls, bd]
    rcases in_k x m (k := 1) (by decide) (K := 1) (by decide) with ⟨j, hj, rfl, e⟩ | ⟨g, e⟩
    · exfalso
      rcases (show j = 0 ∨ j = 1 by omega) with rfl | rfl
      · exact x0 rfl
      · exact x1 rfl
    · rw [e, if_pos rfl]
      by_cases hx : x < 0
      · rw [if_pos hx]; exact ⟨_, rfl, rfl⟩
      · rw [if_neg hx]
        rcases g with g | g
        · exact absurd g hx
        · rw [if_neg (fun q => by
            have q2 : x ≤ nI 1 := q
            simp only [Int32.lt_iff_toInt_lt, Int32.le_iff_toInt_le] at *
            omega)]
          exact ⟨_, rfl, rfl⟩
