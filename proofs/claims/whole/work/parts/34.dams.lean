/-! the fewest dams -/
theorem dw_nx {L : LG} (hI : LI L) (D : Nat) {a : Nat} (h0 : 0 < a) (hF : a < nF L) : (dw L D a).testBit (nx L a) = true := by
  rw [dw_s hI D h0 hF, Nat.testBit_or, Nat.testBit_two_pow]; simp
theorem and0 {x S : Nat} : x &&& S = 0 ↔ ∀ i, ¬ (x.testBit i = true ∧ S.testBit i = true) := by
  constructor
  · intro h i q
    have : (x &&& S).testBit i = true := by rw [Nat.testBit_and, q.1, q.2]; rfl
    rw [h] at this
    simp at this
  · intro h
    apply Nat.eq_of_testBit_eq
    intro i
    rw [Nat.testBit_and, Nat.zero_testBit]
    have := h i
    revert this
    cases x.testBit i <;> cases S.testBit i <;> simp
theorem or_and0 {x y S : Nat} (h1 : x &&& S = 0) (h2 : y &&& S = 0) : (x ||| y) &&& S = 0 := by
  rw [and0] at *
  intro i q
  rw [Nat.testBit_or] at q
  have a1 := h1 i
  have a2 := h2 i
  revert q a1 a2
  cases x.testBit i <;> cases y.testBit i <;> cases S.testBit i <;> simp
theorem pw_and0 {t S : Nat} (h : S.testBit t = false) : 2 ^ t &&& S = 0 := by
  rw [and0]
  intro i q
  rw [Nat.testBit_two_pow] at q
  obtain ⟨q1, q2⟩ := q
  have : t = i := by simpa using q1
  subst this
  rw [h] at q2
  cases q2
theorem hi_bit {more e t : Nat} (h : more < 2 ^ e) (ht : e ≤ t) : more.testBit t = false := Nat.testBit_lt_two_pow (Nat.lt_of_lt_of_le h (Nat.pow_le_pow_right (by decide) ht))
/-- what the way from a shows: nobody of S hears; the first does; or a dam at e is the least that helps -/
def wayI (L : LG) (D S a : Nat) : Prop := dw L D a &&& S = 0
def wayN (L : LG) (S a : Nat) : Prop := 0 < a ∧ S.testBit (nx L a) = true
def wayE (L : LG) (D S a e : Nat) : Prop := 0 < e ∧ e < nF L ∧ e ≤ nx L a ∧ D.testBit e = false ∧ S.testBit (nx L e) = true ∧ (∀ more, more < 2 ^ e → (dw L (D ||| more) a).testBit (nx L e) = true) ∧ dw L (D ||| 2 ^ e) a &&& S = 0
theorem fdC {c m : MM} {L : LG} {D : Nat} (H : Env2 c m L D) {S : Nat} (hS : S < 512) (l1 : Int32) : ∀ (k a : Nat), a ≤ k → a < nF L → ∀ (d : Int32) (n step : Nat), step + a ≤ 8 → a < n → (∃ q, f_X6_fewestDams_L8 l1 (nI S) c n d (nI a) (nI step) = some (.inl q) ∧ wayI L D S a) ∨ (f_X6_fewestDams_L8 l1 (nI S) c n d (nI a) (nI step) = some (.inr d) ∧ wayN L S a) ∨ ∃ e, f_X6_fewestDams_L8 l1 (nI S) c n d (nI a) (nI step) = some (.inr (nI (2 ^ e))) ∧ wayE L D S a e := by
  obtain ⟨hI, hC, hR, hD, hc, hm⟩ := H
  have hF9 := hI.1
  have at0 : ∀ (d : Int32) (n step : Nat), step ≤ 8 → 0 < n → ∃ q, f_X6_fewestDams_L8 l1 (nI S) c n d (nI 0) (nI step) = some (.inl q) := by
    intro d n step h1 h2
    obtain ⟨n, rfl⟩ : ∃ j, n = j + 1 := ⟨n - 1, by omega⟩
    simp only [f_X6_fewestDams_L8]
    rw [if_neg (show ¬ (9 : Int32) ≤ nI step from nI_ge (b := 9) (by omega) (by decide)), if_pos (show nI 0 = 0 from rfl)]
    exact ⟨_, rfl⟩
  have way0 : wayI L D S 0 := by unfold wayI; rw [dw_0]; simp
  intro k
  induction k with
  | zero =>
    intro a h hF d n step h1 h2
    obtain rfl : a = 0 := by omega
    obtain ⟨q, e⟩ := at0 d n step (by omega) h2
    exact Or.inl ⟨q, e, way0⟩
  | succ k ih =>
    intro a h hF d n step h1 h2
    by_cases h0 : a = 0
    · subst h0
      obtain ⟨q, e⟩ := at0 d n step (by omega) h2
      exact Or.inl ⟨q, e, way0⟩
    · have hx := (hI.2.2.2.2.2 a (by omega) hF).1
      obtain ⟨n, rfl⟩ : ∃ j, n = j + 1 := ⟨n - 1, by omega⟩
      simp only [f_X6_fewestDams_L8, bd]
      rw [if_neg (show ¬ (9 : Int32) ≤ nI step from nI_ge (b := 9) (by omega) (by decide)), if_neg (show ¬ nI a = 0 from nI_neI (b := 0) (by omega) (by decide) h0), cellC (n := 9) c rfl (by omega) (by decide), (hC.2.2 a hF).1, holds_nI hS (by omega)]
      by_cases hs : S.testBit (nx L a) = true
      · rw [if_pos hs, if_neg one_ne]
        exact Or.inr (Or.inl ⟨rfl, by omega, hs⟩)
      · have hs' : S.testBit (nx L a) = false := by simpa using hs
        rw [if_neg hs, if_pos rfl, sl_dec _ (by omega), onFrom hD hc (by omega), nI_1]
        have stepE : ∀ D', D'.testBit (nx L a) = false → dw L D' a = 2 ^ nx L a ||| dw L D' (nx L a) := by
          intro D' h9
          rw [dw_s hI D' (by omega) hF, h9]; rfl
        by_cases hd : D.testBit (nx L a) = true
        · rw [if_pos hd]
          obtain ⟨q, e⟩ := at0 (nI (2 ^ nx L a)) n (step + 1) (by omega) (by omega)
          refine Or.inl ⟨q, e, ?_⟩
          unfold wayI
          rw [dw_s hI D (by omega) hF, if_pos hd, Nat.or_zero]
          exact pw_and0 hs'
        · have hd' : D.testBit (nx L a) = false := by simpa using hd
          rw [if_neg hd]
          rcases ih (nx L a) (by omega) (by omega) (nI (2 ^ nx L a)) n (step + 1) (by omega) (by omega) with ⟨q, e, w⟩ | ⟨e, w⟩ | ⟨e, q, w⟩
          · refine Or.inl ⟨q, e, ?_⟩
            unfold wayI at *
            rw [stepE D hd']
            exact or_and0 (pw_and0 hs') w
          · refine Or.inr (Or.inr ⟨nx L a, e, ?_⟩)
            obtain ⟨w1, w2⟩ := w
            refine ⟨w1, by omega, Nat.le_refl _, hd', w2, fun more hmore => ?_, ?_⟩
            · rw [stepE _ (by rw [Nat.testBit_or, hd', hi_bit hmore (Nat.le_refl _)]; rfl), Nat.testBit_or, dw_nx hI _ w1 (by omega)]; simp
            · rw [dw_s hI _ (by omega) hF, if_pos (by rw [Nat.testBit_or, Nat.testBit_two_pow]; simp), Nat.or_zero]
              exact pw_and0 hs'
          · refine Or.inr (Or.inr ⟨e, q, ?_⟩)
            obtain ⟨w1, w2, w3, w4, w5, w6, w7⟩ := w
            have hpos : 0 < nx L a := by
              rcases Nat.eq_zero_or_pos (nx L a) with h | h
              · rw [h, hI.2.2.2.2.1.1] at w3; omega
              · exact h
            have hxx : nx L (nx L a) < nx L a := (hI.2.2.2.2.2 (nx L a) (by omega) (by omega)).1
            refine ⟨w1, w2, by omega, w4, w5, fun more hmore => ?_, ?_⟩
            · rw [stepE _ (by rw [Nat.testBit_or, hd', hi_bit hmore (by omega)]; rfl), Nat.testBit_or, w6 more hmore]; simp
            · rw [stepE _ (by rw [Nat.testBit_or, hd', Nat.testBit_two_pow]; simp; omega)]
              exact or_and0 (pw_and0 hs') w7
/-! the reference tries all sets -/
def LRs (m m' : MM) : Prop := (∀ q, q ≠ 149 → m' q = m q) ∧ ∀ k, k ≠ 9 → m' 149 k = m 149 k
theorem LRs.up {m m' : MM} (h : LRs m m') (v : Int32) : LRs m (up2 m' 149 9 v) := ⟨fun q hq => by rw [up2_ro hq, h.1 q hq], fun k hk => by rw [up2_ne (Or.inr hk), h.2 k hk]⟩
theorem dnD {c m m' : MM} {L : LG} {D D' : Nat} (H : Env2 c m L D) (hm : LRs m m') (hD' : D' < 512) (hv : m' 149 9 = nI D') {a : Nat} (ha : a < nF L) : f_X7_downOf (nI a) m' = some (nI (dw L D' a)) := by
  obtain ⟨hI, hC, hR, hD, hc, hmm⟩ := H
  have H' : Env2 (up2 c 24 3 (nI D')) m' L D' := ⟨hI, hC.eq rfl rfl rfl rfl rfl, hR.eq (by rw [hm.1 144 (by decide)]) (by rw [hm.1 144 (by decide)]) (hm.1 145 (by decide)) (hm.1 146 (by decide)) (hm.1 148 (by decide)), hD', up2_eq _ _ _ _, hv⟩
  exact (downX H' ha).2
theorem bit_or_lt {D more : Nat} (h1 : D < 512) (h2 : more < 512) : D ||| more < 512 := or_lt h1 h2
theorem andz {x y : Nat} (hx : x < 512) : (nI x &&& nI y = 0) ↔ x &&& y = 0 := by
  rw [fa_and]
  exact nI_eq (b := 0) (by have := @Nat.and_le_left x y; omega) (by decide)
/-- one turn where nothing is taken -/
theorem dt_no {c m : MM} {L : LG} {D S a : Nat} (H : Env2 c m L D) (hS : S < 512) (ha : a < nF L) {m' : MM} (hm : LRs m m') {more n : Nat} (hlt : more < 2 ^ nF L) (hno : ∀ _ : more &&& D = 0, ¬ dw L (D ||| more) a &&& S = 0) : ∃ m'', LRs m m'' ∧ f_X7_dams_L33 (nI a) (nI S) (nI D) (n + 1) (-1) (nI more) m' = f_X7_dams_L33 (nI a) (nI S) (nI D) n (-1) (nI (more + 2)) m'' := by
  have hF9 := H.1.1
  have hp := pow_512 hF9
  have hD := H.2.2.2.1
  have h32 : m' 144 1 = nI (nF L) := by rw [hm.1 144 (by decide)]; exact H.2.2.1.2.1
  refine ⟨up2 m' 149 9 (nI (D ||| more)), hm.up _, ?_⟩
  simp only [f_X7_dams_L33, bd]
  rw [h32, sl_dec _ (by omega), if_neg (nI_ge hlt (by omega)), fa_or, if_pos (show (-1 : Int32) < 0 by decide), z2, nI_add]
  by_cases h1 : more &&& D = 0
  · rw [if_pos ((andz (by omega)).mpr h1), Option.bind_some, if_neg one_ne, dnD H (hm.up (nI (D ||| more))) (bit_or_lt hD (by omega)) (up2_eq _ _ _ _) ha, Option.bind_some, if_neg (fun q => hno h1 ((andz (dw_lt H.1 _ a a (Nat.le_refl a) ha)).mp q))]
  · rw [if_neg (fun q => h1 ((andz (by omega)).mp q)), Option.bind_some, if_pos rfl]
theorem dt_run {c m : MM} {L : LG} {D S a : Nat} (H : Env2 c m L D) (hS : S < 512) (ha : a < nF L) {M : Nat} (hM : M ≤ 2 ^ nF L) : ∀ (j more : Nat) (m' : MM) (n : Nat), LRs m m' → more + 2 * j = M → (∀ x, more ≤ x → x < M → ∀ _ : x &&& D = 0, ¬ dw L (D ||| x) a &&& S = 0) → ∃ m'', LRs m m'' ∧ f_X7_dams_L33 (nI a) (nI S) (nI D) (n + j) (-1) (nI more) m' = f_X7_dams_L33 (nI a) (nI S) (nI D) n (-1) (nI M) m'' := by
  intro j
  induction j with
  | zero => intro more m' n hm h1 h2; exact ⟨m', hm, by rw [show more = M by omega]; rfl⟩
  | succ j ih =>
    intro more m' n hm h1 h2
    obtain ⟨m1, q1, q2⟩ := dt_no (n := n + j) H hS ha hm (show more < 2 ^ nF L by omega) (h2 more (Nat.le_refl _) (by omega))
    obtain ⟨m2, q3, q4⟩ := ih (more + 2) m1 n q1 (by omega) (fun x hx => h2 x (by omega))
    exact ⟨m2, q3, by rw [show n + (j + 1) = n + j + 1 from rfl, q2, q4]⟩
theorem pop_pos : ∀ n, n < 512 → 0 < n → 1 ≤ pop n := by decide +kernel
theorem pop_pow : ∀ e, e < 9 → pop (2 ^ e) = 1 := by decide
/-- behind the least nothing is taken -/
theorem dt_end {c m : MM} {L : LG} {D S a B : Nat} (H : Env2 c m L D) (hS : S < 512) (ha : a < nF L) (hB : B < 512) (hpB : pop B ≤ 1) : ∀ (j more : Nat) (m' : MM) (n : Nat), LRs m m' → 0 < more → more ≤ 2 ^ nF L + 1 → 2 ^ nF L < more + 2 * j → j < n → ∃ z m'', LRs m m'' ∧ f_X7_dams_L33 (nI a) (nI S) (nI D) n (nI B) (nI more) m' = some (nI B, z, m'') := by
  have hF9 := H.1.1
  have hp := pow_512 hF9
  have hD := H.2.2.2.1
  intro j
  induction j with
  | zero =>
    intro more m' n hm h1 h2 h3 h4
    obtain ⟨n, rfl⟩ : ∃ i, n = i + 1 := ⟨n - 1, by omega⟩
    have h32 : m' 144 1 = nI (nF L) := by rw [hm.1 144 (by decide)]; exact H.2.2.1.2.1
    simp only [f_X7_dams_L33]
    rw [h32, sl_dec _ (by omega), if_pos (nI_le (by omega) (by omega))]
    exact ⟨_, m', hm, rfl⟩
  | succ j ih =>
    intro more m' n hm h1 h2 h3 h4
    obtain ⟨n, rfl⟩ : ∃ i, n = i + 1 := ⟨n - 1, by omega⟩
    have h32 : m' 144 1 = nI (nF L) := by rw [hm.1 144 (by decide)]; exact H.2.2.1.2.1
    simp only [f_X7_dams_L33, bd]
    rw [h32, sl_dec _ (by omega)]
    by_cases hend : 2 ^ nF L ≤ more
    · rw [if_pos (nI_le hend (by omega))]
      exact ⟨_, m', hm, rfl⟩
    · have hpm := pop_pos more (by omega) h1
      have hpl : pop more < 2 ^ 31 := by unfold pop; omega
      rw [if_neg (nI_ge (by omega) (by omega)), fa_or, if_neg (nI_pos (by omega)), bits_nI (by omega), bits_nI hB, Option.bind_some, Option.bind_some, if_pos (nI_le (by omega) hpl), z2, nI_add]
      have e : (if nI more &&& nI D = 0 then some (0 : Int32) else some 0) = some 0 := by split <;> rfl
      rw [e, Option.bind_some, if_pos rfl]
      exact ih (more + 2) _ n (hm.up _) (by omega) (by omega) (by omega) (by omega)
theorem ok_dams {c m : MM} (h : Rel c m) (x y : Int32) : Ok c m ((f_X6_dams x y c).map fun r => (r, c)) (f_X7_dams x y m) := by
  obtain ⟨n, L, A, P, I0, I1, hr⟩ := id h
  have H := env_of hr
  have hF9 := H.1.1
  have hp := pow_512 hF9
  have hD := H.2.2.2.1
  simp only [f_X6_dams, f_X7_dams, bd]
  rcases farm_cs H.1 H.2.1 H.2.2.1 x with ⟨a, ha, rfl, e1, e2⟩ | ⟨e1, e2⟩
  · rcases set_cs H.1 H.2.1 H.2.2.1 y with ⟨S, hS1, hS, rfl, d1, d2⟩ | ⟨d1, d2⟩
    · rw [e1, e2, if_neg one_ne, if_neg one_ne, d1, d2, if_neg one_ne, if_neg one_ne, H.2.2.2.2.2]
      have fin : ∀ (v : Int32) (z : Int32) (m'' : MM), LRs m m'' → f_X6_fewestDams (nI a) (nI S) c = some v → f_X7_dams_L33 (nI a) (nI S) (nI (dmm A)) FU (-1) 0 m = some (v, z, m'') → Ok c m (((f_X6_fewestDams (nI a) (nI S) c).bind fun x3 => some x3).map fun r => (r, c)) ((f_X7_dams_L33 (nI a) (nI S) (nI (dmm A)) FU (-1) 0 m).bind fun z9 => some (z9.1, up2 z9.2.2 149 9 (nI (dmm A)))) := by
        intro v z m'' hl q1 q2
        rw [q1, q2]
        refine ⟨v, c, up2 m'' 149 9 (nI (dmm A)), rfl, rfl, h.scr (fun _ _ => rfl) (fun r hr => ?_)⟩
        by_cases h149 : r = 149
        · subst h149
          funext k
          by_cases hk : k = 9
          · subst hk; rw [up2_eq]; exact H.2.2.2.2.2.symm
          · rw [up2_ne (Or.inr hk)]; exact hl.2 k hk
        · rw [up2_ro h149]; exact hl.1 r h149
      have c0 : f_X6_fewestDams (nI a) (nI S) c = (f_X6_fewestDams_L8 (nI a) (nI S) c FU (-1) (nI a) (nI 0)).bind fun z5 => Sum.elim (fun y6 => some 0) (fun r => some r) z5 := rfl
      have self : LRs m m := ⟨fun _ _ => rfl, fun _ _ => rfl⟩
      have p2 : ∃ k, 2 ^ nF L = 2 * k := ⟨2 ^ (nF L - 1), by rw [← Nat.pow_succ']; congr 1; omega⟩
      obtain ⟨k, hk⟩ := p2
      rcases fdC H hS (nI a) a a (Nat.le_refl a) ha (-1) FU 0 (by omega) (by unfold FU; omega) with ⟨q, w1, w2⟩ | ⟨w1, w2⟩ | ⟨e, w1, w2⟩
      · -- nobody hears: no dam
        have t1 : ∀ j, f_X7_dams_L33 (nI a) (nI S) (nI (dmm A)) (j + 1) (-1) (nI 0) m = f_X7_dams_L33 (nI a) (nI S) (nI (dmm A)) j (nI 0) (nI 2) (up2 m 149 9 (nI (dmm A ||| 0))) := by
          intro j
          simp only [f_X7_dams_L33, bd]
          rw [H.2.2.1.2.1, sl_dec _ (by omega), if_neg (nI_ge (by omega) (by omega)), fa_or, if_pos (show (-1 : Int32) < 0 by decide), if_pos ((andz (by omega)).mpr (Nat.zero_and _)), Option.bind_some, if_neg one_ne, dnD H (self.up (nI (dmm A ||| 0))) (bit_or_lt hD (by omega)) (up2_eq _ _ _ _) ha, Option.bind_some, Nat.or_zero, if_pos ((andz (dw_lt H.1 _ a a (Nat.le_refl a) ha)).mpr w2)]
          rfl
        obtain ⟨z, m'', u1, u2⟩ := dt_end H hS ha (B := 0) (by decide) (by decide) 512 2 _ 1999 (self.up (nI (dmm A ||| 0))) (by omega) (by omega) (by omega) (by omega)
        refine fin 0 z m'' u1 ?_ ?_
        · rw [c0, w1]; rfl
        · exact (t1 1999).trans u2
      · -- the first hears: none helps
        obtain ⟨m'', u1, u2⟩ := dt_run H hS ha (M := 2 ^ nF L) (Nat.le_refl _) k 0 m (FU - k) self (by omega) (fun x _ _ _ q => (and0.mp q) (nx L a) ⟨dw_nx H.1 _ w2.1 ha, w2.2⟩)
        have hFU : FU - k + k = FU := by unfold FU; omega
        rw [hFU] at u2
        obtain ⟨j, hj⟩ : ∃ j, FU - k = j + 1 := ⟨FU - k - 1, by unfold FU; omega⟩
        have u3 : ∃ z, f_X7_dams_L33 (nI a) (nI S) (nI (dmm A)) (FU - k) (-1) (nI (2 ^ nF L)) m'' = some (-1, z, m'') := by
          rw [hj]
          simp only [f_X7_dams_L33]
          rw [show m'' 144 1 = nI (nF L) by rw [u1.1 144 (by decide)]; exact H.2.2.1.2.1, sl_dec _ (by omega), if_pos (nI_le (Nat.le_refl _) (by omega))]
          exact ⟨_, rfl⟩
        obtain ⟨z, u3⟩ := u3
        refine fin (-1) z m'' u1 ?_ (u2.trans u3)
        rw [c0, w1]; rfl
      · -- a dam at e
        obtain ⟨g1, g2, g3, g4, g5, g6, g7⟩ := w2
        have he9 : e < 9 := by omega
        have hpe : 2 ^ e < 2 ^ nF L := Nat.pow_lt_pow_right (by decide) g2
        have hev : 2 ^ e = 2 * 2 ^ (e - 1) := by rw [← Nat.pow_succ']; congr 1; omega
        obtain ⟨m1, u1, u2⟩ := dt_run H hS ha (M := 2 ^ e) (by omega) (2 ^ (e - 1)) 0 m (FU - 2 ^ (e - 1)) self (by omega) (fun x _ hx _ q => (and0.mp q) (nx L e) ⟨g6 x hx, g5⟩)
        have hFU : FU - 2 ^ (e - 1) + 2 ^ (e - 1) = FU := by unfold FU; omega
        rw [hFU] at u2
        obtain ⟨j, hj⟩ : ∃ j, FU - 2 ^ (e - 1) = j + 1 ∧ 1000 < j := ⟨FU - 2 ^ (e - 1) - 1, by unfold FU; omega, by unfold FU; omega⟩
        have u3 : f_X7_dams_L33 (nI a) (nI S) (nI (dmm A)) (j + 1) (-1) (nI (2 ^ e)) m1 = f_X7_dams_L33 (nI a) (nI S) (nI (dmm A)) j (nI (2 ^ e)) (nI (2 ^ e + 2)) (up2 m1 149 9 (nI (dmm A ||| 2 ^ e))) := by
          simp only [f_X7_dams_L33, bd]
          rw [show m1 144 1 = nI (nF L) by rw [u1.1 144 (by decide)]; exact H.2.2.1.2.1, sl_dec _ (by omega), if_neg (nI_ge (by omega) (by omega)), fa_or, if_pos (show (-1 : Int32) < 0 by decide), if_pos ((andz (by omega)).mpr (pw_and0 g4)), Option.bind_some, if_neg one_ne, dnD H (u1.up (nI (dmm A ||| 2 ^ e))) (bit_or_lt hD (by omega)) (up2_eq _ _ _ _) ha, Option.bind_some, if_pos ((andz (dw_lt H.1 _ a a (Nat.le_refl a) ha)).mpr g7), z2, nI_add]
        obtain ⟨z, m'', u4, u5⟩ := dt_end H hS ha (B := 2 ^ e) (by omega) (by rw [pop_pow e he9]; decide) 512 (2 ^ e + 2) _ j (u1.up (nI (dmm A ||| 2 ^ e))) (by omega) (by omega) (by omega) (by omega)
        refine fin (nI (2 ^ e)) z m'' u4 ?_ ?_
        · rw [c0, w1]; rfl
        · rw [hj.1] at u2
          exact (u2.trans u3).trans u5
    · rw [e1, e2, if_neg one_ne, if_neg one_ne, d1, d2, if_pos rfl, if_pos rfl]; exact ⟨_, _, _, rfl, rfl, h⟩
  · rw [e1, e2, if_pos rfl, if_pos rfl]; exact ⟨_, _, _, rfl, rfl, h⟩
