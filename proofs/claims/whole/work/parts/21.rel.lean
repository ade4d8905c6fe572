/-! WHAT A STATE IS. One world in numbers: (hours, flow, frost, dams, contradictions), talks (word, from, to go, said), log, the latest first (who, word, hour, said), sorts, latest words and 1, how many heard. -/
abbrev T4 : Type := Nat × Nat × Nat × Nat
abbrev WS : Type := (Nat × Nat × Nat × Nat × Nat) × List T4 × List T4 × (Nat → Nat) × (Nat → Nat) × (Nat → Nat)
abbrev hrs (A : WS) : Nat := A.1.1
abbrev flw (A : WS) : Nat := A.1.2.1
abbrev fro (A : WS) : Nat := A.1.2.2.1
abbrev dmm (A : WS) : Nat := A.1.2.2.2.1
abbrev unl (A : WS) : Nat := A.1.2.2.2.2
abbrev tls (A : WS) : List T4 := A.2.1
abbrev lgs (A : WS) : List T4 := A.2.2.1
abbrev srt (A : WS) : Nat → Nat := A.2.2.2.1
abbrev lat (A : WS) : Nat → Nat := A.2.2.2.2.1
abbrev hrd (A : WS) : Nat → Nat := A.2.2.2.2.2
/-- the dale: farms, words, where each beck runs to, how far, the fall's word -/
abbrev LG : Type := Nat × Nat × (Nat → Nat) × (Nat → Nat) × (Nat → Nat)
abbrev nF (L : LG) : Nat := L.1
abbrev nW (L : LG) : Nat := L.2.1
abbrev nx (L : LG) : Nat → Nat := L.2.2.1
abbrev fa (L : LG) : Nat → Nat := L.2.2.2.1
abbrev ky (L : LG) : Nat → Nat := L.2.2.2.2
def LI (L : LG) : Prop := nF L ≤ 9 ∧ nW L ≤ 9 ∧ (nF L = 0 → nW L = 0) ∧ (0 < nF L → 2 ≤ nW L) ∧ (nx L 0 = 0 ∧ fa L 0 = 0 ∧ ky L 0 = 0) ∧ ∀ a, 0 < a → a < nF L → nx L a < a ∧ 1 ≤ fa L a ∧ fa L a ≤ 9 ∧ ky L a < nW L
def LC (c : MM) (L : LG) : Prop := c 3 0 = nI (nW L) ∧ c 3 2 = nI (nF L) ∧ ∀ a, a < nF L → c 4 a = nI (nx L a) ∧ c 5 a = nI (fa L a) ∧ c 7 a = nI (ky L a)
def LR (m : MM) (L : LG) : Prop := m 144 0 = nI (nW L) ∧ m 144 1 = nI (nF L) ∧ (m 145 0 = 0 ∧ m 146 0 = 0 ∧ m 148 0 = 0) ∧ ∀ a, a < nF L → m 145 a = nI (nx L a) ∧ m 146 a = nI (fa L a) ∧ m 148 a = nI (ky L a)
/-- a world of the class at the cell w -/
def CS0 (c : MM) (w : Nat) (A : WS) : Prop := c w 0 = nI (hrs A) ∧ c w 1 = nI (flw A) ∧ c w 2 = nI (fro A) ∧ c w 3 = nI (dmm A) ∧ c w 4 = nI (unl A) ∧ c w 5 = nI (tls A).length ∧ c w 6 = nI (lgs A).length
def t4C (c : MM) (r k : Nat) (t : T4) : Prop := c r k = nI t.1 ∧ c r (k + 1) = nI t.2.1 ∧ c r (k + 2) = nI t.2.2.1 ∧ c r (k + 3) = nI t.2.2.2
def CT0 (c : MM) (w : Nat) (A : WS) : Prop := ∀ i t, (tls A)[i]? = some t → t4C c (w + 1) (4 * i) t
def CL0 (c : MM) (w : Nat) (A : WS) : Prop := ∃ E, E < 20 ∧ c w 7 = nI E ∧ ∀ i t, (lgs A)[i]? = some t → t4C c (w + 2) (4 * ((E + 39 - i) % 20)) t
def CA0 (c : MM) (w F : Nat) (A : WS) : Prop := (∀ a, a < F → c (w + 3) a = nI (srt A a)) ∧ (∀ a, a < F → c (w + 4) a = nI (lat A a) - 1) ∧ ∀ a, a < 9 → c (w + 5) a = nI (hrd A a)
def CW (c : MM) (w F : Nat) (A : WS) : Prop := CS0 c w A ∧ CT0 c w A ∧ CL0 c w A ∧ CA0 c w F A
/-- a world of the reference in its row R from the place o on -/
def RS0 (m : MM) (R o : Nat) (A : WS) : Prop := m R (o + 12) = nI (hrs A) ∧ m R (o + 10) = nI (flw A) ∧ m R (o + 11) = nI (fro A) ∧ m R (o + 9) = nI (dmm A) ∧ m R (o + 13) = nI (unl A) ∧ m R (o + 32) = nI (tls A).length ∧ m R (o + 45) = nI (lgs A).length
def pkT (t : T4) : Nat := 1000 * t.2.2.1 + 100 * t.2.1 + 10 * t.1 + t.2.2.2
def pkL (t : T4) : Nat := 1000 * t.2.2.1 + 100 * t.1 + 10 * t.2.1 + t.2.2.2
def RT0 (m : MM) (R o : Nat) (A : WS) : Prop := ∀ i t, (tls A)[i]? = some t → m R (o + 33 + i) = nI (pkT t)
def RL0 (m : MM) (R o : Nat) (A : WS) : Prop := ∀ i t, (lgs A)[i]? = some t → m R (o + 46 + ((lgs A).length - 1 - i)) = nI (pkL t)
def RA0 (m : MM) (R o F : Nat) (A : WS) : Prop := (∀ a, a < F → m R (o + a) = nI (srt A a)) ∧ (∀ a, a < 9 → m R (o + 14 + a) = nI (lat A a) - 1) ∧ ∀ a, a < 9 → m R (o + 23 + a) = nI (hrd A a)
def RW (m : MM) (R o F : Nat) (A : WS) : Prop := RS0 m R o A ∧ RT0 m R o A ∧ RL0 m R o A ∧ RA0 m R o F A
/-- what is always so of a world -/
def tkI (L : LG) (t : T4) : Prop := t.1 < nW L ∧ (0 < t.2.1 ∧ t.2.1 < nF L) ∧ (1 ≤ t.2.2.1 ∧ t.2.2.1 ≤ 36) ∧ (0 < t.2.2.2 ∧ t.2.2.2 < nF L)
def lgI (t : T4) : Prop := t.1 ≤ 8 ∧ t.2.1 ≤ 8 ∧ t.2.2.1 ≤ 9300 ∧ t.2.2.2 ≤ 8
def IW (L : LG) (A : WS) : Prop := flw A ≤ 9 ∧ fro A ≤ 1 ∧ (dmm A < 2 ^ nF L ∧ dmm A % 2 = 0) ∧ unl A ≤ 999999 ∧ ((tls A).length ≤ 12 ∧ ∀ t ∈ tls A, tkI L t) ∧ ((lgs A).length ≤ 20 ∧ ∀ t ∈ lgs A, lgI t) ∧ (∀ a, a < nF L → srt A a ≤ 4) ∧ srt A 0 = 0 ∧ (∀ a, a < 9 → lat A a ≤ nW L) ∧ ∀ a, a < 9 → hrd A a ≤ 999999
/-- both sides hold the world A at their places -/
def BW (c m : MM) (w R o : Nat) (L : LG) (A : WS) : Prop := CW c w (nF L) A ∧ RW m R o (nF L) A ∧ IW L A
abbrev IM : Type := Option (WS × Int32)
def imI (c m : MM) (L : LG) (K i : Nat) (im : IM) : Prop := match im with
  | none => K.testBit i = false ∧ m 165 i = 0
  | some (B, sd) => K.testBit i = true ∧ m 165 i = 1 ∧ BW c m (36 + 6 * i) 164 (67 * i) L B ∧ hrs B ≤ 9060 ∧ c 16 i = sd ∧ m 164 (67 * i + 66) = sd ∧ 0 ≤ sd
def RText (c m : MM) (n : Nat) : Prop := n ≤ 240 ∧ c 1 1 = nI n ∧ m 144 10 = nI n ∧ ∀ k, k < n → ∃ x, x ≤ 255 ∧ c 2 k = nI x ∧ m 150 k = nI x
def RPast (c m : MM) (L : LG) (P : List WS) : Prop := P.length ≤ 16 ∧ m 144 24 = nI P.length ∧ c 13 2 = nI P.length ∧ ∃ e, e < 16 ∧ c 13 1 = nI e ∧ ∀ i B, P[i]? = some B → BW c m (48 + 6 * ((e + 16 - P.length + i) % 16)) 157 (66 * i) L B ∧ hrs B ≤ 9060
def RSeen (c m : MM) (L : LG) : Prop := ∃ k, k ≤ 6 ∧ c 17 3 = nI k ∧ m 144 27 = nI k ∧ ∀ i, i < k → ∃ x y, x < nW L ∧ y < nW L ∧ c 18 i = nI x ∧ m 159 i = nI x ∧ c 19 i = nI y ∧ m 160 i = nI y
def RBook (c m : MM) (L : LG) : Prop := ∃ k, k ≤ 15 ∧ c 21 2 = nI k ∧ m 144 31 = nI k ∧ ∀ i, i < k → ∃ a, a < nF L ∧ c 22 i = nI a ∧ m 162 i = nI a ∧ c 23 i = m 163 i
def RImg (c m : MM) (L : LG) (I0 I1 : IM) : Prop := ∃ K, K < 4 ∧ c 0 8 = nI K ∧ imI c m L K 0 I0 ∧ imI c m L K 1 I1
def RSd (c m : MM) : Prop := c 0 9 = m 144 8 ∧ 0 ≤ c 0 9
def RelS (c m : MM) (n : Nat) (L : LG) (A : WS) (P : List WS) (I0 I1 : IM) : Prop :=
  RText c m n ∧ c 1 4 = m 144 11 ∧ (LI L ∧ LC c L ∧ LR m L) ∧ (BW c m 24 149 0 L A ∧ hrs A ≤ 9060) ∧ RPast c m L P ∧ RImg c m L I0 I1 ∧ RSd c m ∧ RSeen c m L ∧ RBook c m L
def Rel (c m : MM) : Prop := ∃ n L A P I0 I1, RelS c m n L A P I0 I1
/-- a call: both answer alike, and are alike behind it -/
def Ok (c m : MM) (fx fr : Option (Int32 × MM)) : Prop := ∃ r c' m', fx = some (r, c') ∧ fr = some (r, m') ∧ Rel c' m'
/-! cells that the relation speaks of -/
theorem CW.eq {c c' : MM} {w F : Nat} {A : WS} (h : CW c w F A) (e : ∀ k, k < 6 → c' (w + k) = c (w + k)) : CW c' w F A := by
  have e0 : c' w = c w := e 0 (by decide)
  have e1 := e 1 (by decide)
  have e2 := e 2 (by decide)
  have e3 := e 3 (by decide)
  have e4 := e 4 (by decide)
  have e5 := e 5 (by decide)
  unfold CW CS0 CT0 CL0 CA0 t4C at *
  rw [e0, e1, e2, e3, e4, e5]
  exact h
theorem RW.eq {m m' : MM} {R o F : Nat} {A : WS} (h : RW m R o F A) (e : ∀ k, k < 66 → m' R (o + k) = m R (o + k)) (hI : F ≤ 9 ∧ (tls A).length ≤ 12 ∧ (lgs A).length ≤ 20) : RW m' R o F A := by
  obtain ⟨h1, h2, h3, h4, h5, h6⟩ := h
  refine ⟨?_, ?_, ?_, ?_, ?_, ?_⟩
  · unfold RS0 at *
    rw [e 12 (by decide), e 10 (by decide), e 11 (by decide), e 9 (by decide), e 13 (by decide), e 32 (by decide), e 45 (by decide)]
    exact h1
  · intro i t ht
    have hl := (List.getElem?_eq_some_iff.mp ht).1
    rw [Nat.add_assoc, e (33 + i) (by omega), ← Nat.add_assoc]
    exact h2 i t ht
  · intro i t ht
    have hl := (List.getElem?_eq_some_iff.mp ht).1
    rw [Nat.add_assoc, e _ (by omega), ← Nat.add_assoc]
    exact h3 i t ht
  · intro a ha
    rw [e a (by omega)]
    exact h4 a ha
  · intro a ha
    rw [Nat.add_assoc, e _ (by omega), ← Nat.add_assoc]
    exact h5 a ha
  · intro a ha
    rw [Nat.add_assoc, e _ (by omega), ← Nat.add_assoc]
    exact h6 a ha
theorem BW.eq {c c' m m' : MM} {w R o : Nat} {L : LG} {A : WS} (h : BW c m w R o L A) (hF : nF L ≤ 9) (ec : ∀ k, k < 6 → c' (w + k) = c (w + k)) (em : ∀ k, k < 66 → m' R (o + k) = m R (o + k)) : BW c' m' w R o L A :=
  ⟨h.1.eq ec, h.2.1.eq em ⟨hF, h.2.2.2.2.2.2.1.1, h.2.2.2.2.2.2.2.1.1⟩, h.2.2⟩
