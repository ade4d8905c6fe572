/-! The abstract memory: a whole number at (cell, place); which cells there are, and of what kind, is fixed (sh). -/
abbrev MM : Type := Nat → Nat → Int32
def up2 (μ : MM) (r k : Nat) (v : Int32) : MM := fun r' k' => if r' = r ∧ k' = k then v else μ r' k'
abbrev Sh : Type := (Nat × List (Option Nat)) ⊕ ((Nat × Nat) ⊕ List Nat)
/-- addresses; the classes' numbers; array classes; the launch; which cells (from, how many) -/
abbrev GT : Type := (Nat → Nat) × va_G × (ClassId × ClassId × ClassId) × Launch × Nat × Nat
def dom (g : GT) (r : Nat) : Prop := g.2.2.2.2.1 ≤ r ∧ r < g.2.2.2.2.1 + g.2.2.2.2.2
abbrev MI : Type := String × ByteArray × Nat × Option FieldType × MethodName
def fsDale (r : Nat) : List (Option Nat) := [none, none, none, some (r + 1), some (r + 2), some (r + 3), some (r + 4)]
def fsWorld (r : Nat) : List (Option Nat) := [none, none, none, none, none, none, none, none, some (r + 1), some (r + 2), some (r + 3), some (r + 4), some (r + 5)]
def shW (r k : Nat) : Sh := match k with
  | 0 => .inl (5, fsWorld r)
  | 1 => .inr (.inl (0, 48))
  | 2 => .inr (.inl (0, 80))
  | _ => .inr (.inl (0, 9))
def shS (k : Nat) : Sh := match k with
  | 0 => .inl (6, [some 1, some 3, some 8, some 24, some 30, some 13, some 15, some 16, none, none, some 17, some 21])
  | 1 => .inl (4, [some 2, none, none, none, none])
  | 2 => .inr (.inl (0, 240))
  | 3 => .inl (1, fsDale 3)
  | 8 => .inl (1, fsDale 8)
  | 13 => .inl (3, [some 14, none, none])
  | 14 => .inr (.inr [48, 54, 60, 66, 72, 78, 84, 90, 96, 102, 108, 114, 120, 126, 132, 138])
  | 15 => .inr (.inr [36, 42])
  | 16 => .inr (.inl (0, 2))
  | 17 => .inl (2, [some 18, some 19, some 20, none])
  | 18 => .inr (.inl (0, 6))
  | 19 => .inr (.inl (0, 6))
  | 20 => .inr (.inl (0, 9))
  | 21 => .inl (0, [some 22, some 23, none])
  | 22 => .inr (.inl (0, 15))
  | 23 => .inr (.inl (0, 15))
  | _ => .inr (.inl (0, 9))
def shM (k : Nat) : Sh := match k with
  | 0 => .inl (7, [none, none, none, some 145, some 146, some 147, some 148, some 149, none, some 150, none, none, none, none, none, none, none, none, some 151, some 152, some 153, some 154, some 155, some 156, none, some 157, some 158, none, some 159, some 160, some 161, none, some 162, some 163, some 164, some 165])
  | 1 => .inr (.inl (0, 9))
  | 2 => .inr (.inl (0, 9))
  | 3 => .inr (.inl (0, 9))
  | 4 => .inr (.inl (0, 9))
  | 5 => .inr (.inl (0, 66))
  | 6 => .inr (.inl (0, 240))
  | 7 => .inr (.inl (0, 9))
  | 8 => .inr (.inl (0, 9))
  | 9 => .inr (.inl (0, 9))
  | 10 => .inr (.inl (0, 9))
  | 11 => .inr (.inl (0, 9))
  | 12 => .inr (.inl (1, 9))
  | 13 => .inr (.inl (0, 1056))
  | 14 => .inr (.inl (0, 66))
  | 15 => .inr (.inl (0, 6))
  | 16 => .inr (.inl (0, 6))
  | 17 => .inr (.inl (0, 10))
  | 18 => .inr (.inl (0, 15))
  | 19 => .inr (.inl (0, 15))
  | 20 => .inr (.inl (0, 134))
  | _ => .inr (.inl (1, 2))
def NC : Nat := 166
def sh (k : Nat) : Sh := if k < 24 then shS k else if k < 144 then shW (24 + 6 * ((k - 24) / 6)) ((k - 24) % 6) else shM (k - 144)


def wG : List Cond := lw_tbl.filter goodWord
def nestW : List Cond := tables_1.filter (fun w => match w with | .methodLinkNest .. => true | _ => false)
def tysG (g : GT) : List (ClassId × FieldType) := [(g.2.2.1.1, .int), (g.2.2.1.2.1, .boolean), (g.2.2.1.2.2, .object "BeckTalk$World")]
def cv (g : GT) : Value → Value
  | .ref k => .ref (g.1 k)
  | v => v
def eF (g : GT) (μ : MM) (r : Nat) : Nat → List (Option Nat) → List Value
  | _, [] => []
  | j, none :: fs => .int (μ r j) :: eF g μ r (j + 1) fs
  | j, some q :: fs => .ref (g.1 q) :: eF g μ r (j + 1) fs
def eC' (g : GT) (μ : MM) (k : Nat) (s : Sh) : va_E := match s with
  | .inl (ci, fs) => .inr (ci, eF g μ k 0 fs)
  | .inr (.inl (t, n)) => .inl ((if t = 0 then g.2.2.1.1 else g.2.2.1.2.1), n, .inl (μ k))
  | .inr (.inr qs) => .inl (g.2.2.1.2.2, qs.length, .inr (.inr (.inr (.inr (fun i => (qs[i]?).map g.1)))))
def eC (g : GT) (μ : MM) (k : Nat) : va_E := eC' g μ k (sh k)
def eW (g : GT) (μ : MM) : va_W := (List.range g.2.2.2.2.2).map fun k => (g.1 (g.2.2.2.2.1 + k), eC g μ (g.2.2.2.2.1 + k))
def inA (g : GT) : Nat → Prop := fun q => ∃ k, dom g k ∧ q = g.1 k
def INJ (g : GT) : Prop := ∀ i j, dom g i → dom g j → g.1 i = g.1 j → i = j
def SK (g : GT) (U : State) : Prop := va_K g.2.1 vwCl (tysG g) U ∧ ∀ w ∈ nestW, va_Nw w U
def VP (g : GT) (μ : MM) (H : Heap) : Prop := va_P g.2.1 vwCl (eW g μ) H
def rmD (d : Nat) : Room := { frames := d, cells := 0, slots := 0, locals := 36 * d }
def QcA (g : GT) (Q : Option Value → MM → Prop) : Array Value → State → Outcome → State → Prop := fun _ st oc t => (∃ (rv : Option Value) (μ' : MM), oc = .returned (rv.map (cv g)) ∧ Q rv μ' ∧ VP g μ' t.heap ∧ SK g t) ∧ va_F (inA g) st t
def Ct (g : GT) (d : Nat) (mi : MI) (as : List Value) (μ : MM) (Q : Option Value → MM → Prop) : Prop :=
  Met g.2.2.2.1 mi.2.2.2.2 (.code mi.2.2.2.2 mi.2.1 mi.2.2.1 mi.2.2.2.1 :: wG) (rmD d) (va_Pc (as.map (cv g)) (fun U => VP g μ U.heap ∧ SK g U)) (QcA g Q) 0 0 (inA g)
def AtM (g : GT) (mi : MI) (p : Program) (s : State) (m : MethodId) (args : Array Value) (meth : Method) (c : Code) : Prop :=
  p.tables.exec = Jvm.exec ∧ c.code = mi.2.1 ∧ c.maxLocals = mi.2.2.1 ∧ s.vm.findClass mi.1 = some m.cls ∧ (∀ w ∈ wG, w.before args s = true) ∧ SK g s ∧ INJ g ∧ meth.sig.returnType = mi.2.2.2.1 ∧ meth.locks = false
def lsC (g : GT) : Nat → List (Option Value) → List (Nat × Value)
  | _, [] => []
  | i, none :: r => lsC g (i + 1) r
  | i, some v :: r => (i, cv g v) :: lsC g (i + 1) r
def WA (g : GT) (d : Nat) (mi : MI) (pc : Nat) (ls : List (Option Value)) (st : List Value) (μ : MM) (Q : Option Value → MM → Prop) : Prop :=
  ∀ (p : Program) (e : Env) (s : State) (m : MethodId) (args : Array Value) (below : List Frame) (meth : Method) (c : Code) (H : Heap) (locs : List Loc) (lsA : Array Slot),
    AtM g mi p s m args meth c → VP g μ H → va_S (inA g) s.heap H locs → lv_has lsA mi.2.2.1 (lsC g 0 ls) →
    W p g.2.2.2.1 e (rmD d) s m args below meth c H locs 0 0 (MQ below (QcA g Q) args s 0 0 (inA g)) (F0 m pc lsA (st.map (cv g)))
/-! plain facts of these words -/
theorem eW_get (g : GT) (μ : MM) {r : Nat} (h : dom g r) : (eW g μ)[r - g.2.2.2.2.1]? = some (g.1 r, eC g μ r) := by
  have e1 : r - g.2.2.2.2.1 < g.2.2.2.2.2 := by have := h.1; have := h.2; omega
  have e2 : g.2.2.2.2.1 + (r - g.2.2.2.2.1) = r := by have := h.1; omega
  simp [eW, List.getElem?_map, List.getElem?_range e1, e2]
theorem eW_D {g : GT} (hi : INJ g) (μ : MM) : va_D (inA g) (eW g μ) := by
  have key : ∀ (k : Nat) (q : Nat × va_E), (eW g μ)[k]? = some q → dom g (g.2.2.2.2.1 + k) ∧ q.1 = g.1 (g.2.2.2.2.1 + k) := by
    intro k q h
    have hk : k < g.2.2.2.2.2 := by
      have := (List.getElem?_eq_some_iff.mp h).1
      simpa [eW] using this
    have hd : dom g (g.2.2.2.2.1 + k) := ⟨Nat.le_add_right _ _, Nat.add_lt_add_left hk _⟩
    have h2 := eW_get g μ hd
    rw [Nat.add_sub_cancel_left, h] at h2
    exact ⟨hd, by rw [Option.some.inj h2]⟩
  refine ⟨fun i j p q hp hq hpq => ?_, fun k q h => ?_⟩
  · obtain ⟨h1, h2⟩ := key i p hp
    obtain ⟨h3, h4⟩ := key j q hq
    exact Nat.add_left_cancel (hi _ _ h1 h3 (by rw [← h2, ← h4]; exact hpq))
  · obtain ⟨h1, h2⟩ := key k q h
    exact ⟨_, h1, h2⟩
theorem eF_get (g : GT) (μ : MM) (r : Nat) : ∀ (fs : List (Option Nat)) (j k : Nat), (eF g μ r j fs)[k]? = (fs[k]?).map (fun f => match f with | none => Value.int (μ r (j + k)) | some q => .ref (g.1 q))
  | [], j, k => by simp [eF]
  | f :: fs, j, 0 => by cases f <;> simp [eF]
  | f :: fs, j, k + 1 => by
    cases f
    · simp only [eF, List.getElem?_cons_succ]
      rw [eF_get g μ r fs (j + 1) k]
      rw [show j + 1 + k = j + (k + 1) by omega]
    · simp only [eF, List.getElem?_cons_succ]
      rw [eF_get g μ r fs (j + 1) k]
      rw [show j + 1 + k = j + (k + 1) by omega]
theorem eF_len (g : GT) (μ : MM) (r : Nat) : ∀ (fs : List (Option Nat)) (j : Nat), (eF g μ r j fs).length = fs.length
  | [], j => rfl
  | none :: fs, j => by simp [eF, eF_len g μ r fs (j + 1)]
  | some q :: fs, j => by simp [eF, eF_len g μ r fs (j + 1)]
theorem eF_up (g : GT) (μ : MM) (r k : Nat) (v : Int32) (fs : List (Option Nat)) (hk : fs[k]? = some none) : eF g (up2 μ r k v) r 0 fs = (eF g μ r 0 fs).set k (.int v) := by
  apply List.ext_getElem?
  intro i
  rw [List.getElem?_set, eF_get, eF_get, eF_len]
  have hkl : k < fs.length := (List.getElem?_eq_some_iff.mp hk).1
  by_cases h : k = i
  · subst h
    rw [if_pos rfl, if_pos hkl, hk]
    simp [up2]
  · rw [if_neg h]
    cases fs[i]? with
    | none => rfl
    | some f =>
      cases f with
      | none => simp [up2, Ne.symm h]
      | some q => rfl
theorem eF_off (g : GT) (μ : MM) (r r' k : Nat) (v : Int32) (h : r' ≠ r) : ∀ (fs : List (Option Nat)) (j : Nat), eF g (up2 μ r k v) r' j fs = eF g μ r' j fs
  | [], j => rfl
  | none :: fs, j => by simp [eF, eF_off g μ r r' k v h fs (j + 1), up2, h]
  | some q :: fs, j => by simp [eF, eF_off g μ r r' k v h fs (j + 1)]
theorem eC_off (g : GT) (μ : MM) (r r' k : Nat) (v : Int32) (h : r' ≠ r) : eC g (up2 μ r k v) r' = eC g μ r' := by
  unfold eC
  rcases sh r' with ⟨ci, fs⟩ | ⟨t, n⟩ | qs
  · simp only [eC']; rw [eF_off g μ r r' k v h]
  · simp only [eC']
    have : up2 μ r k v r' = μ r' := by funext x; simp [up2, h]
    rw [this]
  · rfl
theorem SK.moved {g : GT} {s U : State} (hW : s.WarmedH U.vm) (h : SK g s) : SK g U := by
  refine ⟨va_K.moved hW.alike h.1, fun w hw => ?_⟩
  have h1 := h.2 w hw
  have h2 := (List.mem_filter.mp hw).2
  cases w with
  | methodLinkNest a i x b => exact va_Nw.warmM hW h1
  | _ => exact absurd h2 (by simp)
theorem lsC_mem (g : GT) : ∀ (ls : List (Option Value)) (i k : Nat) (v : Value), ls[k]? = some (some v) → (i + k, cv g v) ∈ lsC g i ls
  | [], i, k, v, h => by simp at h
  | none :: r, i, 0, v, h => by simp at h
  | none :: r, i, k + 1, v, h => by
    have := lsC_mem g r (i + 1) k v (by simpa using h)
    rw [show i + (k + 1) = i + 1 + k by omega]
    simpa [lsC] using this
  | some u :: r, i, 0, v, h => by
    have e : u = v := by simpa using h
    subst e
    simp [lsC]
  | some u :: r, i, k + 1, v, h => by
    have := lsC_mem g r (i + 1) k v (by simpa using h)
    rw [show i + (k + 1) = i + 1 + k by omega]
    simp only [lsC]
    exact List.mem_cons_of_mem _ this
theorem lsC_inv (g : GT) : ∀ (ls : List (Option Value)) (i : Nat) (q : Nat × Value), q ∈ lsC g i ls → ∃ (k : Nat) (v : Value), ls[k]? = some (some v) ∧ q = (i + k, cv g v)
  | [], i, q, h => by simp [lsC] at h
  | none :: r, i, q, h => by
    obtain ⟨k, v, h1, h2⟩ := lsC_inv g r (i + 1) q (by simpa [lsC] using h)
    exact ⟨k + 1, v, by simpa using h1, by rw [h2, show i + (k + 1) = i + 1 + k by omega]⟩
  | some u :: r, i, q, h => by
    rcases List.mem_cons.mp (by simpa only [lsC] using h) with h | h
    · exact ⟨0, u, rfl, h⟩
    · obtain ⟨k, v, h1, h2⟩ := lsC_inv g r (i + 1) q h
      exact ⟨k + 1, v, by simpa using h1, by rw [h2, show i + (k + 1) = i + 1 + k by omega]⟩
theorem lv_has.le {ls : Array Slot} {n : Nat} {l l' : List (Nat × Value)} (h : lv_has ls n l) (hs : ∀ q ∈ l', q ∈ l) : lv_has ls n l' := ⟨h.1, h.2.1, fun q hq => h.2.2 q (hs q hq)⟩
theorem cv_cat (g : GT) (v : Value) : (cv g v).category = v.category := by cases v <;> rfl
theorem cv_sum (g : GT) : ∀ st : List Value, ((st.map (cv g)).map fun v => v.category).sum = (st.map fun v => v.category).sum
  | [] => rfl
  | v :: r => by
    have := cv_sum g r
    simp only [List.map_cons, List.sum_cons, cv_cat, this]
def nl : Option Value → Bool
  | some v => v.category == 1
  | none => true
theorem nl_prev {x : Option Value} {u : Value} (hq : nl x = true) (e : x = some u) : u.category = 1 := by rw [e] at hq; exact eq_of_beq hq
theorem lsC_st1 {g : GT} {ls : List (Option Value)} {k : Nat} {v : Value} (hk : k < ls.length) (hp : ∀ j, j + 1 = k → ∀ u, ls[j]? = some (some u) → u.category = 1) : ∀ q ∈ lsC g 0 (ls.set k (some v)), q ∈ (k, cv g v) :: (lsC g 0 ls).filter (fun q => !(q.1 == k) && !(q.1 + 1 == k && q.2.category == 2)) := by
  intro q hq
  obtain ⟨i, u, h1, h2⟩ := lsC_inv g _ 0 q hq
  rw [Nat.zero_add] at h2
  rw [List.getElem?_set] at h1
  by_cases h : k = i
  · subst h
    rw [if_pos rfl, if_pos hk] at h1
    have e : v = u := Option.some.inj (Option.some.inj h1)
    rw [h2, ← e]
    exact List.mem_cons_self
  · rw [if_neg h] at h1
    refine List.mem_cons_of_mem _ (List.mem_filter.mpr ⟨?_, ?_⟩)
    · rw [h2]; have := lsC_mem g ls 0 i u h1; rwa [Nat.zero_add] at this
    · rw [h2]
      have h3 : ¬ (i = k) := fun e => h e.symm
      by_cases h4 : i + 1 = k
      · have := hp i h4 u h1
        simp [h3, cv_cat, this]
      · simp [h3, h4]
theorem lsC_st2 {g : GT} {ls : List (Option Value)} {k : Nat} {v : Value} (hk : k + 1 < ls.length) (hp : ∀ j, j + 1 = k → ∀ u, ls[j]? = some (some u) → u.category = 1) : ∀ q ∈ lsC g 0 ((ls.set k (some v)).set (k + 1) none), q ∈ (k, cv g v) :: (lsC g 0 ls).filter (fun q => !(q.1 == k) && (!(q.1 == k + 1) && !(q.1 + 1 == k && q.2.category == 2))) := by
  intro q hq
  obtain ⟨i, u, h1, h2⟩ := lsC_inv g _ 0 q hq
  rw [Nat.zero_add] at h2
  rw [List.getElem?_set] at h1
  by_cases h9 : k + 1 = i
  · subst h9
    rw [if_pos rfl] at h1
    simp at h1
  · rw [if_neg h9, List.getElem?_set] at h1
    by_cases h : k = i
    · subst h
      rw [if_pos rfl, if_pos (by omega)] at h1
      have e : v = u := Option.some.inj (Option.some.inj h1)
      rw [h2, ← e]
      exact List.mem_cons_self
    · rw [if_neg h] at h1
      refine List.mem_cons_of_mem _ (List.mem_filter.mpr ⟨?_, ?_⟩)
      · rw [h2]; have := lsC_mem g ls 0 i u h1; rwa [Nat.zero_add] at this
      · rw [h2]
        have h3 : ¬ (i = k) := fun e => h e.symm
        have h5 : ¬ (i = k + 1) := fun e => h9 e.symm
        by_cases h4 : i + 1 = k
        · have := hp i h4 u h1
          simp [h3, h5, cv_cat, this]
        · simp [h3, h4, h5]

section AROWS
variable {g : GT} {d : Nat} {mi : MI} {pc : Nat} {ls : List (Option Value)} {st : List Value} {μ : MM} {Q : Option Value → MM → Prop}
theorem a_iadd {x y : Int32} (hd : decode mi.2.1 pc = .ok (.iadd, 1)) (k : WA g d mi (pc + 1) ls (.int (x + y) :: st) μ Q) : WA g d mi pc ls (.int y :: .int x :: st) μ Q := by
  intro p e s m args below meth c H locs lsA A hP hS hl
  exact lv_iadd A.1 A.2.1 hd (k p e s m args below meth c H locs lsA A hP hS hl)
theorem a_isub {x y : Int32} (hd : decode mi.2.1 pc = .ok (.isub, 1)) (k : WA g d mi (pc + 1) ls (.int (x - y) :: st) μ Q) : WA g d mi pc ls (.int y :: .int x :: st) μ Q := by
  intro p e s m args below meth c H locs lsA A hP hS hl
  exact lv_isub A.1 A.2.1 hd (k p e s m args below meth c H locs lsA A hP hS hl)
theorem a_imul {x y : Int32} (hd : decode mi.2.1 pc = .ok (.imul, 1)) (k : WA g d mi (pc + 1) ls (.int (x * y) :: st) μ Q) : WA g d mi pc ls (.int y :: .int x :: st) μ Q := by
  intro p e s m args below meth c H locs lsA A hP hS hl
  exact lv_imul A.1 A.2.1 hd (k p e s m args below meth c H locs lsA A hP hS hl)
theorem a_iand {x y : Int32} (hd : decode mi.2.1 pc = .ok (.iand, 1)) (k : WA g d mi (pc + 1) ls (.int (x &&& y) :: st) μ Q) : WA g d mi pc ls (.int y :: .int x :: st) μ Q := by
  intro p e s m args below meth c H locs lsA A hP hS hl
  exact lv_iand A.1 A.2.1 hd (k p e s m args below meth c H locs lsA A hP hS hl)
theorem a_ior {x y : Int32} (hd : decode mi.2.1 pc = .ok (.ior, 1)) (k : WA g d mi (pc + 1) ls (.int (x ||| y) :: st) μ Q) : WA g d mi pc ls (.int y :: .int x :: st) μ Q := by
  intro p e s m args below meth c H locs lsA A hP hS hl
  exact lv_ior A.1 A.2.1 hd (k p e s m args below meth c H locs lsA A hP hS hl)
theorem a_ixor {x y : Int32} (hd : decode mi.2.1 pc = .ok (.ixor, 1)) (k : WA g d mi (pc + 1) ls (.int (x ^^^ y) :: st) μ Q) : WA g d mi pc ls (.int y :: .int x :: st) μ Q := by
  intro p e s m args below meth c H locs lsA A hP hS hl
  exact lv_ixor A.1 A.2.1 hd (k p e s m args below meth c H locs lsA A hP hS hl)
theorem a_idiv {x y : Int32} (hd : decode mi.2.1 pc = .ok (.idiv, 1)) (hne : ¬ y = 0) (k : WA g d mi (pc + 1) ls (.int (x / y) :: st) μ Q) : WA g d mi pc ls (.int y :: .int x :: st) μ Q := by
  intro p e s m args below meth c H locs lsA A hP hS hl
  exact lv_idiv A.1 A.2.1 hd hne (k p e s m args below meth c H locs lsA A hP hS hl)
theorem a_irem {x y : Int32} (hd : decode mi.2.1 pc = .ok (.irem, 1)) (hne : ¬ y = 0) (k : WA g d mi (pc + 1) ls (.int (x - x / y * y) :: st) μ Q) : WA g d mi pc ls (.int y :: .int x :: st) μ Q := by
  intro p e s m args below meth c H locs lsA A hP hS hl
  exact lv_irem A.1 A.2.1 hd hne (k p e s m args below meth c H locs lsA A hP hS hl)
theorem a_ineg {x : Int32} (hd : decode mi.2.1 pc = .ok (.ineg, 1)) (k : WA g d mi (pc + 1) ls (.int (-x) :: st) μ Q) : WA g d mi pc ls (.int x :: st) μ Q := by
  intro p e s m args below meth c H locs lsA A hP hS hl
  exact lv_ineg A.1 A.2.1 hd (k p e s m args below meth c H locs lsA A hP hS hl)
theorem a_ishl {x y : Int32} (hd : decode mi.2.1 pc = .ok (.ishl, 1)) (k : WA g d mi (pc + 1) ls (.int (x <<< (y &&& 31)) :: st) μ Q) : WA g d mi pc ls (.int y :: .int x :: st) μ Q := by
  intro p e s m args below meth c H locs lsA A hP hS hl
  exact lv_ishl A.1 A.2.1 hd (k p e s m args below meth c H locs lsA A hP hS hl)
theorem a_ishr {x y : Int32} (hd : decode mi.2.1 pc = .ok (.ishr, 1)) (k : WA g d mi (pc + 1) ls (.int (x >>> (y &&& 31)) :: st) μ Q) : WA g d mi pc ls (.int y :: .int x :: st) μ Q := by
  intro p e s m args below meth c H locs lsA A hP hS hl
  exact lv_ishr A.1 A.2.1 hd (k p e s m args below meth c H locs lsA A hP hS hl)
theorem a_iushr {x y : Int32} (hd : decode mi.2.1 pc = .ok (.iushr, 1)) (k : WA g d mi (pc + 1) ls (.int ((x.toUInt32 >>> (y.toUInt32 &&& Int32.toUInt32 31)).toInt32) :: st) μ Q) : WA g d mi pc ls (.int y :: .int x :: st) μ Q := by
  intro p e s m args below meth c H locs lsA A hP hS hl
  exact lv_iushr A.1 A.2.1 hd rfl (k p e s m args below meth c H locs lsA A hP hS hl)
theorem a_ladd {x y : Int64} (hd : decode mi.2.1 pc = .ok (.ladd, 1)) (k : WA g d mi (pc + 1) ls (.long (x + y) :: st) μ Q) : WA g d mi pc ls (.long y :: .long x :: st) μ Q := by
  intro p e s m args below meth c H locs lsA A hP hS hl
  exact lv_ladd A.1 A.2.1 hd (k p e s m args below meth c H locs lsA A hP hS hl)
theorem a_lmul {x y : Int64} (hd : decode mi.2.1 pc = .ok (.lmul, 1)) (k : WA g d mi (pc + 1) ls (.long (x * y) :: st) μ Q) : WA g d mi pc ls (.long y :: .long x :: st) μ Q := by
  intro p e s m args below meth c H locs lsA A hP hS hl
  exact lv_lmul A.1 A.2.1 hd (k p e s m args below meth c H locs lsA A hP hS hl)
theorem a_land {x y : Int64} (hd : decode mi.2.1 pc = .ok (.land, 1)) (k : WA g d mi (pc + 1) ls (.long (x &&& y) :: st) μ Q) : WA g d mi pc ls (.long y :: .long x :: st) μ Q := by
  intro p e s m args below meth c H locs lsA A hP hS hl
  exact lv_land A.1 A.2.1 hd (k p e s m args below meth c H locs lsA A hP hS hl)
theorem a_ldiv {x y : Int64} (hd : decode mi.2.1 pc = .ok (.ldiv, 1)) (hne : ¬ y = 0) (k : WA g d mi (pc + 1) ls (.long (x / y) :: st) μ Q) : WA g d mi pc ls (.long y :: .long x :: st) μ Q := by
  intro p e s m args below meth c H locs lsA A hP hS hl
  exact lv_ldiv A.1 A.2.1 hd hne (k p e s m args below meth c H locs lsA A hP hS hl)
theorem a_lrem {x y : Int64} (hd : decode mi.2.1 pc = .ok (.lrem, 1)) (hne : ¬ y = 0) (k : WA g d mi (pc + 1) ls (.long (x - x / y * y) :: st) μ Q) : WA g d mi pc ls (.long y :: .long x :: st) μ Q := by
  intro p e s m args below meth c H locs lsA A hP hS hl
  exact lv_lrem A.1 A.2.1 hd hne (k p e s m args below meth c H locs lsA A hP hS hl)
theorem a_i2l {x : Int32} (hd : decode mi.2.1 pc = .ok (.i2l, 1)) (k : WA g d mi (pc + 1) ls (.long x.toInt64 :: st) μ Q) : WA g d mi pc ls (.int x :: st) μ Q := by
  intro p e s m args below meth c H locs lsA A hP hS hl
  exact lv_i2l A.1 A.2.1 hd rfl (k p e s m args below meth c H locs lsA A hP hS hl)
theorem a_l2i {x : Int64} (hd : decode mi.2.1 pc = .ok (.l2i, 1)) (k : WA g d mi (pc + 1) ls (.int x.toInt32 :: st) μ Q) : WA g d mi pc ls (.long x :: st) μ Q := by
  intro p e s m args below meth c H locs lsA A hP hS hl
  exact lv_l2i A.1 A.2.1 hd rfl (k p e s m args below meth c H locs lsA A hP hS hl)
theorem a_lcmp {x y : Int64} (hd : decode mi.2.1 pc = .ok (.lcmp, 1)) (k : WA g d mi (pc + 1) ls (.int (lg_cmp x y) :: st) μ Q) : WA g d mi pc ls (.long y :: .long x :: st) μ Q := by
  intro p e s m args below meth c H locs lsA A hP hS hl
  exact W.lcmp A.1 A.2.1 hd (k p e s m args below meth c H locs lsA A hP hS hl)
theorem a_iconst {n : Int} {v : Int32} (hd : decode mi.2.1 pc = .ok (.iconst n, 1)) (hv : Int32.ofInt n = v) (k : WA g d mi (pc + 1) ls (.int v :: st) μ Q) : WA g d mi pc ls (st) μ Q := by
  intro p e s m args below meth c H locs lsA A hP hS hl
  exact lv_iconst A.1 A.2.1 hd hv (k p e s m args below meth c H locs lsA A hP hS hl)
theorem a_bipush {n : Int} {v : Int32} (hd : decode mi.2.1 pc = .ok (.bipush n, 2)) (hv : (Int8.ofInt n).toInt32 = v) (k : WA g d mi (pc + 2) ls (.int v :: st) μ Q) : WA g d mi pc ls (st) μ Q := by
  intro p e s m args below meth c H locs lsA A hP hS hl
  exact lv_bipush A.1 A.2.1 hd hv (k p e s m args below meth c H locs lsA A hP hS hl)
theorem a_sipush {n : Int} {v : Int32} (hd : decode mi.2.1 pc = .ok (.sipush n, 3)) (hv : (Int16.ofInt n).toInt32 = v) (k : WA g d mi (pc + 3) ls (.int v :: st) μ Q) : WA g d mi pc ls (st) μ Q := by
  intro p e s m args below meth c H locs lsA A hP hS hl
  exact lv_sipush A.1 A.2.1 hd hv (k p e s m args below meth c H locs lsA A hP hS hl)
theorem a_lconst {n : Fin 2} {v : Int64} (hd : decode mi.2.1 pc = .ok (.lconst n, 1)) (hv : Int64.ofNat (n : Nat) = v) (k : WA g d mi (pc + 1) ls (.long v :: st) μ Q) : WA g d mi pc ls (st) μ Q := by
  intro p e s m args below meth c H locs lsA A hP hS hl
  exact lv_lconst A.1 A.2.1 hd hv (k p e s m args below meth c H locs lsA A hP hS hl)
theorem a_null  (hd : decode mi.2.1 pc = .ok (.aconst_null, 1)) (k : WA g d mi (pc + 1) ls (.null :: st) μ Q) : WA g d mi pc ls (st) μ Q := by
  intro p e s m args below meth c H locs lsA A hP hS hl
  exact lv_null A.1 A.2.1 hd (k p e s m args below meth c H locs lsA A hP hS hl)
theorem a_ldc {i : Nat} {v : Int32} (hd : decode mi.2.1 pc = .ok (.ldc i, 2)) (hw : Cond.constant mi.1 i v ∈ wG) (k : WA g d mi (pc + 2) ls (.int v :: st) μ Q) : WA g d mi pc ls st μ Q := by
  intro p e s m args below meth c H locs lsA A hP hS hl
  exact lv_ldc A.1 A.2.1 A.2.2.2.1 (A.2.2.2.2.1 _ hw) hd (k p e s m args below meth c H locs lsA A hP hS hl)
theorem a_ldcw {i : Nat} {v : Int32} (hd : decode mi.2.1 pc = .ok (.ldc_w i, 3)) (hw : Cond.constant mi.1 i v ∈ wG) (k : WA g d mi (pc + 3) ls (.int v :: st) μ Q) : WA g d mi pc ls st μ Q := by
  intro p e s m args below meth c H locs lsA A hP hS hl
  exact lv_ldcw A.1 A.2.1 A.2.2.2.1 (A.2.2.2.2.1 _ hw) hd (k p e s m args below meth c H locs lsA A hP hS hl)
theorem a_ldc2 {i : Nat} {v : Int64} (hd : decode mi.2.1 pc = .ok (.ldc2_w i, 3)) (hw : Cond.constantLong mi.1 i v ∈ wG) (k : WA g d mi (pc + 3) ls (.long v :: st) μ Q) : WA g d mi pc ls st μ Q := by
  intro p e s m args below meth c H locs lsA A hP hS hl
  exact lv_ldc2 A.1 A.2.1 A.2.2.2.1 (A.2.2.2.2.1 _ hw) hd (k p e s m args below meth c H locs lsA A hP hS hl)
theorem a_dup {v : Value} (hd : decode mi.2.1 pc = .ok (.dup, 1)) (hc : v.category = 1) (k : WA g d mi (pc + 1) ls (v :: v :: st) μ Q) : WA g d mi pc ls (v :: st) μ Q := by
  intro p e s m args below meth c H locs lsA A hP hS hl
  exact lv_dup A.1 A.2.1 hd ((cv_cat g v).trans hc) (k p e s m args below meth c H locs lsA A hP hS hl)
theorem a_pop {v : Value} (hd : decode mi.2.1 pc = .ok (.pop, 1)) (hc : v.category = 1) (k : WA g d mi (pc + 1) ls st μ Q) : WA g d mi pc ls (v :: st) μ Q := by
  intro p e s m args below meth c H locs lsA A hP hS hl
  exact lv_pop A.1 A.2.1 hd ((cv_cat g v).trans hc) (k p e s m args below meth c H locs lsA A hP hS hl)
theorem a_dup2 {u v : Value} (hd : decode mi.2.1 pc = .ok (.dup2, 1)) (hc : v.category = 1) (hu : u.category = 1) (k : WA g d mi (pc + 1) ls (v :: u :: v :: u :: st) μ Q) : WA g d mi pc ls (v :: u :: st) μ Q := by
  intro p e s m args below meth c H locs lsA A hP hS hl
  exact lv_dup2_11 A.1 A.2.1 hd ((cv_cat g v).trans hc) ((cv_cat g u).trans hu) (k p e s m args below meth c H locs lsA A hP hS hl)
theorem a_goto {off : Int} {tgt : Nat} (hd : decode mi.2.1 pc = .ok (.goto off, 3)) (ht : (pc : Int) + off = (tgt : Int)) (k : WA g d mi tgt ls st μ Q) : WA g d mi pc ls st μ Q := by
  intro p e s m args below meth c H locs lsA A hP hS hl
  exact lv_goto A.1 A.2.1 hd ht (k p e s m args below meth c H locs lsA A hP hS hl)
theorem a_if_eq {x : Int32} {off : Int} {tgt : Nat} (hd : decode mi.2.1 pc = .ok (.ifCond .eq off, 3)) (ht : (pc : Int) + off = (tgt : Int)) (kt : x = 0 → WA g d mi tgt ls st μ Q) (kf : ¬ (x = 0) → WA g d mi (pc + 3) ls st μ Q) : WA g d mi pc ls (.int x :: st) μ Q := by
  intro p e s m args below meth c H locs lsA A hP hS hl
  exact lv_if_eq A.1 A.2.1 hd ht (fun h => kt h p e s m args below meth c H locs lsA A hP hS hl) (fun h => kf h p e s m args below meth c H locs lsA A hP hS hl)
theorem a_icmp_eq {x y : Int32} {off : Int} {tgt : Nat} (hd : decode mi.2.1 pc = .ok (.if_icmp .eq off, 3)) (ht : (pc : Int) + off = (tgt : Int)) (kt : x = y → WA g d mi tgt ls st μ Q) (kf : ¬ (x = y) → WA g d mi (pc + 3) ls st μ Q) : WA g d mi pc ls (.int y :: .int x :: st) μ Q := by
  intro p e s m args below meth c H locs lsA A hP hS hl
  exact lv_icmp_eq A.1 A.2.1 hd ht (fun h => kt h p e s m args below meth c H locs lsA A hP hS hl) (fun h => kf h p e s m args below meth c H locs lsA A hP hS hl)
theorem a_if_ne {x : Int32} {off : Int} {tgt : Nat} (hd : decode mi.2.1 pc = .ok (.ifCond .ne off, 3)) (ht : (pc : Int) + off = (tgt : Int)) (kt : ¬ x = 0 → WA g d mi tgt ls st μ Q) (kf : x = 0 → WA g d mi (pc + 3) ls st μ Q) : WA g d mi pc ls (.int x :: st) μ Q := by
  intro p e s m args below meth c H locs lsA A hP hS hl
  exact lv_if_ne A.1 A.2.1 hd ht (fun h => kt h p e s m args below meth c H locs lsA A hP hS hl) (fun h => kf h p e s m args below meth c H locs lsA A hP hS hl)
theorem a_icmp_ne {x y : Int32} {off : Int} {tgt : Nat} (hd : decode mi.2.1 pc = .ok (.if_icmp .ne off, 3)) (ht : (pc : Int) + off = (tgt : Int)) (kt : ¬ x = y → WA g d mi tgt ls st μ Q) (kf : x = y → WA g d mi (pc + 3) ls st μ Q) : WA g d mi pc ls (.int y :: .int x :: st) μ Q := by
  intro p e s m args below meth c H locs lsA A hP hS hl
  exact lv_icmp_ne A.1 A.2.1 hd ht (fun h => kt h p e s m args below meth c H locs lsA A hP hS hl) (fun h => kf h p e s m args below meth c H locs lsA A hP hS hl)
theorem a_if_lt {x : Int32} {off : Int} {tgt : Nat} (hd : decode mi.2.1 pc = .ok (.ifCond .lt off, 3)) (ht : (pc : Int) + off = (tgt : Int)) (kt : x < 0 → WA g d mi tgt ls st μ Q) (kf : ¬ (x < 0) → WA g d mi (pc + 3) ls st μ Q) : WA g d mi pc ls (.int x :: st) μ Q := by
  intro p e s m args below meth c H locs lsA A hP hS hl
  exact lv_if_lt A.1 A.2.1 hd ht (fun h => kt h p e s m args below meth c H locs lsA A hP hS hl) (fun h => kf h p e s m args below meth c H locs lsA A hP hS hl)
theorem a_icmp_lt {x y : Int32} {off : Int} {tgt : Nat} (hd : decode mi.2.1 pc = .ok (.if_icmp .lt off, 3)) (ht : (pc : Int) + off = (tgt : Int)) (kt : x < y → WA g d mi tgt ls st μ Q) (kf : ¬ (x < y) → WA g d mi (pc + 3) ls st μ Q) : WA g d mi pc ls (.int y :: .int x :: st) μ Q := by
  intro p e s m args below meth c H locs lsA A hP hS hl
  exact lv_icmp_lt A.1 A.2.1 hd ht (fun h => kt h p e s m args below meth c H locs lsA A hP hS hl) (fun h => kf h p e s m args below meth c H locs lsA A hP hS hl)
theorem a_if_ge {x : Int32} {off : Int} {tgt : Nat} (hd : decode mi.2.1 pc = .ok (.ifCond .ge off, 3)) (ht : (pc : Int) + off = (tgt : Int)) (kt : 0 ≤ x → WA g d mi tgt ls st μ Q) (kf : ¬ (0 ≤ x) → WA g d mi (pc + 3) ls st μ Q) : WA g d mi pc ls (.int x :: st) μ Q := by
  intro p e s m args below meth c H locs lsA A hP hS hl
  exact lv_if_ge A.1 A.2.1 hd ht (fun h => kt h p e s m args below meth c H locs lsA A hP hS hl) (fun h => kf h p e s m args below meth c H locs lsA A hP hS hl)
theorem a_icmp_ge {x y : Int32} {off : Int} {tgt : Nat} (hd : decode mi.2.1 pc = .ok (.if_icmp .ge off, 3)) (ht : (pc : Int) + off = (tgt : Int)) (kt : y ≤ x → WA g d mi tgt ls st μ Q) (kf : ¬ (y ≤ x) → WA g d mi (pc + 3) ls st μ Q) : WA g d mi pc ls (.int y :: .int x :: st) μ Q := by
  intro p e s m args below meth c H locs lsA A hP hS hl
  exact lv_icmp_ge A.1 A.2.1 hd ht (fun h => kt h p e s m args below meth c H locs lsA A hP hS hl) (fun h => kf h p e s m args below meth c H locs lsA A hP hS hl)
theorem a_if_gt {x : Int32} {off : Int} {tgt : Nat} (hd : decode mi.2.1 pc = .ok (.ifCond .gt off, 3)) (ht : (pc : Int) + off = (tgt : Int)) (kt : 0 < x → WA g d mi tgt ls st μ Q) (kf : ¬ (0 < x) → WA g d mi (pc + 3) ls st μ Q) : WA g d mi pc ls (.int x :: st) μ Q := by
  intro p e s m args below meth c H locs lsA A hP hS hl
  exact lv_if_gt A.1 A.2.1 hd ht (fun h => kt h p e s m args below meth c H locs lsA A hP hS hl) (fun h => kf h p e s m args below meth c H locs lsA A hP hS hl)
theorem a_icmp_gt {x y : Int32} {off : Int} {tgt : Nat} (hd : decode mi.2.1 pc = .ok (.if_icmp .gt off, 3)) (ht : (pc : Int) + off = (tgt : Int)) (kt : y < x → WA g d mi tgt ls st μ Q) (kf : ¬ (y < x) → WA g d mi (pc + 3) ls st μ Q) : WA g d mi pc ls (.int y :: .int x :: st) μ Q := by
  intro p e s m args below meth c H locs lsA A hP hS hl
  exact lv_icmp_gt A.1 A.2.1 hd ht (fun h => kt h p e s m args below meth c H locs lsA A hP hS hl) (fun h => kf h p e s m args below meth c H locs lsA A hP hS hl)
theorem a_if_le {x : Int32} {off : Int} {tgt : Nat} (hd : decode mi.2.1 pc = .ok (.ifCond .le off, 3)) (ht : (pc : Int) + off = (tgt : Int)) (kt : x ≤ 0 → WA g d mi tgt ls st μ Q) (kf : ¬ (x ≤ 0) → WA g d mi (pc + 3) ls st μ Q) : WA g d mi pc ls (.int x :: st) μ Q := by
  intro p e s m args below meth c H locs lsA A hP hS hl
  exact lv_if_le A.1 A.2.1 hd ht (fun h => kt h p e s m args below meth c H locs lsA A hP hS hl) (fun h => kf h p e s m args below meth c H locs lsA A hP hS hl)
theorem a_icmp_le {x y : Int32} {off : Int} {tgt : Nat} (hd : decode mi.2.1 pc = .ok (.if_icmp .le off, 3)) (ht : (pc : Int) + off = (tgt : Int)) (kt : x ≤ y → WA g d mi tgt ls st μ Q) (kf : ¬ (x ≤ y) → WA g d mi (pc + 3) ls st μ Q) : WA g d mi pc ls (.int y :: .int x :: st) μ Q := by
  intro p e s m args below meth c H locs lsA A hP hS hl
  exact lv_icmp_le A.1 A.2.1 hd ht (fun h => kt h p e s m args below meth c H locs lsA A hP hS hl) (fun h => kf h p e s m args below meth c H locs lsA A hP hS hl)
theorem a_ifnonnull {x : Nat} {off : Int} {tgt : Nat} (hd : decode mi.2.1 pc = .ok (.ifnonnull off, 3)) (ht : (pc : Int) + off = (tgt : Int)) (k : WA g d mi tgt ls st μ Q) : WA g d mi pc ls (.ref x :: st) μ Q := by
  intro p e s m args below meth c H locs lsA A hP hS hl
  exact lv_ifnonnull A.1 A.2.1 hd ht (k p e s m args below meth c H locs lsA A hP hS hl)
theorem a_ifnull {x : Nat} {off : Int} (hd : decode mi.2.1 pc = .ok (.ifnull off, 3)) (k : WA g d mi (pc + 3) ls st μ Q) : WA g d mi pc ls (.ref x :: st) μ Q := by
  intro p e s m args below meth c H locs lsA A hP hS hl
  exact lv_ifnull A.1 A.2.1 hd (k p e s m args below meth c H locs lsA A hP hS hl)
theorem a_ifnullN {off : Int} {tgt : Nat} (hd : decode mi.2.1 pc = .ok (.ifnull off, 3)) (ht : (pc : Int) + off = (tgt : Int)) (k : WA g d mi tgt ls st μ Q) : WA g d mi pc ls (.null :: st) μ Q := by
  intro p e s m args below meth c H locs lsA A hP hS hl
  exact lv_ifnullN A.1 A.2.1 hd ht (k p e s m args below meth c H locs lsA A hP hS hl)
theorem a_ifnonnullN {off : Int} (hd : decode mi.2.1 pc = .ok (.ifnonnull off, 3)) (k : WA g d mi (pc + 3) ls st μ Q) : WA g d mi pc ls (.null :: st) μ Q := by
  intro p e s m args below meth c H locs lsA A hP hS hl
  exact lv_ifnonnullN A.1 A.2.1 hd (k p e s m args below meth c H locs lsA A hP hS hl)
theorem lsC_at {lsA : Array Slot} {n : Nat} (hl : lv_has lsA n (lsC g 0 ls)) {k : Nat} {v : Value} (hk : ls[k]? = some (some v)) : lsA[k]? = some (.val (cv g v)) := by
  have := hl.2.2 _ (lsC_mem g ls 0 k v hk)
  rwa [Nat.zero_add] at this
theorem a_iloadN {f : Fin 4} {i : Nat} {x : Int32} (hd : decode mi.2.1 pc = .ok (.iload_n f, 1)) (hi : (f : Nat) = i) (h : ls[i]? = some (some (.int x))) (k : WA g d mi (pc + 1) ls (.int x :: st) μ Q) : WA g d mi pc ls st μ Q := by
  intro p e s m args below meth c H locs lsA A hP hS hl
  exact lv_iload_n A.1 A.2.1 hd hi (lsC_at hl h) (k p e s m args below meth c H locs lsA A hP hS hl)
theorem a_iloadW {i : Nat} {x : Int32} (hd : decode mi.2.1 pc = .ok (.iload i, 2)) (h : ls[i]? = some (some (.int x))) (k : WA g d mi (pc + 2) ls (.int x :: st) μ Q) : WA g d mi pc ls st μ Q := by
  intro p e s m args below meth c H locs lsA A hP hS hl
  exact lv_iload A.1 A.2.1 hd (lsC_at hl h) (k p e s m args below meth c H locs lsA A hP hS hl)
theorem a_lloadN {f : Fin 4} {i : Nat} {x : Int64} (hd : decode mi.2.1 pc = .ok (.lload_n f, 1)) (hi : (f : Nat) = i) (h : ls[i]? = some (some (.long x))) (k : WA g d mi (pc + 1) ls (.long x :: st) μ Q) : WA g d mi pc ls st μ Q := by
  intro p e s m args below meth c H locs lsA A hP hS hl
  exact lv_lload_n A.1 A.2.1 hd hi (lsC_at hl h) (k p e s m args below meth c H locs lsA A hP hS hl)
theorem a_lloadW {i : Nat} {x : Int64} (hd : decode mi.2.1 pc = .ok (.lload i, 2)) (h : ls[i]? = some (some (.long x))) (k : WA g d mi (pc + 2) ls (.long x :: st) μ Q) : WA g d mi pc ls st μ Q := by
  intro p e s m args below meth c H locs lsA A hP hS hl
  exact lv_lload A.1 A.2.1 hd (lsC_at hl h) (k p e s m args below meth c H locs lsA A hP hS hl)
theorem a_aloadN {f : Fin 4} {i : Nat} {x : Nat} (hd : decode mi.2.1 pc = .ok (.aload_n f, 1)) (hi : (f : Nat) = i) (h : ls[i]? = some (some (.ref x))) (k : WA g d mi (pc + 1) ls (.ref x :: st) μ Q) : WA g d mi pc ls st μ Q := by
  intro p e s m args below meth c H locs lsA A hP hS hl
  exact lv_aload_n A.1 A.2.1 hd hi (lsC_at hl h) (k p e s m args below meth c H locs lsA A hP hS hl)
theorem a_aloadW {i : Nat} {x : Nat} (hd : decode mi.2.1 pc = .ok (.aload i, 2)) (h : ls[i]? = some (some (.ref x))) (k : WA g d mi (pc + 2) ls (.ref x :: st) μ Q) : WA g d mi pc ls st μ Q := by
  intro p e s m args below meth c H locs lsA A hP hS hl
  exact lv_aload A.1 A.2.1 hd (lsC_at hl h) (k p e s m args below meth c H locs lsA A hP hS hl)
theorem a_istoreN {f : Fin 4} {i : Nat} {x : Int32} (hd : decode mi.2.1 pc = .ok (.istore_n f, 1)) (hi : (f : Nat) = i) (hn : i < mi.2.2.1) (hk : i < ls.length) (hp : ∀ j, j + 1 = i → ∀ u, ls[j]? = some (some u) → u.category = 1) (k : WA g d mi (pc + 1) (ls.set i (some (.int x))) st μ Q) : WA g d mi pc ls (.int x :: st) μ Q := by
  intro p e s m args below meth c H locs lsA A hP hS hl
  exact lv_istore_n A.1 A.2.1 hd hi hl hn rfl (fun lsB hB => k p e s m args below meth c H locs lsB A hP hS (hB.le (lsC_st1 hk hp)))
theorem a_istoreW {i : Nat} {x : Int32} (hd : decode mi.2.1 pc = .ok (.istore i, 2)) (hn : i < mi.2.2.1) (hk : i < ls.length) (hp : ∀ j, j + 1 = i → ∀ u, ls[j]? = some (some u) → u.category = 1) (k : WA g d mi (pc + 2) (ls.set i (some (.int x))) st μ Q) : WA g d mi pc ls (.int x :: st) μ Q := by
  intro p e s m args below meth c H locs lsA A hP hS hl
  exact lv_istore A.1 A.2.1 hd hl hn rfl (fun lsB hB => k p e s m args below meth c H locs lsB A hP hS (hB.le (lsC_st1 hk hp)))
theorem a_astoreN {f : Fin 4} {i : Nat} {x : Nat} (hd : decode mi.2.1 pc = .ok (.astore_n f, 1)) (hi : (f : Nat) = i) (hn : i < mi.2.2.1) (hk : i < ls.length) (hp : ∀ j, j + 1 = i → ∀ u, ls[j]? = some (some u) → u.category = 1) (k : WA g d mi (pc + 1) (ls.set i (some (.ref x))) st μ Q) : WA g d mi pc ls (.ref x :: st) μ Q := by
  intro p e s m args below meth c H locs lsA A hP hS hl
  exact lv_astore_n A.1 A.2.1 hd hi hl hn rfl (fun lsB hB => k p e s m args below meth c H locs lsB A hP hS (hB.le (lsC_st1 hk hp)))
theorem a_astoreW {i : Nat} {x : Nat} (hd : decode mi.2.1 pc = .ok (.astore i, 2)) (hn : i < mi.2.2.1) (hk : i < ls.length) (hp : ∀ j, j + 1 = i → ∀ u, ls[j]? = some (some u) → u.category = 1) (k : WA g d mi (pc + 2) (ls.set i (some (.ref x))) st μ Q) : WA g d mi pc ls (.ref x :: st) μ Q := by
  intro p e s m args below meth c H locs lsA A hP hS hl
  exact lv_astore A.1 A.2.1 hd hl hn rfl (fun lsB hB => k p e s m args below meth c H locs lsB A hP hS (hB.le (lsC_st1 hk hp)))
theorem a_lstoreN {f : Fin 4} {i : Nat} {x : Int64} (hd : decode mi.2.1 pc = .ok (.lstore_n f, 1)) (hi : (f : Nat) = i) (hn : i + 1 < mi.2.2.1) (hk : i + 1 < ls.length) (hp : ∀ j, j + 1 = i → ∀ u, ls[j]? = some (some u) → u.category = 1) (k : WA g d mi (pc + 1) ((ls.set i (some (.long x))).set (i + 1) none) st μ Q) : WA g d mi pc ls (.long x :: st) μ Q := by
  intro p e s m args below meth c H locs lsA A hP hS hl
  exact lv_lstore_n A.1 A.2.1 hd hi hl hn rfl (fun lsB hB => k p e s m args below meth c H locs lsB A hP hS (hB.le (lsC_st2 hk hp)))
theorem a_lstoreW {i : Nat} {x : Int64} (hd : decode mi.2.1 pc = .ok (.lstore i, 2)) (hn : i + 1 < mi.2.2.1) (hk : i + 1 < ls.length) (hp : ∀ j, j + 1 = i → ∀ u, ls[j]? = some (some u) → u.category = 1) (k : WA g d mi (pc + 2) ((ls.set i (some (.long x))).set (i + 1) none) st μ Q) : WA g d mi pc ls (.long x :: st) μ Q := by
  intro p e s m args below meth c H locs lsA A hP hS hl
  exact lv_lstore A.1 A.2.1 hd hl hn rfl (fun lsB hB => k p e s m args below meth c H locs lsB A hP hS (hB.le (lsC_st2 hk hp)))
theorem a_iincW {i : Nat} {n : Int} {x c0 : Int32} (hd : decode mi.2.1 pc = .ok (.iinc i n, 3)) (hx : ls[i]? = some (some (.int x))) (hc : Int32.ofInt n = c0) (hn : i < mi.2.2.1) (hp : ∀ j, j + 1 = i → ∀ u, ls[j]? = some (some u) → u.category = 1) (k : WA g d mi (pc + 3) (ls.set i (some (.int (x + c0)))) st μ Q) : WA g d mi pc ls st μ Q := by
  intro p e s m args below meth c H locs lsA A hP hS hl
  have hk : i < ls.length := (List.getElem?_eq_some_iff.mp hx).1
  have hm := lsC_mem g ls 0 i _ hx
  rw [Nat.zero_add] at hm
  obtain ⟨q, hq⟩ := List.mem_iff_getElem?.mp hm
  exact lv_iinc (v := x + c0) A.1 A.2.1 hd hl hq (by rw [hc]) hn rfl (fun lsB hB => k p e s m args below meth c H locs lsB A hP hS (hB.le (lsC_st1 hk hp)))
theorem a_istore_0 {x0 : Option Value} {r : List (Option Value)} {x : Int32} (hd : decode mi.2.1 pc = .ok (.istore_n 0, 1)) (hn : 0 < mi.2.2.1) (k : WA g d mi (pc + 1) (some (.int x) :: r) st μ Q) : WA g d mi pc (x0 :: r) (.int x :: st) μ Q :=
  a_istoreN (i := 0) (ls := x0 :: r) hd rfl hn (by simp) (fun j h u hu => absurd h (Nat.succ_ne_zero j)) k
theorem a_iload_0 {r : List (Option Value)} {x : Int32} (hd : decode mi.2.1 pc = .ok (.iload_n 0, 1)) (k : WA g d mi (pc + 1) (some (.int x) :: r) (.int x :: st) μ Q) : WA g d mi pc (some (.int x) :: r) st μ Q :=
  a_iloadN (i := 0) hd rfl (rfl) k
theorem a_astore_0 {x0 : Option Value} {r : List (Option Value)} {x : Nat} (hd : decode mi.2.1 pc = .ok (.astore_n 0, 1)) (hn : 0 < mi.2.2.1) (k : WA g d mi (pc + 1) (some (.ref x) :: r) st μ Q) : WA g d mi pc (x0 :: r) (.ref x :: st) μ Q :=
  a_astoreN (i := 0) (ls := x0 :: r) hd rfl hn (by simp) (fun j h u hu => absurd h (Nat.succ_ne_zero j)) k
theorem a_aload_0 {r : List (Option Value)} {x : Nat} (hd : decode mi.2.1 pc = .ok (.aload_n 0, 1)) (k : WA g d mi (pc + 1) (some (.ref x) :: r) (.ref x :: st) μ Q) : WA g d mi pc (some (.ref x) :: r) st μ Q :=
  a_aloadN (i := 0) hd rfl (rfl) k
theorem a_iinc_0 {r : List (Option Value)} {n : Int} {x c0 : Int32} (hd : decode mi.2.1 pc = .ok (.iinc 0 n, 3)) (hc : Int32.ofInt n = c0) (hn : 0 < mi.2.2.1) (k : WA g d mi (pc + 3) (some (.int (x + c0)) :: r) st μ Q) : WA g d mi pc (some (.int x) :: r) st μ Q :=
  a_iincW (i := 0) (ls := some (.int x) :: r) hd rfl hc hn (fun j h u hu => absurd h (Nat.succ_ne_zero j)) k
theorem a_istore_1 {x0 x1 : Option Value} {r : List (Option Value)} {x : Int32} (hd : decode mi.2.1 pc = .ok (.istore_n 1, 1)) (hn : 1 < mi.2.2.1) (hq : nl x0 = true) (k : WA g d mi (pc + 1) (x0 :: some (.int x) :: r) st μ Q) : WA g d mi pc (x0 :: x1 :: r) (.int x :: st) μ Q :=
  a_istoreN (i := 1) (ls := x0 :: x1 :: r) hd rfl hn (by simp) (fun j h u hu => nl_prev hq (by obtain rfl : j = 0 := Nat.succ.inj h; exact Option.some.inj hu)) k
theorem a_iload_1 {x0 : Option Value} {r : List (Option Value)} {x : Int32} (hd : decode mi.2.1 pc = .ok (.iload_n 1, 1)) (k : WA g d mi (pc + 1) (x0 :: some (.int x) :: r) (.int x :: st) μ Q) : WA g d mi pc (x0 :: some (.int x) :: r) st μ Q :=
  a_iloadN (i := 1) hd rfl (rfl) k
theorem a_astore_1 {x0 x1 : Option Value} {r : List (Option Value)} {x : Nat} (hd : decode mi.2.1 pc = .ok (.astore_n 1, 1)) (hn : 1 < mi.2.2.1) (hq : nl x0 = true) (k : WA g d mi (pc + 1) (x0 :: some (.ref x) :: r) st μ Q) : WA g d mi pc (x0 :: x1 :: r) (.ref x :: st) μ Q :=
  a_astoreN (i := 1) (ls := x0 :: x1 :: r) hd rfl hn (by simp) (fun j h u hu => nl_prev hq (by obtain rfl : j = 0 := Nat.succ.inj h; exact Option.some.inj hu)) k
theorem a_aload_1 {x0 : Option Value} {r : List (Option Value)} {x : Nat} (hd : decode mi.2.1 pc = .ok (.aload_n 1, 1)) (k : WA g d mi (pc + 1) (x0 :: some (.ref x) :: r) (.ref x :: st) μ Q) : WA g d mi pc (x0 :: some (.ref x) :: r) st μ Q :=
  a_aloadN (i := 1) hd rfl (rfl) k
theorem a_iinc_1 {x0 : Option Value} {r : List (Option Value)} {n : Int} {x c0 : Int32} (hd : decode mi.2.1 pc = .ok (.iinc 1 n, 3)) (hc : Int32.ofInt n = c0) (hn : 1 < mi.2.2.1) (hq : nl x0 = true) (k : WA g d mi (pc + 3) (x0 :: some (.int (x + c0)) :: r) st μ Q) : WA g d mi pc (x0 :: some (.int x) :: r) st μ Q :=
  a_iincW (i := 1) (ls := x0 :: some (.int x) :: r) hd rfl hc hn (fun j h u hu => nl_prev hq (by obtain rfl : j = 0 := Nat.succ.inj h; exact Option.some.inj hu)) k
theorem a_istore_2 {x0 x1 x2 : Option Value} {r : List (Option Value)} {x : Int32} (hd : decode mi.2.1 pc = .ok (.istore_n 2, 1)) (hn : 2 < mi.2.2.1) (hq : nl x1 = true) (k : WA g d mi (pc + 1) (x0 :: x1 :: some (.int x) :: r) st μ Q) : WA g d mi pc (x0 :: x1 :: x2 :: r) (.int x :: st) μ Q :=
  a_istoreN (i := 2) (ls := x0 :: x1 :: x2 :: r) hd rfl hn (by simp) (fun j h u hu => nl_prev hq (by obtain rfl : j = 1 := Nat.succ.inj h; exact Option.some.inj hu)) k
theorem a_iload_2 {x0 x1 : Option Value} {r : List (Option Value)} {x : Int32} (hd : decode mi.2.1 pc = .ok (.iload_n 2, 1)) (k : WA g d mi (pc + 1) (x0 :: x1 :: some (.int x) :: r) (.int x :: st) μ Q) : WA g d mi pc (x0 :: x1 :: some (.int x) :: r) st μ Q :=
  a_iloadN (i := 2) hd rfl (rfl) k
theorem a_astore_2 {x0 x1 x2 : Option Value} {r : List (Option Value)} {x : Nat} (hd : decode mi.2.1 pc = .ok (.astore_n 2, 1)) (hn : 2 < mi.2.2.1) (hq : nl x1 = true) (k : WA g d mi (pc + 1) (x0 :: x1 :: some (.ref x) :: r) st μ Q) : WA g d mi pc (x0 :: x1 :: x2 :: r) (.ref x :: st) μ Q :=
  a_astoreN (i := 2) (ls := x0 :: x1 :: x2 :: r) hd rfl hn (by simp) (fun j h u hu => nl_prev hq (by obtain rfl : j = 1 := Nat.succ.inj h; exact Option.some.inj hu)) k
theorem a_aload_2 {x0 x1 : Option Value} {r : List (Option Value)} {x : Nat} (hd : decode mi.2.1 pc = .ok (.aload_n 2, 1)) (k : WA g d mi (pc + 1) (x0 :: x1 :: some (.ref x) :: r) (.ref x :: st) μ Q) : WA g d mi pc (x0 :: x1 :: some (.ref x) :: r) st μ Q :=
  a_aloadN (i := 2) hd rfl (rfl) k
theorem a_iinc_2 {x0 x1 : Option Value} {r : List (Option Value)} {n : Int} {x c0 : Int32} (hd : decode mi.2.1 pc = .ok (.iinc 2 n, 3)) (hc : Int32.ofInt n = c0) (hn : 2 < mi.2.2.1) (hq : nl x1 = true) (k : WA g d mi (pc + 3) (x0 :: x1 :: some (.int (x + c0)) :: r) st μ Q) : WA g d mi pc (x0 :: x1 :: some (.int x) :: r) st μ Q :=
  a_iincW (i := 2) (ls := x0 :: x1 :: some (.int x) :: r) hd rfl hc hn (fun j h u hu => nl_prev hq (by obtain rfl : j = 1 := Nat.succ.inj h; exact Option.some.inj hu)) k
theorem a_istore_3 {x0 x1 x2 x3 : Option Value} {r : List (Option Value)} {x : Int32} (hd : decode mi.2.1 pc = .ok (.istore_n 3, 1)) (hn : 3 < mi.2.2.1) (hq : nl x2 = true) (k : WA g d mi (pc + 1) (x0 :: x1 :: x2 :: some (.int x) :: r) st μ Q) : WA g d mi pc (x0 :: x1 :: x2 :: x3 :: r) (.int x :: st) μ Q :=
  a_istoreN (i := 3) (ls := x0 :: x1 :: x2 :: x3 :: r) hd rfl hn (by simp) (fun j h u hu => nl_prev hq (by obtain rfl : j = 2 := Nat.succ.inj h; exact Option.some.inj hu)) k
theorem a_iload_3 {x0 x1 x2 : Option Value} {r : List (Option Value)} {x : Int32} (hd : decode mi.2.1 pc = .ok (.iload_n 3, 1)) (k : WA g d mi (pc + 1) (x0 :: x1 :: x2 :: some (.int x) :: r) (.int x :: st) μ Q) : WA g d mi pc (x0 :: x1 :: x2 :: some (.int x) :: r) st μ Q :=
  a_iloadN (i := 3) hd rfl (rfl) k
theorem a_astore_3 {x0 x1 x2 x3 : Option Value} {r : List (Option Value)} {x : Nat} (hd : decode mi.2.1 pc = .ok (.astore_n 3, 1)) (hn : 3 < mi.2.2.1) (hq : nl x2 = true) (k : WA g d mi (pc + 1) (x0 :: x1 :: x2 :: some (.ref x) :: r) st μ Q) : WA g d mi pc (x0 :: x1 :: x2 :: x3 :: r) (.ref x :: st) μ Q :=
  a_astoreN (i := 3) (ls := x0 :: x1 :: x2 :: x3 :: r) hd rfl hn (by simp) (fun j h u hu => nl_prev hq (by obtain rfl : j = 2 := Nat.succ.inj h; exact Option.some.inj hu)) k
theorem a_aload_3 {x0 x1 x2 : Option Value} {r : List (Option Value)} {x : Nat} (hd : decode mi.2.1 pc = .ok (.aload_n 3, 1)) (k : WA g d mi (pc + 1) (x0 :: x1 :: x2 :: some (.ref x) :: r) (.ref x :: st) μ Q) : WA g d mi pc (x0 :: x1 :: x2 :: some (.ref x) :: r) st μ Q :=
  a_aloadN (i := 3) hd rfl (rfl) k
theorem a_iinc_3 {x0 x1 x2 : Option Value} {r : List (Option Value)} {n : Int} {x c0 : Int32} (hd : decode mi.2.1 pc = .ok (.iinc 3 n, 3)) (hc : Int32.ofInt n = c0) (hn : 3 < mi.2.2.1) (hq : nl x2 = true) (k : WA g d mi (pc + 3) (x0 :: x1 :: x2 :: some (.int (x + c0)) :: r) st μ Q) : WA g d mi pc (x0 :: x1 :: x2 :: some (.int x) :: r) st μ Q :=
  a_iincW (i := 3) (ls := x0 :: x1 :: x2 :: some (.int x) :: r) hd rfl hc hn (fun j h u hu => nl_prev hq (by obtain rfl : j = 2 := Nat.succ.inj h; exact Option.some.inj hu)) k
theorem a_istore_4 {x0 x1 x2 x3 x4 : Option Value} {r : List (Option Value)} {x : Int32} (hd : decode mi.2.1 pc = .ok (.istore 4, 2)) (hn : 4 < mi.2.2.1) (hq : nl x3 = true) (k : WA g d mi (pc + 2) (x0 :: x1 :: x2 :: x3 :: some (.int x) :: r) st μ Q) : WA g d mi pc (x0 :: x1 :: x2 :: x3 :: x4 :: r) (.int x :: st) μ Q :=
  a_istoreW (i := 4) (ls := x0 :: x1 :: x2 :: x3 :: x4 :: r) hd hn (by simp) (fun j h u hu => nl_prev hq (by obtain rfl : j = 3 := Nat.succ.inj h; exact Option.some.inj hu)) k
theorem a_iload_4 {x0 x1 x2 x3 : Option Value} {r : List (Option Value)} {x : Int32} (hd : decode mi.2.1 pc = .ok (.iload 4, 2)) (k : WA g d mi (pc + 2) (x0 :: x1 :: x2 :: x3 :: some (.int x) :: r) (.int x :: st) μ Q) : WA g d mi pc (x0 :: x1 :: x2 :: x3 :: some (.int x) :: r) st μ Q :=
  a_iloadW (i := 4) hd (rfl) k
theorem a_astore_4 {x0 x1 x2 x3 x4 : Option Value} {r : List (Option Value)} {x : Nat} (hd : decode mi.2.1 pc = .ok (.astore 4, 2)) (hn : 4 < mi.2.2.1) (hq : nl x3 = true) (k : WA g d mi (pc + 2) (x0 :: x1 :: x2 :: x3 :: some (.ref x) :: r) st μ Q) : WA g d mi pc (x0 :: x1 :: x2 :: x3 :: x4 :: r) (.ref x :: st) μ Q :=
  a_astoreW (i := 4) (ls := x0 :: x1 :: x2 :: x3 :: x4 :: r) hd hn (by simp) (fun j h u hu => nl_prev hq (by obtain rfl : j = 3 := Nat.succ.inj h; exact Option.some.inj hu)) k
theorem a_aload_4 {x0 x1 x2 x3 : Option Value} {r : List (Option Value)} {x : Nat} (hd : decode mi.2.1 pc = .ok (.aload 4, 2)) (k : WA g d mi (pc + 2) (x0 :: x1 :: x2 :: x3 :: some (.ref x) :: r) (.ref x :: st) μ Q) : WA g d mi pc (x0 :: x1 :: x2 :: x3 :: some (.ref x) :: r) st μ Q :=
  a_aloadW (i := 4) hd (rfl) k
theorem a_iinc_4 {x0 x1 x2 x3 : Option Value} {r : List (Option Value)} {n : Int} {x c0 : Int32} (hd : decode mi.2.1 pc = .ok (.iinc 4 n, 3)) (hc : Int32.ofInt n = c0) (hn : 4 < mi.2.2.1) (hq : nl x3 = true) (k : WA g d mi (pc + 3) (x0 :: x1 :: x2 :: x3 :: some (.int (x + c0)) :: r) st μ Q) : WA g d mi pc (x0 :: x1 :: x2 :: x3 :: some (.int x) :: r) st μ Q :=
  a_iincW (i := 4) (ls := x0 :: x1 :: x2 :: x3 :: some (.int x) :: r) hd rfl hc hn (fun j h u hu => nl_prev hq (by obtain rfl : j = 3 := Nat.succ.inj h; exact Option.some.inj hu)) k
theorem a_istore_5 {x0 x1 x2 x3 x4 x5 : Option Value} {r : List (Option Value)} {x : Int32} (hd : decode mi.2.1 pc = .ok (.istore 5, 2)) (hn : 5 < mi.2.2.1) (hq : nl x4 = true) (k : WA g d mi (pc + 2) (x0 :: x1 :: x2 :: x3 :: x4 :: some (.int x) :: r) st μ Q) : WA g d mi pc (x0 :: x1 :: x2 :: x3 :: x4 :: x5 :: r) (.int x :: st) μ Q :=
  a_istoreW (i := 5) (ls := x0 :: x1 :: x2 :: x3 :: x4 :: x5 :: r) hd hn (by simp) (fun j h u hu => nl_prev hq (by obtain rfl : j = 4 := Nat.succ.inj h; exact Option.some.inj hu)) k
theorem a_iload_5 {x0 x1 x2 x3 x4 : Option Value} {r : List (Option Value)} {x : Int32} (hd : decode mi.2.1 pc = .ok (.iload 5, 2)) (k : WA g d mi (pc + 2) (x0 :: x1 :: x2 :: x3 :: x4 :: some (.int x) :: r) (.int x :: st) μ Q) : WA g d mi pc (x0 :: x1 :: x2 :: x3 :: x4 :: some (.int x) :: r) st μ Q :=
  a_iloadW (i := 5) hd (rfl) k
theorem a_astore_5 {x0 x1 x2 x3 x4 x5 : Option Value} {r : List (Option Value)} {x : Nat} (hd : decode mi.2.1 pc = .ok (.astore 5, 2)) (hn : 5 < mi.2.2.1) (hq : nl x4 = true) (k : WA g d mi (pc + 2) (x0 :: x1 :: x2 :: x3 :: x4 :: some (.ref x) :: r) st μ Q) : WA g d mi pc (x0 :: x1 :: x2 :: x3 :: x4 :: x5 :: r) (.ref x :: st) μ Q :=
  a_astoreW (i := 5) (ls := x0 :: x1 :: x2 :: x3 :: x4 :: x5 :: r) hd hn (by simp) (fun j h u hu => nl_prev hq (by obtain rfl : j = 4 := Nat.succ.inj h; exact Option.some.inj hu)) k
theorem a_aload_5 {x0 x1 x2 x3 x4 : Option Value} {r : List (Option Value)} {x : Nat} (hd : decode mi.2.1 pc = .ok (.aload 5, 2)) (k : WA g d mi (pc + 2) (x0 :: x1 :: x2 :: x3 :: x4 :: some (.ref x) :: r) (.ref x :: st) μ Q) : WA g d mi pc (x0 :: x1 :: x2 :: x3 :: x4 :: some (.ref x) :: r) st μ Q :=
  a_aloadW (i := 5) hd (rfl) k
theorem a_iinc_5 {x0 x1 x2 x3 x4 : Option Value} {r : List (Option Value)} {n : Int} {x c0 : Int32} (hd : decode mi.2.1 pc = .ok (.iinc 5 n, 3)) (hc : Int32.ofInt n = c0) (hn : 5 < mi.2.2.1) (hq : nl x4 = true) (k : WA g d mi (pc + 3) (x0 :: x1 :: x2 :: x3 :: x4 :: some (.int (x + c0)) :: r) st μ Q) : WA g d mi pc (x0 :: x1 :: x2 :: x3 :: x4 :: some (.int x) :: r) st μ Q :=
  a_iincW (i := 5) (ls := x0 :: x1 :: x2 :: x3 :: x4 :: some (.int x) :: r) hd rfl hc hn (fun j h u hu => nl_prev hq (by obtain rfl : j = 4 := Nat.succ.inj h; exact Option.some.inj hu)) k
theorem a_istore_6 {x0 x1 x2 x3 x4 x5 x6 : Option Value} {r : List (Option Value)} {x : Int32} (hd : decode mi.2.1 pc = .ok (.istore 6, 2)) (hn : 6 < mi.2.2.1) (hq : nl x5 = true) (k : WA g d mi (pc + 2) (x0 :: x1 :: x2 :: x3 :: x4 :: x5 :: some (.int x) :: r) st μ Q) : WA g d mi pc (x0 :: x1 :: x2 :: x3 :: x4 :: x5 :: x6 :: r) (.int x :: st) μ Q :=
  a_istoreW (i := 6) (ls := x0 :: x1 :: x2 :: x3 :: x4 :: x5 :: x6 :: r) hd hn (by simp) (fun j h u hu => nl_prev hq (by obtain rfl : j = 5 := Nat.succ.inj h; exact Option.some.inj hu)) k
theorem a_iload_6 {x0 x1 x2 x3 x4 x5 : Option Value} {r : List (Option Value)} {x : Int32} (hd : decode mi.2.1 pc = .ok (.iload 6, 2)) (k : WA g d mi (pc + 2) (x0 :: x1 :: x2 :: x3 :: x4 :: x5 :: some (.int x) :: r) (.int x :: st) μ Q) : WA g d mi pc (x0 :: x1 :: x2 :: x3 :: x4 :: x5 :: some (.int x) :: r) st μ Q :=
  a_iloadW (i := 6) hd (rfl) k
theorem a_astore_6 {x0 x1 x2 x3 x4 x5 x6 : Option Value} {r : List (Option Value)} {x : Nat} (hd : decode mi.2.1 pc = .ok (.astore 6, 2)) (hn : 6 < mi.2.2.1) (hq : nl x5 = true) (k : WA g d mi (pc + 2) (x0 :: x1 :: x2 :: x3 :: x4 :: x5 :: some (.ref x) :: r) st μ Q) : WA g d mi pc (x0 :: x1 :: x2 :: x3 :: x4 :: x5 :: x6 :: r) (.ref x :: st) μ Q :=
  a_astoreW (i := 6) (ls := x0 :: x1 :: x2 :: x3 :: x4 :: x5 :: x6 :: r) hd hn (by simp) (fun j h u hu => nl_prev hq (by obtain rfl : j = 5 := Nat.succ.inj h; exact Option.some.inj hu)) k
theorem a_aload_6 {x0 x1 x2 x3 x4 x5 : Option Value} {r : List (Option Value)} {x : Nat} (hd : decode mi.2.1 pc = .ok (.aload 6, 2)) (k : WA g d mi (pc + 2) (x0 :: x1 :: x2 :: x3 :: x4 :: x5 :: some (.ref x) :: r) (.ref x :: st) μ Q) : WA g d mi pc (x0 :: x1 :: x2 :: x3 :: x4 :: x5 :: some (.ref x) :: r) st μ Q :=
  a_aloadW (i := 6) hd (rfl) k
theorem a_iinc_6 {x0 x1 x2 x3 x4 x5 : Option Value} {r : List (Option Value)} {n : Int} {x c0 : Int32} (hd : decode mi.2.1 pc = .ok (.iinc 6 n, 3)) (hc : Int32.ofInt n = c0) (hn : 6 < mi.2.2.1) (hq : nl x5 = true) (k : WA g d mi (pc + 3) (x0 :: x1 :: x2 :: x3 :: x4 :: x5 :: some (.int (x + c0)) :: r) st μ Q) : WA g d mi pc (x0 :: x1 :: x2 :: x3 :: x4 :: x5 :: some (.int x) :: r) st μ Q :=
  a_iincW (i := 6) (ls := x0 :: x1 :: x2 :: x3 :: x4 :: x5 :: some (.int x) :: r) hd rfl hc hn (fun j h u hu => nl_prev hq (by obtain rfl : j = 5 := Nat.succ.inj h; exact Option.some.inj hu)) k
theorem a_istore_7 {x0 x1 x2 x3 x4 x5 x6 x7 : Option Value} {r : List (Option Value)} {x : Int32} (hd : decode mi.2.1 pc = .ok (.istore 7, 2)) (hn : 7 < mi.2.2.1) (hq : nl x6 = true) (k : WA g d mi (pc + 2) (x0 :: x1 :: x2 :: x3 :: x4 :: x5 :: x6 :: some (.int x) :: r) st μ Q) : WA g d mi pc (x0 :: x1 :: x2 :: x3 :: x4 :: x5 :: x6 :: x7 :: r) (.int x :: st) μ Q :=
  a_istoreW (i := 7) (ls := x0 :: x1 :: x2 :: x3 :: x4 :: x5 :: x6 :: x7 :: r) hd hn (by simp) (fun j h u hu => nl_prev hq (by obtain rfl : j = 6 := Nat.succ.inj h; exact Option.some.inj hu)) k
theorem a_iload_7 {x0 x1 x2 x3 x4 x5 x6 : Option Value} {r : List (Option Value)} {x : Int32} (hd : decode mi.2.1 pc = .ok (.iload 7, 2)) (k : WA g d mi (pc + 2) (x0 :: x1 :: x2 :: x3 :: x4 :: x5 :: x6 :: some (.int x) :: r) (.int x :: st) μ Q) : WA g d mi pc (x0 :: x1 :: x2 :: x3 :: x4 :: x5 :: x6 :: some (.int x) :: r) st μ Q :=
  a_iloadW (i := 7) hd (rfl) k
theorem a_astore_7 {x0 x1 x2 x3 x4 x5 x6 x7 : Option Value} {r : List (Option Value)} {x : Nat} (hd : decode mi.2.1 pc = .ok (.astore 7, 2)) (hn : 7 < mi.2.2.1) (hq : nl x6 = true) (k : WA g d mi (pc + 2) (x0 :: x1 :: x2 :: x3 :: x4 :: x5 :: x6 :: some (.ref x) :: r) st μ Q) : WA g d mi pc (x0 :: x1 :: x2 :: x3 :: x4 :: x5 :: x6 :: x7 :: r) (.ref x :: st) μ Q :=
  a_astoreW (i := 7) (ls := x0 :: x1 :: x2 :: x3 :: x4 :: x5 :: x6 :: x7 :: r) hd hn (by simp) (fun j h u hu => nl_prev hq (by obtain rfl : j = 6 := Nat.succ.inj h; exact Option.some.inj hu)) k
theorem a_aload_7 {x0 x1 x2 x3 x4 x5 x6 : Option Value} {r : List (Option Value)} {x : Nat} (hd : decode mi.2.1 pc = .ok (.aload 7, 2)) (k : WA g d mi (pc + 2) (x0 :: x1 :: x2 :: x3 :: x4 :: x5 :: x6 :: some (.ref x) :: r) (.ref x :: st) μ Q) : WA g d mi pc (x0 :: x1 :: x2 :: x3 :: x4 :: x5 :: x6 :: some (.ref x) :: r) st μ Q :=
  a_aloadW (i := 7) hd (rfl) k
theorem a_iinc_7 {x0 x1 x2 x3 x4 x5 x6 : Option Value} {r : List (Option Value)} {n : Int} {x c0 : Int32} (hd : decode mi.2.1 pc = .ok (.iinc 7 n, 3)) (hc : Int32.ofInt n = c0) (hn : 7 < mi.2.2.1) (hq : nl x6 = true) (k : WA g d mi (pc + 3) (x0 :: x1 :: x2 :: x3 :: x4 :: x5 :: x6 :: some (.int (x + c0)) :: r) st μ Q) : WA g d mi pc (x0 :: x1 :: x2 :: x3 :: x4 :: x5 :: x6 :: some (.int x) :: r) st μ Q :=
  a_iincW (i := 7) (ls := x0 :: x1 :: x2 :: x3 :: x4 :: x5 :: x6 :: some (.int x) :: r) hd rfl hc hn (fun j h u hu => nl_prev hq (by obtain rfl : j = 6 := Nat.succ.inj h; exact Option.some.inj hu)) k
theorem a_istore_8 {x0 x1 x2 x3 x4 x5 x6 x7 x8 : Option Value} {r : List (Option Value)} {x : Int32} (hd : decode mi.2.1 pc = .ok (.istore 8, 2)) (hn : 8 < mi.2.2.1) (hq : nl x7 = true) (k : WA g d mi (pc + 2) (x0 :: x1 :: x2 :: x3 :: x4 :: x5 :: x6 :: x7 :: some (.int x) :: r) st μ Q) : WA g d mi pc (x0 :: x1 :: x2 :: x3 :: x4 :: x5 :: x6 :: x7 :: x8 :: r) (.int x :: st) μ Q :=
  a_istoreW (i := 8) (ls := x0 :: x1 :: x2 :: x3 :: x4 :: x5 :: x6 :: x7 :: x8 :: r) hd hn (by simp) (fun j h u hu => nl_prev hq (by obtain rfl : j = 7 := Nat.succ.inj h; exact Option.some.inj hu)) k
theorem a_iload_8 {x0 x1 x2 x3 x4 x5 x6 x7 : Option Value} {r : List (Option Value)} {x : Int32} (hd : decode mi.2.1 pc = .ok (.iload 8, 2)) (k : WA g d mi (pc + 2) (x0 :: x1 :: x2 :: x3 :: x4 :: x5 :: x6 :: x7 :: some (.int x) :: r) (.int x :: st) μ Q) : WA g d mi pc (x0 :: x1 :: x2 :: x3 :: x4 :: x5 :: x6 :: x7 :: some (.int x) :: r) st μ Q :=
  a_iloadW (i := 8) hd (rfl) k
theorem a_astore_8 {x0 x1 x2 x3 x4 x5 x6 x7 x8 : Option Value} {r : List (Option Value)} {x : Nat} (hd : decode mi.2.1 pc = .ok (.astore 8, 2)) (hn : 8 < mi.2.2.1) (hq : nl x7 = true) (k : WA g d mi (pc + 2) (x0 :: x1 :: x2 :: x3 :: x4 :: x5 :: x6 :: x7 :: some (.ref x) :: r) st μ Q) : WA g d mi pc (x0 :: x1 :: x2 :: x3 :: x4 :: x5 :: x6 :: x7 :: x8 :: r) (.ref x :: st) μ Q :=
  a_astoreW (i := 8) (ls := x0 :: x1 :: x2 :: x3 :: x4 :: x5 :: x6 :: x7 :: x8 :: r) hd hn (by simp) (fun j h u hu => nl_prev hq (by obtain rfl : j = 7 := Nat.succ.inj h; exact Option.some.inj hu)) k
theorem a_aload_8 {x0 x1 x2 x3 x4 x5 x6 x7 : Option Value} {r : List (Option Value)} {x : Nat} (hd : decode mi.2.1 pc = .ok (.aload 8, 2)) (k : WA g d mi (pc + 2) (x0 :: x1 :: x2 :: x3 :: x4 :: x5 :: x6 :: x7 :: some (.ref x) :: r) (.ref x :: st) μ Q) : WA g d mi pc (x0 :: x1 :: x2 :: x3 :: x4 :: x5 :: x6 :: x7 :: some (.ref x) :: r) st μ Q :=
  a_aloadW (i := 8) hd (rfl) k
theorem a_iinc_8 {x0 x1 x2 x3 x4 x5 x6 x7 : Option Value} {r : List (Option Value)} {n : Int} {x c0 : Int32} (hd : decode mi.2.1 pc = .ok (.iinc 8 n, 3)) (hc : Int32.ofInt n = c0) (hn : 8 < mi.2.2.1) (hq : nl x7 = true) (k : WA g d mi (pc + 3) (x0 :: x1 :: x2 :: x3 :: x4 :: x5 :: x6 :: x7 :: some (.int (x + c0)) :: r) st μ Q) : WA g d mi pc (x0 :: x1 :: x2 :: x3 :: x4 :: x5 :: x6 :: x7 :: some (.int x) :: r) st μ Q :=
  a_iincW (i := 8) (ls := x0 :: x1 :: x2 :: x3 :: x4 :: x5 :: x6 :: x7 :: some (.int x) :: r) hd rfl hc hn (fun j h u hu => nl_prev hq (by obtain rfl : j = 7 := Nat.succ.inj h; exact Option.some.inj hu)) k
theorem a_istore_9 {x0 x1 x2 x3 x4 x5 x6 x7 x8 x9 : Option Value} {r : List (Option Value)} {x : Int32} (hd : decode mi.2.1 pc = .ok (.istore 9, 2)) (hn : 9 < mi.2.2.1) (hq : nl x8 = true) (k : WA g d mi (pc + 2) (x0 :: x1 :: x2 :: x3 :: x4 :: x5 :: x6 :: x7 :: x8 :: some (.int x) :: r) st μ Q) : WA g d mi pc (x0 :: x1 :: x2 :: x3 :: x4 :: x5 :: x6 :: x7 :: x8 :: x9 :: r) (.int x :: st) μ Q :=
  a_istoreW (i := 9) (ls := x0 :: x1 :: x2 :: x3 :: x4 :: x5 :: x6 :: x7 :: x8 :: x9 :: r) hd hn (by simp) (fun j h u hu => nl_prev hq (by obtain rfl : j = 8 := Nat.succ.inj h; exact Option.some.inj hu)) k
theorem a_iload_9 {x0 x1 x2 x3 x4 x5 x6 x7 x8 : Option Value} {r : List (Option Value)} {x : Int32} (hd : decode mi.2.1 pc = .ok (.iload 9, 2)) (k : WA g d mi (pc + 2) (x0 :: x1 :: x2 :: x3 :: x4 :: x5 :: x6 :: x7 :: x8 :: some (.int x) :: r) (.int x :: st) μ Q) : WA g d mi pc (x0 :: x1 :: x2 :: x3 :: x4 :: x5 :: x6 :: x7 :: x8 :: some (.int x) :: r) st μ Q :=
  a_iloadW (i := 9) hd (rfl) k
theorem a_astore_9 {x0 x1 x2 x3 x4 x5 x6 x7 x8 x9 : Option Value} {r : List (Option Value)} {x : Nat} (hd : decode mi.2.1 pc = .ok (.astore 9, 2)) (hn : 9 < mi.2.2.1) (hq : nl x8 = true) (k : WA g d mi (pc + 2) (x0 :: x1 :: x2 :: x3 :: x4 :: x5 :: x6 :: x7 :: x8 :: some (.ref x) :: r) st μ Q) : WA g d mi pc (x0 :: x1 :: x2 :: x3 :: x4 :: x5 :: x6 :: x7 :: x8 :: x9 :: r) (.ref x :: st) μ Q :=
  a_astoreW (i := 9) (ls := x0 :: x1 :: x2 :: x3 :: x4 :: x5 :: x6 :: x7 :: x8 :: x9 :: r) hd hn (by simp) (fun j h u hu => nl_prev hq (by obtain rfl : j = 8 := Nat.succ.inj h; exact Option.some.inj hu)) k
theorem a_aload_9 {x0 x1 x2 x3 x4 x5 x6 x7 x8 : Option Value} {r : List (Option Value)} {x : Nat} (hd : decode mi.2.1 pc = .ok (.aload 9, 2)) (k : WA g d mi (pc + 2) (x0 :: x1 :: x2 :: x3 :: x4 :: x5 :: x6 :: x7 :: x8 :: some (.ref x) :: r) (.ref x :: st) μ Q) : WA g d mi pc (x0 :: x1 :: x2 :: x3 :: x4 :: x5 :: x6 :: x7 :: x8 :: some (.ref x) :: r) st μ Q :=
  a_aloadW (i := 9) hd (rfl) k
theorem a_iinc_9 {x0 x1 x2 x3 x4 x5 x6 x7 x8 : Option Value} {r : List (Option Value)} {n : Int} {x c0 : Int32} (hd : decode mi.2.1 pc = .ok (.iinc 9 n, 3)) (hc : Int32.ofInt n = c0) (hn : 9 < mi.2.2.1) (hq : nl x8 = true) (k : WA g d mi (pc + 3) (x0 :: x1 :: x2 :: x3 :: x4 :: x5 :: x6 :: x7 :: x8 :: some (.int (x + c0)) :: r) st μ Q) : WA g d mi pc (x0 :: x1 :: x2 :: x3 :: x4 :: x5 :: x6 :: x7 :: x8 :: some (.int x) :: r) st μ Q :=
  a_iincW (i := 9) (ls := x0 :: x1 :: x2 :: x3 :: x4 :: x5 :: x6 :: x7 :: x8 :: some (.int x) :: r) hd rfl hc hn (fun j h u hu => nl_prev hq (by obtain rfl : j = 8 := Nat.succ.inj h; exact Option.some.inj hu)) k
theorem a_istore_10 {x0 x1 x2 x3 x4 x5 x6 x7 x8 x9 x10 : Option Value} {r : List (Option Value)} {x : Int32} (hd : decode mi.2.1 pc = .ok (.istore 10, 2)) (hn : 10 < mi.2.2.1) (hq : nl x9 = true) (k : WA g d mi (pc + 2) (x0 :: x1 :: x2 :: x3 :: x4 :: x5 :: x6 :: x7 :: x8 :: x9 :: some (.int x) :: r) st μ Q) : WA g d mi pc (x0 :: x1 :: x2 :: x3 :: x4 :: x5 :: x6 :: x7 :: x8 :: x9 :: x10 :: r) (.int x :: st) μ Q :=
  a_istoreW (i := 10) (ls := x0 :: x1 :: x2 :: x3 :: x4 :: x5 :: x6 :: x7 :: x8 :: x9 :: x10 :: r) hd hn (by simp) (fun j h u hu => nl_prev hq (by obtain rfl : j = 9 := Nat.succ.inj h; exact Option.some.inj hu)) k
theorem a_iload_10 {x0 x1 x2 x3 x4 x5 x6 x7 x8 x9 : Option Value} {r : List (Option Value)} {x : Int32} (hd : decode mi.2.1 pc = .ok (.iload 10, 2)) (k : WA g d mi (pc + 2) (x0 :: x1 :: x2 :: x3 :: x4 :: x5 :: x6 :: x7 :: x8 :: x9 :: some (.int x) :: r) (.int x :: st) μ Q) : WA g d mi pc (x0 :: x1 :: x2 :: x3 :: x4 :: x5 :: x6 :: x7 :: x8 :: x9 :: some (.int x) :: r) st μ Q :=
  a_iloadW (i := 10) hd (rfl) k
theorem a_astore_10 {x0 x1 x2 x3 x4 x5 x6 x7 x8 x9 x10 : Option Value} {r : List (Option Value)} {x : Nat} (hd : decode mi.2.1 pc = .ok (.astore 10, 2)) (hn : 10 < mi.2.2.1) (hq : nl x9 = true) (k : WA g d mi (pc + 2) (x0 :: x1 :: x2 :: x3 :: x4 :: x5 :: x6 :: x7 :: x8 :: x9 :: some (.ref x) :: r) st μ Q) : WA g d mi pc (x0 :: x1 :: x2 :: x3 :: x4 :: x5 :: x6 :: x7 :: x8 :: x9 :: x10 :: r) (.ref x :: st) μ Q :=
  a_astoreW (i := 10) (ls := x0 :: x1 :: x2 :: x3 :: x4 :: x5 :: x6 :: x7 :: x8 :: x9 :: x10 :: r) hd hn (by simp) (fun j h u hu => nl_prev hq (by obtain rfl : j = 9 := Nat.succ.inj h; exact Option.some.inj hu)) k
theorem a_aload_10 {x0 x1 x2 x3 x4 x5 x6 x7 x8 x9 : Option Value} {r : List (Option Value)} {x : Nat} (hd : decode mi.2.1 pc = .ok (.aload 10, 2)) (k : WA g d mi (pc + 2) (x0 :: x1 :: x2 :: x3 :: x4 :: x5 :: x6 :: x7 :: x8 :: x9 :: some (.ref x) :: r) (.ref x :: st) μ Q) : WA g d mi pc (x0 :: x1 :: x2 :: x3 :: x4 :: x5 :: x6 :: x7 :: x8 :: x9 :: some (.ref x) :: r) st μ Q :=
  a_aloadW (i := 10) hd (rfl) k
theorem a_iinc_10 {x0 x1 x2 x3 x4 x5 x6 x7 x8 x9 : Option Value} {r : List (Option Value)} {n : Int} {x c0 : Int32} (hd : decode mi.2.1 pc = .ok (.iinc 10 n, 3)) (hc : Int32.ofInt n = c0) (hn : 10 < mi.2.2.1) (hq : nl x9 = true) (k : WA g d mi (pc + 3) (x0 :: x1 :: x2 :: x3 :: x4 :: x5 :: x6 :: x7 :: x8 :: x9 :: some (.int (x + c0)) :: r) st μ Q) : WA g d mi pc (x0 :: x1 :: x2 :: x3 :: x4 :: x5 :: x6 :: x7 :: x8 :: x9 :: some (.int x) :: r) st μ Q :=
  a_iincW (i := 10) (ls := x0 :: x1 :: x2 :: x3 :: x4 :: x5 :: x6 :: x7 :: x8 :: x9 :: some (.int x) :: r) hd rfl hc hn (fun j h u hu => nl_prev hq (by obtain rfl : j = 9 := Nat.succ.inj h; exact Option.some.inj hu)) k
theorem a_istore_11 {x0 x1 x2 x3 x4 x5 x6 x7 x8 x9 x10 x11 : Option Value} {r : List (Option Value)} {x : Int32} (hd : decode mi.2.1 pc = .ok (.istore 11, 2)) (hn : 11 < mi.2.2.1) (hq : nl x10 = true) (k : WA g d mi (pc + 2) (x0 :: x1 :: x2 :: x3 :: x4 :: x5 :: x6 :: x7 :: x8 :: x9 :: x10 :: some (.int x) :: r) st μ Q) : WA g d mi pc (x0 :: x1 :: x2 :: x3 :: x4 :: x5 :: x6 :: x7 :: x8 :: x9 :: x10 :: x11 :: r) (.int x :: st) μ Q :=
  a_istoreW (i := 11) (ls := x0 :: x1 :: x2 :: x3 :: x4 :: x5 :: x6 :: x7 :: x8 :: x9 :: x10 :: x11 :: r) hd hn (by simp) (fun j h u hu => nl_prev hq (by obtain rfl : j = 10 := Nat.succ.inj h; exact Option.some.inj hu)) k
theorem a_iload_11 {x0 x1 x2 x3 x4 x5 x6 x7 x8 x9 x10 : Option Value} {r : List (Option Value)} {x : Int32} (hd : decode mi.2.1 pc = .ok (.iload 11, 2)) (k : WA g d mi (pc + 2) (x0 :: x1 :: x2 :: x3 :: x4 :: x5 :: x6 :: x7 :: x8 :: x9 :: x10 :: some (.int x) :: r) (.int x :: st) μ Q) : WA g d mi pc (x0 :: x1 :: x2 :: x3 :: x4 :: x5 :: x6 :: x7 :: x8 :: x9 :: x10 :: some (.int x) :: r) st μ Q :=
  a_iloadW (i := 11) hd (rfl) k
theorem a_astore_11 {x0 x1 x2 x3 x4 x5 x6 x7 x8 x9 x10 x11 : Option Value} {r : List (Option Value)} {x : Nat} (hd : decode mi.2.1 pc = .ok (.astore 11, 2)) (hn : 11 < mi.2.2.1) (hq : nl x10 = true) (k : WA g d mi (pc + 2) (x0 :: x1 :: x2 :: x3 :: x4 :: x5 :: x6 :: x7 :: x8 :: x9 :: x10 :: some (.ref x) :: r) st μ Q) : WA g d mi pc (x0 :: x1 :: x2 :: x3 :: x4 :: x5 :: x6 :: x7 :: x8 :: x9 :: x10 :: x11 :: r) (.ref x :: st) μ Q :=
  a_astoreW (i := 11) (ls := x0 :: x1 :: x2 :: x3 :: x4 :: x5 :: x6 :: x7 :: x8 :: x9 :: x10 :: x11 :: r) hd hn (by simp) (fun j h u hu => nl_prev hq (by obtain rfl : j = 10 := Nat.succ.inj h; exact Option.some.inj hu)) k
theorem a_aload_11 {x0 x1 x2 x3 x4 x5 x6 x7 x8 x9 x10 : Option Value} {r : List (Option Value)} {x : Nat} (hd : decode mi.2.1 pc = .ok (.aload 11, 2)) (k : WA g d mi (pc + 2) (x0 :: x1 :: x2 :: x3 :: x4 :: x5 :: x6 :: x7 :: x8 :: x9 :: x10 :: some (.ref x) :: r) (.ref x :: st) μ Q) : WA g d mi pc (x0 :: x1 :: x2 :: x3 :: x4 :: x5 :: x6 :: x7 :: x8 :: x9 :: x10 :: some (.ref x) :: r) st μ Q :=
  a_aloadW (i := 11) hd (rfl) k
theorem a_iinc_11 {x0 x1 x2 x3 x4 x5 x6 x7 x8 x9 x10 : Option Value} {r : List (Option Value)} {n : Int} {x c0 : Int32} (hd : decode mi.2.1 pc = .ok (.iinc 11 n, 3)) (hc : Int32.ofInt n = c0) (hn : 11 < mi.2.2.1) (hq : nl x10 = true) (k : WA g d mi (pc + 3) (x0 :: x1 :: x2 :: x3 :: x4 :: x5 :: x6 :: x7 :: x8 :: x9 :: x10 :: some (.int (x + c0)) :: r) st μ Q) : WA g d mi pc (x0 :: x1 :: x2 :: x3 :: x4 :: x5 :: x6 :: x7 :: x8 :: x9 :: x10 :: some (.int x) :: r) st μ Q :=
  a_iincW (i := 11) (ls := x0 :: x1 :: x2 :: x3 :: x4 :: x5 :: x6 :: x7 :: x8 :: x9 :: x10 :: some (.int x) :: r) hd rfl hc hn (fun j h u hu => nl_prev hq (by obtain rfl : j = 10 := Nat.succ.inj h; exact Option.some.inj hu)) k
theorem a_istore_12 {x0 x1 x2 x3 x4 x5 x6 x7 x8 x9 x10 x11 x12 : Option Value} {r : List (Option Value)} {x : Int32} (hd : decode mi.2.1 pc = .ok (.istore 12, 2)) (hn : 12 < mi.2.2.1) (hq : nl x11 = true) (k : WA g d mi (pc + 2) (x0 :: x1 :: x2 :: x3 :: x4 :: x5 :: x6 :: x7 :: x8 :: x9 :: x10 :: x11 :: some (.int x) :: r) st μ Q) : WA g d mi pc (x0 :: x1 :: x2 :: x3 :: x4 :: x5 :: x6 :: x7 :: x8 :: x9 :: x10 :: x11 :: x12 :: r) (.int x :: st) μ Q :=
  a_istoreW (i := 12) (ls := x0 :: x1 :: x2 :: x3 :: x4 :: x5 :: x6 :: x7 :: x8 :: x9 :: x10 :: x11 :: x12 :: r) hd hn (by simp) (fun j h u hu => nl_prev hq (by obtain rfl : j = 11 := Nat.succ.inj h; exact Option.some.inj hu)) k
theorem a_iload_12 {x0 x1 x2 x3 x4 x5 x6 x7 x8 x9 x10 x11 : Option Value} {r : List (Option Value)} {x : Int32} (hd : decode mi.2.1 pc = .ok (.iload 12, 2)) (k : WA g d mi (pc + 2) (x0 :: x1 :: x2 :: x3 :: x4 :: x5 :: x6 :: x7 :: x8 :: x9 :: x10 :: x11 :: some (.int x) :: r) (.int x :: st) μ Q) : WA g d mi pc (x0 :: x1 :: x2 :: x3 :: x4 :: x5 :: x6 :: x7 :: x8 :: x9 :: x10 :: x11 :: some (.int x) :: r) st μ Q :=
  a_iloadW (i := 12) hd (rfl) k
theorem a_astore_12 {x0 x1 x2 x3 x4 x5 x6 x7 x8 x9 x10 x11 x12 : Option Value} {r : List (Option Value)} {x : Nat} (hd : decode mi.2.1 pc = .ok (.astore 12, 2)) (hn : 12 < mi.2.2.1) (hq : nl x11 = true) (k : WA g d mi (pc + 2) (x0 :: x1 :: x2 :: x3 :: x4 :: x5 :: x6 :: x7 :: x8 :: x9 :: x10 :: x11 :: some (.ref x) :: r) st μ Q) : WA g d mi pc (x0 :: x1 :: x2 :: x3 :: x4 :: x5 :: x6 :: x7 :: x8 :: x9 :: x10 :: x11 :: x12 :: r) (.ref x :: st) μ Q :=
  a_astoreW (i := 12) (ls := x0 :: x1 :: x2 :: x3 :: x4 :: x5 :: x6 :: x7 :: x8 :: x9 :: x10 :: x11 :: x12 :: r) hd hn (by simp) (fun j h u hu => nl_prev hq (by obtain rfl : j = 11 := Nat.succ.inj h; exact Option.some.inj hu)) k
theorem a_aload_12 {x0 x1 x2 x3 x4 x5 x6 x7 x8 x9 x10 x11 : Option Value} {r : List (Option Value)} {x : Nat} (hd : decode mi.2.1 pc = .ok (.aload 12, 2)) (k : WA g d mi (pc + 2) (x0 :: x1 :: x2 :: x3 :: x4 :: x5 :: x6 :: x7 :: x8 :: x9 :: x10 :: x11 :: some (.ref x) :: r) (.ref x :: st) μ Q) : WA g d mi pc (x0 :: x1 :: x2 :: x3 :: x4 :: x5 :: x6 :: x7 :: x8 :: x9 :: x10 :: x11 :: some (.ref x) :: r) st μ Q :=
  a_aloadW (i := 12) hd (rfl) k
theorem a_iinc_12 {x0 x1 x2 x3 x4 x5 x6 x7 x8 x9 x10 x11 : Option Value} {r : List (Option Value)} {n : Int} {x c0 : Int32} (hd : decode mi.2.1 pc = .ok (.iinc 12 n, 3)) (hc : Int32.ofInt n = c0) (hn : 12 < mi.2.2.1) (hq : nl x11 = true) (k : WA g d mi (pc + 3) (x0 :: x1 :: x2 :: x3 :: x4 :: x5 :: x6 :: x7 :: x8 :: x9 :: x10 :: x11 :: some (.int (x + c0)) :: r) st μ Q) : WA g d mi pc (x0 :: x1 :: x2 :: x3 :: x4 :: x5 :: x6 :: x7 :: x8 :: x9 :: x10 :: x11 :: some (.int x) :: r) st μ Q :=
  a_iincW (i := 12) (ls := x0 :: x1 :: x2 :: x3 :: x4 :: x5 :: x6 :: x7 :: x8 :: x9 :: x10 :: x11 :: some (.int x) :: r) hd rfl hc hn (fun j h u hu => nl_prev hq (by obtain rfl : j = 11 := Nat.succ.inj h; exact Option.some.inj hu)) k
theorem a_istore_13 {x0 x1 x2 x3 x4 x5 x6 x7 x8 x9 x10 x11 x12 x13 : Option Value} {r : List (Option Value)} {x : Int32} (hd : decode mi.2.1 pc = .ok (.istore 13, 2)) (hn : 13 < mi.2.2.1) (hq : nl x12 = true) (k : WA g d mi (pc + 2) (x0 :: x1 :: x2 :: x3 :: x4 :: x5 :: x6 :: x7 :: x8 :: x9 :: x10 :: x11 :: x12 :: some (.int x) :: r) st μ Q) : WA g d mi pc (x0 :: x1 :: x2 :: x3 :: x4 :: x5 :: x6 :: x7 :: x8 :: x9 :: x10 :: x11 :: x12 :: x13 :: r) (.int x :: st) μ Q :=
  a_istoreW (i := 13) (ls := x0 :: x1 :: x2 :: x3 :: x4 :: x5 :: x6 :: x7 :: x8 :: x9 :: x10 :: x11 :: x12 :: x13 :: r) hd hn (by simp) (fun j h u hu => nl_prev hq (by obtain rfl : j = 12 := Nat.succ.inj h; exact Option.some.inj hu)) k
theorem a_iload_13 {x0 x1 x2 x3 x4 x5 x6 x7 x8 x9 x10 x11 x12 : Option Value} {r : List (Option Value)} {x : Int32} (hd : decode mi.2.1 pc = .ok (.iload 13, 2)) (k : WA g d mi (pc + 2) (x0 :: x1 :: x2 :: x3 :: x4 :: x5 :: x6 :: x7 :: x8 :: x9 :: x10 :: x11 :: x12 :: some (.int x) :: r) (.int x :: st) μ Q) : WA g d mi pc (x0 :: x1 :: x2 :: x3 :: x4 :: x5 :: x6 :: x7 :: x8 :: x9 :: x10 :: x11 :: x12 :: some (.int x) :: r) st μ Q :=
  a_iloadW (i := 13) hd (rfl) k
theorem a_astore_13 {x0 x1 x2 x3 x4 x5 x6 x7 x8 x9 x10 x11 x12 x13 : Option Value} {r : List (Option Value)} {x : Nat} (hd : decode mi.2.1 pc = .ok (.astore 13, 2)) (hn : 13 < mi.2.2.1) (hq : nl x12 = true) (k : WA g d mi (pc + 2) (x0 :: x1 :: x2 :: x3 :: x4 :: x5 :: x6 :: x7 :: x8 :: x9 :: x10 :: x11 :: x12 :: some (.ref x) :: r) st μ Q) : WA g d mi pc (x0 :: x1 :: x2 :: x3 :: x4 :: x5 :: x6 :: x7 :: x8 :: x9 :: x10 :: x11 :: x12 :: x13 :: r) (.ref x :: st) μ Q :=
  a_astoreW (i := 13) (ls := x0 :: x1 :: x2 :: x3 :: x4 :: x5 :: x6 :: x7 :: x8 :: x9 :: x10 :: x11 :: x12 :: x13 :: r) hd hn (by simp) (fun j h u hu => nl_prev hq (by obtain rfl : j = 12 := Nat.succ.inj h; exact Option.some.inj hu)) k
theorem a_aload_13 {x0 x1 x2 x3 x4 x5 x6 x7 x8 x9 x10 x11 x12 : Option Value} {r : List (Option Value)} {x : Nat} (hd : decode mi.2.1 pc = .ok (.aload 13, 2)) (k : WA g d mi (pc + 2) (x0 :: x1 :: x2 :: x3 :: x4 :: x5 :: x6 :: x7 :: x8 :: x9 :: x10 :: x11 :: x12 :: some (.ref x) :: r) (.ref x :: st) μ Q) : WA g d mi pc (x0 :: x1 :: x2 :: x3 :: x4 :: x5 :: x6 :: x7 :: x8 :: x9 :: x10 :: x11 :: x12 :: some (.ref x) :: r) st μ Q :=
  a_aloadW (i := 13) hd (rfl) k
theorem a_iinc_13 {x0 x1 x2 x3 x4 x5 x6 x7 x8 x9 x10 x11 x12 : Option Value} {r : List (Option Value)} {n : Int} {x c0 : Int32} (hd : decode mi.2.1 pc = .ok (.iinc 13 n, 3)) (hc : Int32.ofInt n = c0) (hn : 13 < mi.2.2.1) (hq : nl x12 = true) (k : WA g d mi (pc + 3) (x0 :: x1 :: x2 :: x3 :: x4 :: x5 :: x6 :: x7 :: x8 :: x9 :: x10 :: x11 :: x12 :: some (.int (x + c0)) :: r) st μ Q) : WA g d mi pc (x0 :: x1 :: x2 :: x3 :: x4 :: x5 :: x6 :: x7 :: x8 :: x9 :: x10 :: x11 :: x12 :: some (.int x) :: r) st μ Q :=
  a_iincW (i := 13) (ls := x0 :: x1 :: x2 :: x3 :: x4 :: x5 :: x6 :: x7 :: x8 :: x9 :: x10 :: x11 :: x12 :: some (.int x) :: r) hd rfl hc hn (fun j h u hu => nl_prev hq (by obtain rfl : j = 12 := Nat.succ.inj h; exact Option.some.inj hu)) k
theorem a_lload_0 {r : List (Option Value)} {x : Int64} (hd : decode mi.2.1 pc = .ok (.lload_n 0, 1)) (k : WA g d mi (pc + 1) (some (.long x) :: r) (.long x :: st) μ Q) : WA g d mi pc (some (.long x) :: r) st μ Q :=
  a_lloadN (i := 0) hd rfl (rfl) k
theorem a_lstore_0 {r : List (Option Value)} {y0 y1 : Option Value} {x : Int64} (hd : decode mi.2.1 pc = .ok (.lstore_n 0, 1)) (hn : 1 < mi.2.2.1) (k : WA g d mi (pc + 1) (some (.long x) :: none :: r) st μ Q) : WA g d mi pc (y0 :: y1 :: r) (.long x :: st) μ Q :=
  a_lstoreN (i := 0) (ls := y0 :: y1 :: r) hd rfl hn (by simp) (fun j h u hu => absurd h (Nat.succ_ne_zero j)) k
theorem a_lload_1 {x0 : Option Value} {r : List (Option Value)} {x : Int64} (hd : decode mi.2.1 pc = .ok (.lload_n 1, 1)) (k : WA g d mi (pc + 1) (x0 :: some (.long x) :: r) (.long x :: st) μ Q) : WA g d mi pc (x0 :: some (.long x) :: r) st μ Q :=
  a_lloadN (i := 1) hd rfl (rfl) k
theorem a_lstore_1 {x0 : Option Value} {r : List (Option Value)} {y0 y1 : Option Value} {x : Int64} (hd : decode mi.2.1 pc = .ok (.lstore_n 1, 1)) (hn : 2 < mi.2.2.1) (hq : nl x0 = true) (k : WA g d mi (pc + 1) (x0 :: some (.long x) :: none :: r) st μ Q) : WA g d mi pc (x0 :: y0 :: y1 :: r) (.long x :: st) μ Q :=
  a_lstoreN (i := 1) (ls := x0 :: y0 :: y1 :: r) hd rfl hn (by simp) (fun j h u hu => nl_prev hq (by obtain rfl : j = 0 := Nat.succ.inj h; exact Option.some.inj hu)) k
theorem a_lload_2 {x0 x1 : Option Value} {r : List (Option Value)} {x : Int64} (hd : decode mi.2.1 pc = .ok (.lload_n 2, 1)) (k : WA g d mi (pc + 1) (x0 :: x1 :: some (.long x) :: r) (.long x :: st) μ Q) : WA g d mi pc (x0 :: x1 :: some (.long x) :: r) st μ Q :=
  a_lloadN (i := 2) hd rfl (rfl) k
theorem a_lstore_2 {x0 x1 : Option Value} {r : List (Option Value)} {y0 y1 : Option Value} {x : Int64} (hd : decode mi.2.1 pc = .ok (.lstore_n 2, 1)) (hn : 3 < mi.2.2.1) (hq : nl x1 = true) (k : WA g d mi (pc + 1) (x0 :: x1 :: some (.long x) :: none :: r) st μ Q) : WA g d mi pc (x0 :: x1 :: y0 :: y1 :: r) (.long x :: st) μ Q :=
  a_lstoreN (i := 2) (ls := x0 :: x1 :: y0 :: y1 :: r) hd rfl hn (by simp) (fun j h u hu => nl_prev hq (by obtain rfl : j = 1 := Nat.succ.inj h; exact Option.some.inj hu)) k
theorem a_lload_3 {x0 x1 x2 : Option Value} {r : List (Option Value)} {x : Int64} (hd : decode mi.2.1 pc = .ok (.lload_n 3, 1)) (k : WA g d mi (pc + 1) (x0 :: x1 :: x2 :: some (.long x) :: r) (.long x :: st) μ Q) : WA g d mi pc (x0 :: x1 :: x2 :: some (.long x) :: r) st μ Q :=
  a_lloadN (i := 3) hd rfl (rfl) k
theorem a_lstore_3 {x0 x1 x2 : Option Value} {r : List (Option Value)} {y0 y1 : Option Value} {x : Int64} (hd : decode mi.2.1 pc = .ok (.lstore_n 3, 1)) (hn : 4 < mi.2.2.1) (hq : nl x2 = true) (k : WA g d mi (pc + 1) (x0 :: x1 :: x2 :: some (.long x) :: none :: r) st μ Q) : WA g d mi pc (x0 :: x1 :: x2 :: y0 :: y1 :: r) (.long x :: st) μ Q :=
  a_lstoreN (i := 3) (ls := x0 :: x1 :: x2 :: y0 :: y1 :: r) hd rfl hn (by simp) (fun j h u hu => nl_prev hq (by obtain rfl : j = 2 := Nat.succ.inj h; exact Option.some.inj hu)) k
theorem a_lload_4 {x0 x1 x2 x3 : Option Value} {r : List (Option Value)} {x : Int64} (hd : decode mi.2.1 pc = .ok (.lload 4, 2)) (k : WA g d mi (pc + 2) (x0 :: x1 :: x2 :: x3 :: some (.long x) :: r) (.long x :: st) μ Q) : WA g d mi pc (x0 :: x1 :: x2 :: x3 :: some (.long x) :: r) st μ Q :=
  a_lloadW (i := 4) hd (rfl) k
theorem a_lstore_4 {x0 x1 x2 x3 : Option Value} {r : List (Option Value)} {y0 y1 : Option Value} {x : Int64} (hd : decode mi.2.1 pc = .ok (.lstore 4, 2)) (hn : 5 < mi.2.2.1) (hq : nl x3 = true) (k : WA g d mi (pc + 2) (x0 :: x1 :: x2 :: x3 :: some (.long x) :: none :: r) st μ Q) : WA g d mi pc (x0 :: x1 :: x2 :: x3 :: y0 :: y1 :: r) (.long x :: st) μ Q :=
  a_lstoreW (i := 4) (ls := x0 :: x1 :: x2 :: x3 :: y0 :: y1 :: r) hd hn (by simp) (fun j h u hu => nl_prev hq (by obtain rfl : j = 3 := Nat.succ.inj h; exact Option.some.inj hu)) k
theorem a_lload_5 {x0 x1 x2 x3 x4 : Option Value} {r : List (Option Value)} {x : Int64} (hd : decode mi.2.1 pc = .ok (.lload 5, 2)) (k : WA g d mi (pc + 2) (x0 :: x1 :: x2 :: x3 :: x4 :: some (.long x) :: r) (.long x :: st) μ Q) : WA g d mi pc (x0 :: x1 :: x2 :: x3 :: x4 :: some (.long x) :: r) st μ Q :=
  a_lloadW (i := 5) hd (rfl) k
theorem a_lstore_5 {x0 x1 x2 x3 x4 : Option Value} {r : List (Option Value)} {y0 y1 : Option Value} {x : Int64} (hd : decode mi.2.1 pc = .ok (.lstore 5, 2)) (hn : 6 < mi.2.2.1) (hq : nl x4 = true) (k : WA g d mi (pc + 2) (x0 :: x1 :: x2 :: x3 :: x4 :: some (.long x) :: none :: r) st μ Q) : WA g d mi pc (x0 :: x1 :: x2 :: x3 :: x4 :: y0 :: y1 :: r) (.long x :: st) μ Q :=
  a_lstoreW (i := 5) (ls := x0 :: x1 :: x2 :: x3 :: x4 :: y0 :: y1 :: r) hd hn (by simp) (fun j h u hu => nl_prev hq (by obtain rfl : j = 4 := Nat.succ.inj h; exact Option.some.inj hu)) k
theorem a_lload_6 {x0 x1 x2 x3 x4 x5 : Option Value} {r : List (Option Value)} {x : Int64} (hd : decode mi.2.1 pc = .ok (.lload 6, 2)) (k : WA g d mi (pc + 2) (x0 :: x1 :: x2 :: x3 :: x4 :: x5 :: some (.long x) :: r) (.long x :: st) μ Q) : WA g d mi pc (x0 :: x1 :: x2 :: x3 :: x4 :: x5 :: some (.long x) :: r) st μ Q :=
  a_lloadW (i := 6) hd (rfl) k
theorem a_lstore_6 {x0 x1 x2 x3 x4 x5 : Option Value} {r : List (Option Value)} {y0 y1 : Option Value} {x : Int64} (hd : decode mi.2.1 pc = .ok (.lstore 6, 2)) (hn : 7 < mi.2.2.1) (hq : nl x5 = true) (k : WA g d mi (pc + 2) (x0 :: x1 :: x2 :: x3 :: x4 :: x5 :: some (.long x) :: none :: r) st μ Q) : WA g d mi pc (x0 :: x1 :: x2 :: x3 :: x4 :: x5 :: y0 :: y1 :: r) (.long x :: st) μ Q :=
  a_lstoreW (i := 6) (ls := x0 :: x1 :: x2 :: x3 :: x4 :: x5 :: y0 :: y1 :: r) hd hn (by simp) (fun j h u hu => nl_prev hq (by obtain rfl : j = 5 := Nat.succ.inj h; exact Option.some.inj hu)) k
theorem a_lload_7 {x0 x1 x2 x3 x4 x5 x6 : Option Value} {r : List (Option Value)} {x : Int64} (hd : decode mi.2.1 pc = .ok (.lload 7, 2)) (k : WA g d mi (pc + 2) (x0 :: x1 :: x2 :: x3 :: x4 :: x5 :: x6 :: some (.long x) :: r) (.long x :: st) μ Q) : WA g d mi pc (x0 :: x1 :: x2 :: x3 :: x4 :: x5 :: x6 :: some (.long x) :: r) st μ Q :=
  a_lloadW (i := 7) hd (rfl) k
theorem a_lstore_7 {x0 x1 x2 x3 x4 x5 x6 : Option Value} {r : List (Option Value)} {y0 y1 : Option Value} {x : Int64} (hd : decode mi.2.1 pc = .ok (.lstore 7, 2)) (hn : 8 < mi.2.2.1) (hq : nl x6 = true) (k : WA g d mi (pc + 2) (x0 :: x1 :: x2 :: x3 :: x4 :: x5 :: x6 :: some (.long x) :: none :: r) st μ Q) : WA g d mi pc (x0 :: x1 :: x2 :: x3 :: x4 :: x5 :: x6 :: y0 :: y1 :: r) (.long x :: st) μ Q :=
  a_lstoreW (i := 7) (ls := x0 :: x1 :: x2 :: x3 :: x4 :: x5 :: x6 :: y0 :: y1 :: r) hd hn (by simp) (fun j h u hu => nl_prev hq (by obtain rfl : j = 6 := Nat.succ.inj h; exact Option.some.inj hu)) k
end AROWS
