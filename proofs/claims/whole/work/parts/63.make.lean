/-! WHAT IS MADE: lists of cells as sets, families of cells, rows for constructors -/
theorem P_iff {D : va_G} {ws : va_W} {H : Heap} : va_P D vwCl ws H ↔ ∀ q ∈ ws, va_at D vwCl q H := by
  constructor
  · intro h q hq
    obtain ⟨k, hk⟩ := List.getElem?_of_mem hq
    exact h k q hk
  · intro h k q hk
    exact h q (List.mem_of_getElem? hk)
theorem D_iff {A : Nat → Prop} {ws : va_W} : va_D A ws ↔ (ws.map Prod.fst).Nodup ∧ ∀ q ∈ ws, A q.1 := by
  constructor
  · intro h
    refine ⟨List.pairwise_iff_getElem.mpr fun i j hi hj hij he => ?_, fun q hq => ?_⟩
    · rw [List.length_map] at hi hj
      have := h.1 i j ws[i] ws[j] (List.getElem?_eq_getElem hi) (List.getElem?_eq_getElem hj) (by simpa using he)
      omega
    · obtain ⟨k, hk⟩ := List.getElem?_of_mem hq
      exact h.2 k q hk
  · intro h
    refine ⟨fun i j p q hp hq he => ?_, fun k q hk => h.2 q (List.mem_of_getElem? hk)⟩
    obtain ⟨hi, ei⟩ := List.getElem?_eq_some_iff.mp hp
    obtain ⟨hj, ej⟩ := List.getElem?_eq_some_iff.mp hq
    have hn := List.pairwise_iff_getElem.mp h.1
    have e1 : ∀ (h : i < (ws.map Prod.fst).length), (ws.map Prod.fst)[i] = p.1 := fun h => by rw [List.getElem_map, ei]
    have e2 : ∀ (h : j < (ws.map Prod.fst).length), (ws.map Prod.fst)[j] = q.1 := fun h => by rw [List.getElem_map, ej]
    have hi' : i < (ws.map Prod.fst).length := by simpa using hi
    have hj' : j < (ws.map Prod.fst).length := by simpa using hj
    rcases Nat.lt_trichotomy i j with hlt | hlt | hlt
    · exact absurd (by rw [e1, e2, he]) (hn i j hi' hj' hlt)
    · exact hlt
    · exact absurd (by rw [e1, e2, he]) (hn j i hj' hi' hlt)
theorem va_P.perm {D : va_G} {ws ws' : va_W} {H : Heap} (hp : ws.Perm ws') (h : va_P D vwCl ws H) : va_P D vwCl ws' H := P_iff.mpr fun q hq => P_iff.mp h q (hp.mem_iff.mpr hq)
theorem va_D.perm {A : Nat → Prop} {ws ws' : va_W} (hp : ws.Perm ws') (h : va_D A ws) : va_D A ws' := by
  obtain ⟨h1, h2⟩ := D_iff.mp h
  exact D_iff.mpr ⟨(hp.map Prod.fst).nodup_iff.mp h1, fun q hq => h2 q (hp.mem_iff.mpr hq)⟩
/-- the memory at the start: two places that are less 1, else zero -/
def MU0 : MM := fun r k => if r = 1 ∧ k = 4 then -1 else if r = 144 ∧ k = 11 then -1 else 0
theorem MU0_row {r : Nat} (h1 : r ≠ 1) (h2 : r ≠ 144) : MU0 r = fun _ => 0 := by
  funext k
  unfold MU0
  rw [if_neg (fun q => h1 q.1), if_neg (fun q => h2 q.1)]
def gA (ad : Nat → Nat) (D : va_G) (T : ClassId × ClassId × ClassId) (l : Launch) : GT := (ad, D, T, l, 0, 166)
def rfs (k : Nat) : List Nat := match sh k with
  | .inl (_, fs) => fs.filterMap id
  | .inr (.inl _) => []
  | .inr (.inr qs) => qs
def fam (D : va_G) (T : ClassId × ClassId × ClassId) (l : Launch) (ad : Nat → Nat) (ix : List Nat) : va_W := ix.map fun k => (ad k, eC (gA ad D T l) MU0 k)
theorem eF_ad {ad ad' : Nat → Nat} {D : va_G} {T : ClassId × ClassId × ClassId} {l : Launch} (μ : MM) (r : Nat) : ∀ (fs : List (Option Nat)) (j : Nat), (∀ q ∈ fs.filterMap id, ad q = ad' q) → eF (gA ad D T l) μ r j fs = eF (gA ad' D T l) μ r j fs
  | [], j, h => rfl
  | none :: fs, j, h => by
    simp only [eF]
    rw [eF_ad μ r fs (j + 1) (fun q hq => h q (by simpa using hq))]
  | some q :: fs, j, h => by
    simp only [eF]
    rw [eF_ad μ r fs (j + 1) (fun q' hq => h q' (by simp; exact Or.inr (by simpa using hq)))]
    have : ad q = ad' q := h q (by simp)
    show Value.ref (ad q) :: _ = Value.ref (ad' q) :: _
    rw [this]
theorem eC_ad {ad ad' : Nat → Nat} {D : va_G} {T : ClassId × ClassId × ClassId} {l : Launch} {μ : MM} {k : Nat} (h : ∀ q ∈ rfs k, ad q = ad' q) : eC (gA ad D T l) μ k = eC (gA ad' D T l) μ k := by
  unfold eC
  unfold rfs at h
  rcases hs : sh k with ⟨ci, fs⟩ | ⟨t, n⟩ | qs
  · rw [hs] at h
    simp only [eC']
    rw [eF_ad μ k fs 0 h]
  · rfl
  · rw [hs] at h
    simp only [eC']
    have : (fun i : Nat => (qs[i]?).map (gA ad D T l).1) = fun i : Nat => (qs[i]?).map (gA ad' D T l).1 := by
      funext i
      cases hi : qs[i]? with
      | none => rfl
      | some q => simp only [Option.map_some]; exact congrArg some (h q (List.mem_of_getElem? hi))
    rw [this]
    rfl
theorem fam_ad {ad ad' : Nat → Nat} {D : va_G} {T : ClassId × ClassId × ClassId} {l : Launch} {ix : List Nat} (hc : ∀ k ∈ ix, ∀ q ∈ rfs k, q ∈ ix) (h : ∀ k ∈ ix, ad k = ad' k) : fam D T l ad ix = fam D T l ad' ix := by
  unfold fam
  apply List.map_congr_left
  intro k hk
  rw [h k hk, eC_ad (fun q hq => h q (hc k hk q hq))]
/-- two families that know nothing of each other become one -/
theorem fam_mix {ad ad1 : Nat → Nat} {D : va_G} {T : ClassId × ClassId × ClassId} {l : Launch} {ix ix1 : List Nat} (hc : ∀ k ∈ ix, ∀ q ∈ rfs k, q ∈ ix) (hc1 : ∀ k ∈ ix1, ∀ q ∈ rfs k, q ∈ ix1) (hd : ∀ k ∈ ix, k ∉ ix1) : ∃ ad2 : Nat → Nat, (∀ k ∈ ix, ad2 k = ad k) ∧ (∀ k ∈ ix1, ad2 k = ad1 k) ∧ fam D T l ad ix ++ fam D T l ad1 ix1 = fam D T l ad2 (ix ++ ix1) := by
  refine ⟨fun k => if k ∈ ix1 then ad1 k else ad k, fun k hk => if_neg (hd k hk), fun k hk => if_pos hk, ?_⟩
  rw [fam_ad (ad' := fun k => if k ∈ ix1 then ad1 k else ad k) hc (fun k hk => (if_neg (hd k hk)).symm), fam_ad (ad' := fun k => if k ∈ ix1 then ad1 k else ad k) hc1 (fun k hk => (if_pos hk).symm)]
  unfold fam
  rw [List.map_append]
def KS (D : va_G) (T : ClassId × ClassId × ClassId) (l : Launch) (U : State) : Prop := SK (gA (fun _ => 0) D T l) U ∧ va_AO "BeckTalk$World" U
theorem KS.sk {D : va_G} {T : ClassId × ClassId × ClassId} {l : Launch} {U : State} (h : KS D T l U) {ad : Nat → Nat} {a b : Nat} : SK (ad, D, T, l, a, b) U := h.1
theorem KS.moved {D : va_G} {T : ClassId × ClassId × ClassId} {l : Launch} {s U : State} (hW : s.WarmedH U.vm) (h : KS D T l s) : KS D T l U := ⟨h.1.moved hW, h.2.moved hW.alike⟩
/-- what a constructor stands on -/
def AtK (D : va_G) (T : ClassId × ClassId × ClassId) (l : Launch) (mi : MI) (p : Program) (s : State) (m : MethodId) (args : Array Value) (meth : Method) (c : Code) (A : Nat → Prop) : Prop :=
  p.tables.exec = Jvm.exec ∧ c.code = mi.2.1 ∧ c.maxLocals = mi.2.2.1 ∧ s.vm.findClass mi.1 = some m.cls ∧ (∀ w ∈ wG, w.before args s = true) ∧ KS D T l s ∧ meth.sig.returnType = mi.2.2.2.1 ∧ meth.locks = false ∧ meth.name = "<init>" ∧ ∀ q, s.heap.size ≤ q → A q
section MAKE
variable {D : va_G} {T : ClassId × ClassId × ClassId} {l : Launch} {R : Room} {mi : MI} {A : Nat → Prop} {Qf : State → Prop} {p : Program} {e : Env} {s : State} {m : MethodId} {args : Array Value} {below : List Frame} {meth : Method} {c : Code} {lv : List (Nat × Value)} {pc cells slots h0 : Nat} {st : List Value} {ws : va_W}
def KJ (D : va_G) (l : Launch) (R : Room) (mi : MI) (A : Nat → Prop) (Qf : State → Prop) (p : Program) (e : Env) (s : State) (m : MethodId) (args : Array Value) (below : List Frame) (meth : Method) (c : Code) (lv : List (Nat × Value)) (pc cells slots : Nat) (st : List Value) (ws : va_W) : Prop :=
  ∀ (H : Heap) (locs : List Loc) (lsA : Array Slot), va_P D vwCl ws H → va_D A ws → va_S A s.heap H locs → lv_has lsA mi.2.2.1 lv → W p l e R s m args below meth c H locs cells slots Qf (F0 m pc lsA st)
theorem k_perm {ws' : va_W} (hp : ws.Perm ws') (kk : KJ D l R mi A Qf p e s m args below meth c lv pc cells slots st ws') : KJ D l R mi A Qf p e s m args below meth c lv pc cells slots st ws :=
  fun H locs lsA hP hD hS hl => kk H locs lsA (hP.perm hp) (hD.perm hp) hS hl
theorem k_eq {ws' : va_W} (hp : ws = ws') (kk : KJ D l R mi A Qf p e s m args below meth c lv pc cells slots st ws') : KJ D l R mi A Qf p e s m args below meth c lv pc cells slots st ws := by rw [hp]; exact kk
theorem k_a0 {r : List (Nat × Value)} (X : AtK D T l mi p s m args meth c A) (hd : decode mi.2.1 pc = .ok (.aload_n 0, 1)) (kk : KJ D l R mi A Qf p e s m args below meth c ((0, .ref h0) :: r) (pc + 1) cells slots (.ref h0 :: st) ws) : KJ D l R mi A Qf p e s m args below meth c ((0, .ref h0) :: r) pc cells slots st ws :=
  fun H locs lsA hP hD hS hl => lv_aload_n X.1 X.2.1 hd rfl (lv_at hl 0 rfl) (kk H locs lsA hP hD hS hl)
theorem k_iconst {v : Int32} {k : Int} (X : AtK D T l mi p s m args meth c A) (hd : decode mi.2.1 pc = .ok (.iconst k, 1)) (hv : Int32.ofInt k = v) (kk : KJ D l R mi A Qf p e s m args below meth c lv (pc + 1) cells slots (.int v :: st) ws) : KJ D l R mi A Qf p e s m args below meth c lv pc cells slots st ws :=
  fun H locs lsA hP hD hS hl => lv_iconst X.1 X.2.1 hd hv (kk H locs lsA hP hD hS hl)
theorem k_bipush {v : Int32} {k : Int} (X : AtK D T l mi p s m args meth c A) (hd : decode mi.2.1 pc = .ok (.bipush k, 2)) (hv : (Int8.ofInt k).toInt32 = v) (kk : KJ D l R mi A Qf p e s m args below meth c lv (pc + 2) cells slots (.int v :: st) ws) : KJ D l R mi A Qf p e s m args below meth c lv pc cells slots st ws :=
  fun H locs lsA hP hD hS hl => lv_bipush X.1 X.2.1 hd hv (kk H locs lsA hP hD hS hl)
theorem k_sipush {v : Int32} {k : Int} (X : AtK D T l mi p s m args meth c A) (hd : decode mi.2.1 pc = .ok (.sipush k, 3)) (hv : (Int16.ofInt k).toInt32 = v) (kk : KJ D l R mi A Qf p e s m args below meth c lv (pc + 3) cells slots (.int v :: st) ws) : KJ D l R mi A Qf p e s m args below meth c lv pc cells slots st ws :=
  fun H locs lsA hP hD hS hl => lv_sipush X.1 X.2.1 hd hv (kk H locs lsA hP hD hS hl)
theorem arr_int : Cond.arrayClass .int ∈ wG := in_wG (by decide +kernel) (by decide +kernel)
theorem arr_boo : Cond.arrayClass .boolean ∈ wG := in_wG (by decide +kernel) (by decide +kernel)
theorem k_newI {n : Nat} (X : AtK D T l mi p s m args meth c A) (hd : decode mi.2.1 pc = .ok (.newarray .int, 2)) (hn : n < 100000) (hcells : cells + 1 ≤ R.cells) (hslots : slots + n ≤ R.slots) (kk : ∀ q, KJ D l R mi A Qf p e s m args below meth c lv (pc + 2) (cells + 1) (slots + n) (.ref q :: st) (ws ++ [(q, .inl (T.1, n, .inl (fun _ => 0)))])) : KJ D l R mi A Qf p e s m args below meth c lv pc cells slots (.int (nI n) :: st) ws := by
  intro H locs lsA hP hD hS hl
  obtain ⟨hx, hb, hml, hown, hts, hK, hr, hlk, hin, hA⟩ := X
  refine va_newa (a0 := (n, .inl (fun _ => 0))) (N' := n) (atype := .int) hx hb (hts _ arr_int) (ty := .int) rfl hK.1.1 hP hD hS hA (fun cA => rfl) (nI_pos (by omega)) (nI_clamp (by omega)) (by show n * 4 ≤ 536870912; omega) hcells hslots hd (fun q cA H1 hK1 hP1 hD1 hS1 => ?_)
  have h1 : s.vm.findClass ("[" ++ FieldType.toString .int) = some cA := (hK1.2 3 (cA, .int) rfl).2
  have h2 : s.vm.findClass ("[" ++ FieldType.toString .int) = some T.1 := (hK.1.1.2 0 (T.1, .int) rfl).2
  have h3 : cA = T.1 := Option.some.inj (h1.symm.trans h2)
  subst h3
  exact kk q H1 locs lsA hP1 hD1 hS1 hl
theorem k_newZ {n : Nat} (X : AtK D T l mi p s m args meth c A) (hd : decode mi.2.1 pc = .ok (.newarray .boolean, 2)) (hn : n < 100000) (hcells : cells + 1 ≤ R.cells) (hslots : slots + n ≤ R.slots) (kk : ∀ q, KJ D l R mi A Qf p e s m args below meth c lv (pc + 2) (cells + 1) (slots + n) (.ref q :: st) (ws ++ [(q, .inl (T.2.1, n, .inl (fun _ => 0)))])) : KJ D l R mi A Qf p e s m args below meth c lv pc cells slots (.int (nI n) :: st) ws := by
  intro H locs lsA hP hD hS hl
  obtain ⟨hx, hb, hml, hown, hts, hK, hr, hlk, hin, hA⟩ := X
  refine va_newa (a0 := (n, .inl (fun _ => 0))) (N' := n) (atype := .boolean) hx hb (hts _ arr_boo) (ty := .boolean) rfl hK.1.1 hP hD hS hA (fun cA => rfl) (nI_pos (by omega)) (nI_clamp (by omega)) (by show n * 1 ≤ 536870912; omega) hcells hslots hd (fun q cA H1 hK1 hP1 hD1 hS1 => ?_)
  have h1 : s.vm.findClass ("[" ++ FieldType.toString .boolean) = some cA := (hK1.2 3 (cA, .boolean) rfl).2
  have h2 : s.vm.findClass ("[" ++ FieldType.toString .boolean) = some T.2.1 := (hK.1.1.2 1 (T.2.1, .boolean) rfl).2
  have h3 : cA = T.2.1 := Option.some.inj (h1.symm.trans h2)
  subst h3
  exact kk q H1 locs lsA hP1 hD1 hS1 hl
end MAKE
