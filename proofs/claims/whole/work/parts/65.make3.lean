/-! new, dup, the constructor called -/
/-- an object of the class ci may be made by own; e0 is it when it is new -/
def NW (own : String) (idx ci N : Nat) (fs : List Value) : Prop := ∃ (C : String) (T : u_T) (ty : Nat → FieldType), CLS ci C T N ty ∧ Cond.classLink own idx C ∈ wG ∧ Cond.instantiable C N ∈ wG ∧ Cond.initialized C ∈ wG ∧ ∀ j, j < N → defaultValue (ty j) = vp_V fs j
/-- own calls the constructor cal: a nest mate's private one, or any other -/
def IN (own : String) (idx : Nat) (cal : MI) : Prop := (∃ host, Cond.methodLinkNest own idx cal.2.2.2.2 host ∈ nestW) ∧ Cond.instanceMethod cal.2.2.2.2 ∈ wG ∧ Cond.initialized cal.2.2.2.2.cls ∈ wG ∧ Cond.code cal.2.2.2.2 cal.2.1 cal.2.2.1 cal.2.2.2.1 ∈ wG ∧ cal.2.2.2.1 = none ∧ cal.2.2.2.2.name = "<init>" ∧
  (cal.2.2.2.2.cls ≠ "java/lang/invoke/MethodHandle" ∧ cal.2.2.2.2.cls ≠ "java/lang/invoke/VarHandle" ∧ (parseMethodDescriptor cal.2.2.2.2.desc).map (fun d => d.parameters.length) = some 0)
def IS (own : String) (idx : Nat) (cal : MI) : Prop := Cond.methodLink own idx cal.2.2.2.2 ∈ wG ∧ Cond.instanceMethod cal.2.2.2.2 ∈ wG ∧ Cond.initialized cal.2.2.2.2.cls ∈ wG ∧ Cond.code cal.2.2.2.2 cal.2.1 cal.2.2.1 cal.2.2.2.1 ∈ wG ∧ cal.2.2.2.1 = none ∧ cal.2.2.2.2.name = "<init>" ∧
  (cal.2.2.2.2.cls ≠ "java/lang/invoke/MethodHandle" ∧ cal.2.2.2.2.cls ≠ "java/lang/invoke/VarHandle" ∧ (parseMethodDescriptor cal.2.2.2.2.desc).map (fun d => d.parameters.length) = some 0)
theorem blindK {D : va_G} {T : ClassId × ClassId × ClassId} {l : Launch} {h sz : Nat} {e0 : va_E} : FrameBlind (va_Pc [.ref h] (fun U => U.heap.size = sz ∧ va_P D vwCl [(h, e0)] U.heap ∧ KS D T l U)) := by
  intro a U f mk hh
  obtain ⟨h1, h2, h3, ⟨h4, h5⟩, h6⟩ := hh
  refine ⟨h1, h2, h3, ⟨va_K.moved (u := U) (U := U.calling f mk a) (Vm.Alike.refl U.vm) h4, fun w hw => ?_⟩, va_AO.moved (u := U) (U := U.calling f mk a) (Vm.Alike.refl U.vm) h6⟩
  have h7 := h5 w hw
  have h8 := (List.mem_filter.mp hw).2
  cases w with
  | methodLinkNest a1 i x b => exact va_Nw.same (u := U) rfl rfl h7
  | _ => exact absurd h8 (by simp)
section MAKE3
variable {D : va_G} {T : ClassId × ClassId × ClassId} {l : Launch} {R : Room} {mi : MI} {A : Nat → Prop} {Qf : State → Prop} {p : Program} {e : Env} {s : State} {m : MethodId} {args : Array Value} {below : List Frame} {meth : Method} {c : Code} {lv : List (Nat × Value)} {pc cells slots : Nat} {st : List Value} {ws : va_W}
theorem k_new {idx ci N : Nat} {fs : List Value} (X : AtK D T l mi p s m args meth c A) (hd : decode mi.2.1 pc = .ok (.new idx, 3)) (hw : NW mi.1 idx ci N fs) (hcells : cells + 1 ≤ R.cells) (hslots : slots + N ≤ R.slots) (kk : ∀ q, KJ D l R mi A Qf p e s m args below meth c lv (pc + 3) (cells + 1) (slots + N) (.ref q :: st) ((q, .inr (ci, fs)) :: ws)) : KJ D l R mi A Qf p e s m args below meth c lv pc cells slots st ws := by
  intro H locs lsA hP hD hS hls
  obtain ⟨hx, hb, hml, hown, hts, hK, hr, hlk, hin, hA⟩ := X
  obtain ⟨C, TT, ty, ⟨hc, hin2, hty, hnm⟩, w1, w2, w3, hfs⟩ := hw
  refine va_new hx hb hts hin2 ty hty hown (hts _ w1) (hts _ w2) (hts _ w3) hK.1.1 hP hD hS hA hc hfs hcells hslots hd (fun q H1 hP1 hD1 hS1 => ?_)
  have hp : List.Perm (α := Nat × va_E) (ws ++ [(q, .inr (ci, fs))]) ((q, .inr (ci, fs)) :: ws) := List.perm_append_comm
  exact kk q H1 locs lsA (hP1.perm hp) (hD1.perm hp) hS1 hls
theorem k_dup {v : Value} (hv : v.category = 1) (X : AtK D T l mi p s m args meth c A) (hd : decode mi.2.1 pc = .ok (.dup, 1)) (kk : KJ D l R mi A Qf p e s m args below meth c lv (pc + 1) cells slots (v :: v :: st) ws) : KJ D l R mi A Qf p e s m args below meth c lv pc cells slots (v :: st) ws :=
  fun H locs lsA hP hD hS hls => lv_dup X.1 X.2.1 hd hv (kk H locs lsA hP hD hS hls)
theorem k_after {w q mc ms : Nat} {ix : List Nat} {e0 : va_E} {rest : va_W} {st0 : List Value} {aa : Array Value} {H : Heap} {locs : List Loc} {lsA : Array Slot} (X : AtK D T l mi p s m args meth c A) (hP : va_P D vwCl ((q, e0) :: rest) H) (hD : va_D A ((q, e0) :: rest)) (hS : va_S A s.heap H locs) (hls : lv_has lsA mi.2.2.1 lv)
    (hr : va_Run p l e R s m args below meth c H locs cells slots mc ms (F0 m pc lsA st0) st (va_Qv (fun ad : Nat → Nat => ad w = q) (fun ad t => va_P D vwCl (fam D T l ad ix) t.heap ∧ va_D (va_A [(q, e0)] H.size) (fam D T l ad ix) ∧ KS D T l t) (va_A [(q, e0)] H.size) aa) (va_A [(q, e0)] H.size))
    (kk : ∀ ad : Nat → Nat, ad w = q → KJ D l R mi A Qf p e s m args below meth c lv (pc + 3) (cells + mc) (slots + ms) st (fam D T l ad ix ++ rest)) : W p l e R s m args below meth c H locs cells slots Qf (F0 m pc lsA st0) := by
  obtain ⟨hx, hb, hml, hown, hts, hK, hr0, hlk, hin, hA⟩ := X
  have hFc : ∀ q', va_A [(q, e0)] H.size q' → A q' := by
    intro q' h
    rcases h with ⟨k, e1, h⟩ | h
    · have h1 := List.mem_singleton.mp (List.mem_of_getElem? h)
      cases h1
      exact (D_iff.mp hD).2 _ List.mem_cons_self
    · exact hA q' (Nat.le_trans hS.1 h)
  refine va_callv hr hS (fun q' _ h => hFc q' h) hFc (fun u t H1 locs1 ht hvm hw hB hz1 hk1 hS1 => ?_)
  obtain ⟨hP1, hD1, hK1⟩ := hB
  rw [ht] at hP1
  obtain ⟨hP2, hD2⟩ := va_joinQ (X := [(q, e0)]) (cx := [(q, e0)]) (wr := []) (w1 := fam D T l u ix) (pl := rest) hP hD [0] [] rfl rfl rfl (fun i hi => absurd hi List.not_mem_nil) hk1 hFc hP1 hD1
  exact kk u hw H1 locs1 lsA hP2 hD2 hS1 hls
theorem k_initN {w q d' mc ms idx : Nat} {ix : List Nat} {e0 : va_E} {rest : va_W} {cal : MI} (X : AtK D T l mi p s m args meth c A) (hd : decode mi.2.1 pc = .ok (.invokespecial idx, 3)) (hw : IN mi.1 idx cal) (hct : CtI D T l d' mc ms cal e0 w ix) (hfr : d' + 1 ≤ R.frames) (hlo : 8 + (cal.2.2.1 + 11) + 36 * d' ≤ R.locals) (hcells : cells + mc ≤ R.cells) (hslots : slots + ms ≤ R.slots) (hst : (st.map fun v => v.category).sum ≤ 8)
    (kk : ∀ ad : Nat → Nat, ad w = q → KJ D l R mi A Qf p e s m args below meth c lv (pc + 3) (cells + mc) (slots + ms) st (fam D T l ad ix ++ rest)) : KJ D l R mi A Qf p e s m args below meth c lv pc cells slots (.ref q :: st) ((q, e0) :: rest) := by
  intro H locs lsA hP hD hS hls
  obtain ⟨hx, hb, hml, hown, hts, hK, hr0, hlk, hin, hA⟩ := id X
  obtain ⟨⟨host, w1⟩, w2, w3, w4, w5, w6, hy⟩ := hw
  have hG : GoodIn wG (.code cal.2.2.2.2 cal.2.1 cal.2.2.1 none :: wG) := by
    intro w h
    rcases List.mem_cons.mp h with rfl | h
    · rw [w5] at w4; exact good_wG w4
    · exact good_wG h
  have cw := va_cnB (R := R) (own := mi.1) (index := idx) (rm := rmI d' mc ms) (mc := mc) (ms := ms) 0 hts hG rfl rfl rfl (hK.1.2 _ w1) (hts _ w3) hy ⟨hfr, hlo⟩
  have hP0 : va_P D vwCl [(q, e0)] H := P_iff.mpr fun x hx => P_iff.mp hP x (by rw [List.mem_singleton.mp hx]; exact List.mem_cons_self)
  have hct' := hct q H.size
  rw [w5] at hct'
  have hrun := va_runIN (cc := mi.2.1) (nL := mi.2.2.1) (Ts := wG) (own := mi.1) (As := []) (rest := st) (p := p) (e := e) (below := below) (meth := meth) (locs := locs) (cells := cells) (slots := slots) (H := H) (g := F0 m pc lsA (.ref q :: st)) ⟨hx, hb, hml, hown, hts⟩ hct' ⟨cw, w6, hts _ w2⟩ ⟨blindK, fun U hU hW => ⟨rfl, by rw [hU], by rw [hU]; exact hP0, hK.moved hW⟩⟩ rfl rfl hls.1 rfl (lv_room hst) hd ⟨hcells, hslots⟩
  exact k_after X hP hD hS hls hrun kk
theorem k_initS {w q d' mc ms idx : Nat} {ix : List Nat} {e0 : va_E} {rest : va_W} {cal : MI} (X : AtK D T l mi p s m args meth c A) (hd : decode mi.2.1 pc = .ok (.invokespecial idx, 3)) (hw : IS mi.1 idx cal) (hct : CtI D T l d' mc ms cal e0 w ix) (hfr : d' + 1 ≤ R.frames) (hlo : 8 + (cal.2.2.1 + 11) + 36 * d' ≤ R.locals) (hcells : cells + mc ≤ R.cells) (hslots : slots + ms ≤ R.slots) (hst : (st.map fun v => v.category).sum ≤ 8)
    (kk : ∀ ad : Nat → Nat, ad w = q → KJ D l R mi A Qf p e s m args below meth c lv (pc + 3) (cells + mc) (slots + ms) st (fam D T l ad ix ++ rest)) : KJ D l R mi A Qf p e s m args below meth c lv pc cells slots (.ref q :: st) ((q, e0) :: rest) := by
  intro H locs lsA hP hD hS hls
  obtain ⟨hx, hb, hml, hown, hts, hK, hr0, hlk, hin, hA⟩ := id X
  obtain ⟨w1, w2, w3, w4, w5, w6, hy⟩ := hw
  have hG : GoodIn wG (.code cal.2.2.2.2 cal.2.1 cal.2.2.1 none :: wG) := by
    intro w h
    rcases List.mem_cons.mp h with rfl | h
    · rw [w5] at w4; exact good_wG w4
    · exact good_wG h
  have cw := cwI (R := R) (own := mi.1) (index := idx) (rm := rmI d' mc ms) (mc := mc) (ms := ms) 0 hts hG rfl rfl rfl (hts _ w3) (hts _ w1) (hts _ w2) w6 hy ⟨hfr, hlo⟩
  have hP0 : va_P D vwCl [(q, e0)] H := P_iff.mpr fun x hx => P_iff.mp hP x (by rw [List.mem_singleton.mp hx]; exact List.mem_cons_self)
  have hct' := hct q H.size
  rw [w5] at hct'
  have hrun := va_runI (cc := mi.2.1) (nL := mi.2.2.1) (Ts := wG) (own := mi.1) (As := []) (rest := st) (p := p) (e := e) (below := below) (meth := meth) (locs := locs) (cells := cells) (slots := slots) (H := H) (g := F0 m pc lsA (.ref q :: st)) ⟨hx, hb, hml, hown, hts⟩ hct' cw ⟨blindK, fun U hU hW => ⟨rfl, by rw [hU], by rw [hU]; exact hP0, hK.moved hW⟩⟩ rfl rfl hls.1 rfl (lv_room hst) hd ⟨hcells, hslots⟩
  exact k_after X hP hD hS hls hrun kk
end MAKE3
