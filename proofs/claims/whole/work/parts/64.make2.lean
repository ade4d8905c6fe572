/-- a final field of references that its own constructor writes -/
def FF (own : String) (idx ci k : Nat) : Prop := ∃ (C : String) (T : u_T) (N : Nat) (ty : Nat → FieldType), CLS ci C T N ty ∧ k < N ∧ Cond.fieldLink own idx (T k).1 (T k).2.1 (T k).2.2.1 ∈ wG ∧ (T k).2.2.2 = true ∧ (T k).1 = own ∧ (∀ q, narrow (ty k) (.ref q) = .ref q) ∧ ∀ q, fits (ty k) (.ref q) = true
def OI (own : String) (idx : Nat) : Prop := Cond.methodLink own idx objectInit ∈ wG
theorem oi_im : Cond.instanceMethod objectInit ∈ wG := in_wG (by decide +kernel) (by decide +kernel)
theorem oi_co : Cond.code objectInit ⟨#[0xb1]⟩ 1 none ∈ wG := in_wG (by decide +kernel) (by decide +kernel)
section MAKE2
variable {D : va_G} {T : ClassId × ClassId × ClassId} {l : Launch} {R : Room} {mi : MI} {A : Nat → Prop} {Qf : State → Prop} {p : Program} {e : Env} {s : State} {m : MethodId} {args : Array Value} {below : List Frame} {meth : Method} {c : Code} {lv : List (Nat × Value)} {pc cells slots h0 : Nat} {st : List Value} {ws : va_W}
theorem k_putF {ci k idx q : Nat} {fs : List Value} {rest : va_W} (X : AtK D T l mi p s m args meth c A) (hd : decode mi.2.1 pc = .ok (.putfield idx, 3)) (hf : FF mi.1 idx ci k) (hl : k < fs.length) (kk : KJ D l R mi A Qf p e s m args below meth c lv (pc + 3) cells slots st ((h0, .inr (ci, fs.set k (.ref q))) :: rest)) : KJ D l R mi A Qf p e s m args below meth c lv pc cells slots (.ref q :: .ref h0 :: st) ((h0, .inr (ci, fs)) :: rest) := by
  intro H locs lsA hP hD hS hls
  obtain ⟨hx, hb, hml, hown, hts, hK, hr, hlk, hin, hA⟩ := X
  obtain ⟨C, TT, N, ty, ⟨hc, hin2, hty, hnm⟩, hkN, hw, hfin, hdecl, hn, hfit⟩ := hf
  exact va_putF (v := .ref q) (ty := ty k) hx hb hts hin2 ty hty hnm hown hK.1.1 hP hD hS 0 rfl hc k hkN (hts _ hw) (fun _ h => h) hfin hin hdecl (hty k hkN) (hn q) (hfit q) hl hd (fun H1 locs1 hP1 hD1 hS1 => kk H1 locs1 lsA hP1 hD1 hS1 hls)
theorem k_putI {ci k idx : Nat} {v : Int32} {fs : List Value} {rest : va_W} (X : AtK D T l mi p s m args meth c A) (hd : decode mi.2.1 pc = .ok (.putfield idx, 3)) (hf : FP mi.1 idx ci k .int) (hl : k < fs.length) (kk : KJ D l R mi A Qf p e s m args below meth c lv (pc + 3) cells slots st ((h0, .inr (ci, fs.set k (.int v))) :: rest)) : KJ D l R mi A Qf p e s m args below meth c lv pc cells slots (.int v :: .ref h0 :: st) ((h0, .inr (ci, fs)) :: rest) := by
  intro H locs lsA hP hD hS hls
  obtain ⟨hx, hb, hml, hown, hts, hK, hr, hlk, hin, hA⟩ := X
  obtain ⟨C, TT, N, ty, ⟨hc, hin2, hty, hnm⟩, hkN, hw, hfin, ht⟩ := hf
  exact va_put (v := .int v) (ty := .int) hx hb hts hin2 ty hty hnm hown hK.1.1 hP hD hS 0 rfl hc k hkN (hts _ hw) (fun _ h => h) hfin (by rw [hty k hkN, ht]) rfl rfl hl hd (fun H1 locs1 hP1 hD1 hS1 => kk H1 locs1 lsA hP1 hD1 hS1 hls)
theorem k_obj {idx : Nat} (X : AtK D T l mi p s m args meth c A) (hd : decode mi.2.1 pc = .ok (.invokespecial idx, 3)) (ho : OI mi.1 idx) (h1 : 1 ≤ R.frames) (h2 : 12 ≤ R.locals) (kk : KJ D l R mi A Qf p e s m args below meth c lv (pc + 3) cells slots [] ws) : KJ D l R mi A Qf p e s m args below meth c lv pc cells slots [.ref h0] ws := by
  intro H locs lsA hP hD hS hls
  obtain ⟨hx, hb, hml, hown, hts, hK, hr, hlk, hin, hA⟩ := X
  refine W.objInit hx hb hown (hts _ ho) (hts _ oi_im) (hts _ oi_co) rfl (by rw [hml]; exact hls.1) rfl hd h1 h2 ?_
  refine W.eq (g2 := F0 m (pc + 3) lsA []) rfl ?_
  exact kk H locs lsA hP hD hS hls
theorem k_ret {Qc : Array Value → State → Outcome → State → Prop} (X : AtK D T l mi p s m args meth c A) (hd : decode mi.2.1 pc = .ok (.return_, 1)) (hr0 : mi.2.2.2.1 = none) (hq : ∀ t : State, va_P D vwCl ws t.heap → va_D A ws → KS D T l t → va_F A s t → Qc args s (.returned none) t) : KJ D l R mi A (MQ below Qc args s cells slots A) p e s m args below meth c lv pc cells slots [] ws := by
  intro H locs lsA hP hD hS hls
  obtain ⟨hx, hb, hml, hown, hts, hK, hr, hlk, hin, hA⟩ := X
  exact W.vret hx hb (hr.trans hr0) (fun t ht hW => hq t (by rw [ht]; exact hP) hD (hK.moved hW) (hS.F ht)) hS.2.2 hd hlk
end MAKE2
def rmI (d mc ms : Nat) : Room := { frames := d, cells := mc, slots := ms, locals := 36 * d }
/-- a constructor's contract: the object at h, as new made it, becomes a family of cells -/
def CtI (D : va_G) (T : ClassId × ClassId × ClassId) (l : Launch) (d mc ms : Nat) (mi : MI) (e0 : va_E) (w : Nat) (ix : List Nat) : Prop := ∀ h sz : Nat,
  Met l mi.2.2.2.2 (.code mi.2.2.2.2 mi.2.1 mi.2.2.1 mi.2.2.2.1 :: wG) (rmI d mc ms) (va_Pc [.ref h] (fun U => U.heap.size = sz ∧ va_P D vwCl [(h, e0)] U.heap ∧ KS D T l U)) (va_Qv (fun ad : Nat → Nat => ad w = h) (fun ad t => va_P D vwCl (fam D T l ad ix) t.heap ∧ va_D (va_A [(h, e0)] sz) (fam D T l ad ix) ∧ KS D T l t) (va_A [(h, e0)] sz)) mc ms (va_A [(h, e0)] sz)
theorem D_one {h sz : Nat} {e0 : va_E} : va_D (va_A [(h, e0)] sz) [(h, e0)] := D_iff.mpr ⟨by simp, fun q hq => by
  rw [List.mem_singleton.mp hq]
  exact Or.inl ⟨0, e0, rfl⟩⟩
/-- a contract out of a constructor's walk -/
theorem met_of {D : va_G} {T : ClassId × ClassId × ClassId} {l : Launch} {R : Room} {mi : MI} {e0 : va_E} {h sz mc ms : Nat} {Qc : Array Value → State → Outcome → State → Prop} {k : Nat} (hy : plainName mi.2.2.2.2.cls = true) (hc : mi.2.2.2.2.cls = mi.1) (hi : mi.2.2.2.2.name = "<init>") (hn : 1 + k = mi.2.2.1)
    (hw : ∀ (p : Program) (e : Env) (s : State) (m : MethodId) (below : List Frame) (meth : Method) (c : Code), s.heap.size = sz → AtK D T l mi p s m #[.ref h] meth c (va_A [(h, e0)] sz) → KJ D l R mi (va_A [(h, e0)] sz) (MQ below Qc #[.ref h] s mc ms (va_A [(h, e0)] sz)) p e s m #[.ref h] below meth c [(0, .ref h)] 0 0 0 [] [(h, e0)]) :
    Met l mi.2.2.2.2 (.code mi.2.2.2.2 mi.2.1 mi.2.2.1 mi.2.2.2.1 :: wG) R (va_Pc [.ref h] (fun U => U.heap.size = sz ∧ va_P D vwCl [(h, e0)] U.heap ∧ KS D T l U)) Qc mc ms (va_A [(h, e0)] sz) := by
  refine Met.ofW (cc := mi.2.1) (maxL := mi.2.2.1) (ret := mi.2.2.2.1) hy rfl ?_
  intro p e s m args below meth c s₁ B hml hv
  obtain ⟨rfl, hsz, hP, hK⟩ := hv
  have hts := atoms_spec (ws := .code mi.2.2.2.2 mi.2.1 mi.2.2.1 mi.2.2.2.1 :: wG) B.pre
  have hl := lv_entry ([.ref h]) (n := mi.2.2.1) (by show 1 ≤ mi.2.2.1; omega)
  rw [lg_entry_eq]
  refine hw p e s m below meth c hsz ⟨B.exec, B.bytes, hml, ?_, fun w hw => hts w (List.mem_cons_of_mem _ hw), hK, B.returns, B.notSynchronized, ?_, fun q hq => Or.inr (by rw [← hsz]; exact hq)⟩ s.heap [] _ hP D_one va_S.rf hl
  · rw [← hc]; exact findClass_of_methodNamed B.named
  · have := (name_of_methodNamed B.named B.method).1
    rw [this, hi]
