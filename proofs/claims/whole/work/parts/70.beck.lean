/-! the big constructors -/
section BECK
variable {D : va_G} {T : ClassId × ClassId × ClassId} {l : Launch} {R : Room} {mi : MI} {A : Nat → Prop} {Qf : State → Prop} {p : Program} {e : Env} {s : State} {m : MethodId} {args : Array Value} {below : List Frame} {meth : Method} {c : Code} {lv : List (Nat × Value)} {pc cells slots h0 : Nat} {st : List Value} {ws : va_W}
/-- this.f = new X() -/
theorem k_mkN {idx idx2 idx3 ci N w k d' mc ms : Nat} {ix ix1 : List Nat} {fs fs0 : List Value} {ext : va_W} {cal : MI} {ad : Nat → Nat} {r : List (Nat × Value)} (X : AtK D T l mi p s m args meth c A) (hw : NW mi.1 idx ci N fs0) (hc : IN mi.1 idx2 cal ∨ IS mi.1 idx2 cal) (hct : CtI D T l d' mc ms cal (.inr (ci, fs0)) w ix1) (hf : FF mi.1 idx3 6 k) (hcl : ∀ k ∈ ix, ∀ q ∈ rfs k, q ∈ ix) (hcl1 : ∀ k ∈ ix1, ∀ q ∈ rfs k, q ∈ ix1) (hdis : ∀ k ∈ ix, k ∉ ix1) (hwi : w ∈ ix1) (hl : k < fs.length) (hfr : d' + 1 ≤ R.frames) (hlo : 8 + (cal.2.2.1 + 11) + 36 * d' ≤ R.locals) (hcells : cells + 1 + mc ≤ R.cells) (hslots : slots + N + ms ≤ R.slots)
    (d0 : decode mi.2.1 pc = .ok (.aload_n 0, 1)) (d1 : decode mi.2.1 (pc + 1) = .ok (.new idx, 3)) (d2 : decode mi.2.1 (pc + 1 + 3) = .ok (.dup, 1)) (d3 : decode mi.2.1 (pc + 1 + 3 + 1) = .ok (.invokespecial idx2, 3)) (d4 : decode mi.2.1 (pc + 1 + 3 + 1 + 3) = .ok (.putfield idx3, 3))
    (kk : ∀ (ad2 : Nat → Nat) (q : Nat), ad2 w = q → (∀ k ∈ ix, ad2 k = ad k) → KJ D l R mi A Qf p e s m args below meth c ((0, .ref h0) :: r) (pc + 1 + 3 + 1 + 3 + 3) (cells + 1 + mc) (slots + N + ms) [] ((h0, .inr (6, fs.set k (.ref q))) :: (ext ++ fam D T l ad2 (ix ++ ix1)))) : KJ D l R mi A Qf p e s m args below meth c ((0, .ref h0) :: r) pc cells slots [] ((h0, .inr (6, fs)) :: (ext ++ fam D T l ad ix)) := by
  refine k_a0 X d0 ?_
  refine k_new X d1 hw (by omega) (by omega) (fun q => ?_)
  refine k_dup rfl X d2 ?_
  have go : ∀ ad1 : Nat → Nat, ad1 w = q → KJ D l R mi A Qf p e s m args below meth c ((0, .ref h0) :: r) (pc + 1 + 3 + 1 + 3) (cells + 1 + mc) (slots + N + ms) [.ref q, .ref h0] (fam D T l ad1 ix1 ++ ((h0, .inr (6, fs)) :: (ext ++ fam D T l ad ix))) := by
    intro ad1 h1
    obtain ⟨ad2, e1, e2, e3⟩ := fam_mix (D := D) (T := T) (l := l) (ad := ad) (ad1 := ad1) hcl hcl1 hdis
    refine k_perm (ws' := (h0, .inr (6, fs)) :: (ext ++ fam D T l ad2 (ix ++ ix1))) ?_ ?_
    · rw [← e3, ← List.append_assoc]
      exact List.perm_append_comm
    · refine k_putF X d4 hf hl ?_
      exact kk ad2 q (by rw [e2 w hwi, h1]) e1
  rcases hc with hc | hc
  · exact k_initN X d3 hc hct hfr hlo hcells hslots (by show (1 + (1 + 0)) ≤ 8; decide) go
  · exact k_initS X d3 hc hct hfr hlo hcells hslots (by show (1 + (1 + 0)) ≤ 8; decide) go
theorem inj_of {g : GT} {μ : MM} {A : Nat → Prop} (h : va_D A (eW g μ)) : INJ g ∧ ∀ k, dom g k → A (g.1 k) := by
  refine ⟨fun i j hi hj he => ?_, fun k hk => h.2 _ _ (eW_get g μ hk)⟩
  have := h.1 _ _ _ _ (eW_get g μ hi) (eW_get g μ hj) he
  have h1 := hi.1
  have h2 := hj.1
  omega
/-- the last call of a constructor, and its return -/
theorem k_callEnd {ad : Nat → Nat} {a b : Nat} {d' idx ci n k0 : Nat} {cal : MI} {As : List Value} {fs : List (Option Nat)} {μ μ2 : MM} {Qc : Array Value → State → Outcome → State → Prop} (X : AtK D T l mi p s m args meth c A) (hd : decode mi.2.1 pc = .ok (.invokevirtual idx, 3)) (hdr : decode mi.2.1 (pc + 3) = .ok (.return_, 1)) (hr0 : mi.2.2.2.1 = none) (hw : CV mi.1 idx ci n cal) (hct : INJ (ad, D, T, l, a, b) → Ct (ad, D, T, l, a, b) d' cal (.ref k0 :: As) μ (QV μ2)) (hfr : d' + 1 ≤ R.frames) (hlo : 8 + (cal.2.2.1 + 11) + 36 * d' ≤ R.locals) (hcs : cells ≤ R.cells ∧ slots ≤ R.slots) (hb0 : dom (ad, D, T, l, a, b) k0) (hs : sh k0 = .inl (ci, fs)) (hn : As.length = n)
    (hq : ∀ t : State, VP (ad, D, T, l, a, b) μ2 t.heap → INJ (ad, D, T, l, a, b) → (∀ k, dom (ad, D, T, l, a, b) k → A (ad k)) → KS D T l t → va_F A s t → Qc args s (.returned none) t) : KJ D l R mi A (MQ below Qc args s cells slots A) p e s m args below meth c lv pc cells slots ((As.map (cv (ad, D, T, l, a, b))).reverse ++ [.ref (ad k0)]) (eW (ad, D, T, l, a, b) μ) := by
  intro H locs lsA hP hD hS hls
  obtain ⟨hi, hAk⟩ := inj_of hD
  obtain ⟨hx, hb, hml, hown, hts, hK, hr, hlk, hin, hA⟩ := id X
  obtain ⟨⟨T1, N1, hci⟩, w1, w2, w3, w4, w5, hy⟩ := hw
  have hG : GoodIn wG (wsV mi.1 idx cal.1 cal.2.2.2.2 (.code cal.2.2.2.2 cal.2.1 cal.2.2.1 cal.2.2.2.1 :: wG)) := by
    intro w h
    unfold wsV at h
    simp only [List.cons_append, List.nil_append, List.mem_cons] at h
    rcases h with rfl | rfl | rfl | rfl | rfl | h
    · exact good_wG w1
    · exact good_wG w2
    · exact good_wG w3
    · exact good_wG w4
    · exact good_wG w5
    · exact good_wG h
  have hSK : SK (ad, D, T, l, a, b) s := hK.1
  have cw := cwV (R := R) (own := mi.1) (index := idx) (rm := rmD d') (mc := 0) (ms := 0) n hts hG rfl rfl rfl hy ⟨hfr, hlo⟩
  have hg := eW_get (ad, D, T, l, a, b) μ hb0
  rw [eC_obj hs] at hg
  have hrecv := va_recv hSK.1 hP hci hg
  have hrun := va_runV (cc := mi.2.1) (nL := mi.2.2.1) (Ts := wG) (own := mi.1) (As := As.map (cv (ad, D, T, l, a, b))) (rest := []) (p := p) (e := e) (below := below) (meth := meth) (locs := locs) (cells := cells) (slots := slots) (g := F0 m pc lsA ((As.map (cv (ad, D, T, l, a, b))).reverse ++ [.ref (ad k0)])) ⟨hx, hb, hml, hown, hts⟩ (hct hi) cw ⟨blindA (as := .ref k0 :: As), hrecv, fun U hU hW => ⟨rfl, by rw [hU]; exact hP, SK.moved hW hSK⟩⟩ rfl (by rw [List.length_map]; exact hn) hls.1 rfl (lv_room (by decide)) hd ⟨hcs.1, hcs.2⟩
  intro T0 hT X0
  obtain ⟨v, st₀, t, T', L0, hz0, X', hL, e1, e2, ⟨⟨rv, μ', hv, hqv, hP', hK'⟩, hz, hk⟩, st9⟩ := hrun T0 hT X0
  obtain ⟨rfl, hmu⟩ := hqv
  rw [hmu] at hP'
  cases hv
  rw [hz0] at hz hk
  have hAq : ∀ q : Nat, inA (ad, D, T, l, a, b) q → A q := fun q ⟨k, h1, h2⟩ => by rw [h2]; exact hAk k h1
  have hS' : va_S A s.heap T'.heap (locs ++ L0) := ⟨Nat.le_trans hS.1 (by rw [e1]; exact hz), fun q h1 h2 => by rw [e1, hk q (Nat.lt_of_lt_of_le h1 hS.1) (fun h => h2 (hAq q h))]; exact hS.2.1 q h1 h2, fun q hq => by
      rcases List.mem_append.mp hq with h | h
      · exact hS.2.2 q h
      · exact hAq _ (hL q h)⟩
  have hPT : VP (ad, D, T, l, a, b) μ2 T'.heap := by rw [e1]; exact hP'
  have fin : W p l e R s m args below meth c T'.heap (locs ++ L0) (cells + 0) (slots + 0) (MQ below Qc args s cells slots A) (F0 m (pc + 3) lsA []) := W.vret hx hb (hr.trans hr0) (fun t ht hW => hq t (by rw [ht]; exact hPT) hi hAk (hK.moved hW) (hS'.F ht)) hS'.2.2 hdr hlk
  obtain ⟨t2, a1, b1⟩ := fin T' rfl X'
  exact ⟨t2, st9 t2 a1, b1⟩
/-- images[j] = new World() -/
theorem imgStep {h qi j w : Nat} {ad : Nat → Nat} {f : Nat → Option Nat} {fs : List Value} {ix : List Nat} (X : AtK D T l mi_X6_init p s m args meth c A) (hj : j < 2) (hw : isW w) (hfs : fs[6]? = some (.ref qi)) (hcl : ∀ k ∈ ix, ∀ q ∈ rfs k, q ∈ ix) (hcl1 : ∀ k ∈ List.range' w 6, ∀ q ∈ rfs k, q ∈ List.range' w 6) (hdis : ∀ k ∈ ix, k ∉ List.range' w 6) (hfr : 2 ≤ R.frames) (hlo : 56 ≤ R.locals) (hcells : cells + 6 ≤ R.cells) (hslots : slots + 168 ≤ R.slots)
    (kk : ∀ (ad2 : Nat → Nat) (q : Nat), ad2 w = q → (∀ k ∈ ix, ad2 k = ad k) → KJ D l R mi_X6_init A Qf p e s m args below meth c [(0, .ref h), (1, .int (nI (j + 1)))] 80 (cells + 6) (slots + 168) [] ((h, .inr (6, fs)) :: (qi, aQ T 2 (va_up f j (some q))) :: fam D T l ad2 (ix ++ List.range' w 6))) : KJ D l R mi_X6_init A Qf p e s m args below meth c [(0, .ref h), (1, .int (nI j))] 80 cells slots [] ((h, .inr (6, fs)) :: (qi, aQ T 2 f) :: fam D T l ad ix) := by
  refine k_i1 X dX6_init_80 ?_
  refine k_a0 X dX6_init_81 ?_
  refine k_getR X dX6_init_82 fa_X6_43 hfs ?_
  refine k_alen X dX6_init_85 ?_
  refine k_ge (tgt := 108) X dX6_init_86 (by decide) (fun h => absurd h (nI_ge hj (by decide))) (fun _ => ?_)
  refine k_a0 X dX6_init_89 ?_
  refine k_getR X dX6_init_90 fa_X6_43 hfs ?_
  refine k_i1 X dX6_init_93 ?_
  refine k_new X dX6_init_94 nw_X6_26 (by omega) (by omega) (fun q => ?_)
  refine k_dup rfl X dX6_init_97 ?_
  refine k_initN X dX6_init_98 in_X6_28 (ci_X5 hw) hfr (by show 8 + (1 + 11) + 36 ≤ R.locals; omega) (by omega) (by omega) (Nat.le_of_ble_eq_true rfl) (fun ad1 had1 => ?_)
  have ef := fam_w (D := D) (T := T) (l := l) (ad := ad1) hw
  rw [had1] at ef
  obtain ⟨ad2, e1, e2, e3⟩ := fam_mix (D := D) (T := T) (l := l) (ad := ad) (ad1 := ad1) hcl hcl1 hdis
  refine k_perm (ws' := (h, .inr (6, fs)) :: (qi, aQ T 2 f) :: (fam D T l ad1 [w, w + 1, w + 2, w + 3, w + 4, w + 5] ++ fam D T l ad ix)) ?_ ?_
  · exact List.perm_middle.trans (List.Perm.cons _ List.perm_middle)
  have back : KJ D l R mi_X6_init A Qf p e s m args below meth c [(0, .ref h), (1, .int (nI j))] 102 (cells + 1 + 5) (slots + 13 + 155) [] ((h, .inr (6, fs)) :: (qi, aQ T 2 (va_up f j (some q))) :: (fam D T l ad1 [w, w + 1, w + 2, w + 3, w + 4, w + 5] ++ fam D T l ad ix)) := by
    refine k_perm (ws' := (h, .inr (6, fs)) :: (qi, aQ T 2 (va_up f j (some q))) :: fam D T l ad2 (ix ++ List.range' w 6)) ?_ ?_
    · rw [← e3]
      exact List.Perm.cons _ (List.Perm.cons _ List.perm_append_comm)
    · refine k_inc X (by decide) dX6_init_102 ?_
      refine k_goto (tgt := 80) X dX6_init_105 (by decide) ?_
      exact k_cs (by omega) (by omega) (kk ad2 q (by rw [e2 w (by rw [List.mem_range'_1]; omega), had1]) e1)
  rw [ef] at back ⊢
  exact k_aast X dX6_init_101 hj (by decide) back
end BECK
