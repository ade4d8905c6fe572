/-! rows for arrays of worlds, and for loops in constructors -/
abbrev aQ (T : ClassId × ClassId × ClassId) (n : Nat) (f : Nat → Option Nat) : va_E := .inl (T.2.2, n, .inr (.inr (.inr (.inr f))))
section PAST
variable {D : va_G} {T : ClassId × ClassId × ClassId} {l : Launch} {R : Room} {mi : MI} {A : Nat → Prop} {Qf : State → Prop} {p : Program} {e : Env} {s : State} {m : MethodId} {args : Array Value} {below : List Frame} {meth : Method} {c : Code} {lv : List (Nat × Value)} {pc cells slots h0 : Nat} {st : List Value} {ws : va_W}
theorem k_newQ {n idx : Nat} (X : AtK D T l mi p s m args meth c A) (hd : decode mi.2.1 pc = .ok (.anewarray idx, 3)) (hcl : Cond.classLink mi.1 idx "BeckTalk$World" ∈ wG) (hn : n < 100000) (hcells : cells + 1 ≤ R.cells) (hslots : slots + n ≤ R.slots) (kk : ∀ q, KJ D l R mi A Qf p e s m args below meth c lv (pc + 3) (cells + 1) (slots + n) (.ref q :: st) (ws ++ [(q, aQ T n (fun _ => none))])) : KJ D l R mi A Qf p e s m args below meth c lv pc cells slots (.int (nI n) :: st) ws := by
  intro H locs lsA hP hD hS hl
  obtain ⟨hx, hb, hml, hown, hts, hK, hr, hlk, hin, hA⟩ := X
  refine va_newq (N' := n) hx hb hown (hts _ hcl) hK.2 hK.1.1 hP hD hS hA (nI_pos (by omega)) (nI_clamp (by omega)) (by omega) hcells hslots hd (fun q cA H1 hK1 hP1 hD1 hS1 => ?_)
  obtain ⟨kA, comp, a1, a2, a3, h1⟩ := (hK1.2 3 (cA, .object "BeckTalk$World") rfl).2
  obtain ⟨kA2, comp2, b1, b2, b3, h2⟩ := (hK.1.1.2 2 (T.2.2, .object "BeckTalk$World") rfl).2
  have h3 : cA = T.2.2 := Option.some.inj (h1.symm.trans h2)
  subst h3
  exact kk q H1 locs lsA hP1 hD1 hS1 hl
theorem k_getR {ci k idx q : Nat} {fs : List Value} {rest : va_W} (X : AtK D T l mi p s m args meth c A) (hd : decode mi.2.1 pc = .ok (.getfield idx, 3)) (hf : FA mi.1 idx ci k) (hk : fs[k]? = some (.ref q)) (kk : KJ D l R mi A Qf p e s m args below meth c lv (pc + 3) cells slots (.ref q :: st) ((h0, .inr (ci, fs)) :: rest)) : KJ D l R mi A Qf p e s m args below meth c lv pc cells slots (.ref h0 :: st) ((h0, .inr (ci, fs)) :: rest) := by
  intro H locs lsA hP hD hS hl
  obtain ⟨hx, hb, hml, hown, hts, hK, hr, hlk, hin, hA⟩ := X
  obtain ⟨C, TT, N, ty, ⟨hc, hin2, hty, hnm⟩, hkN, hw⟩ := hf
  exact va_get (v := .ref q) hx hb hts hin2 hown hK.1.1 hP 0 rfl hc k hkN (hts _ hw) (fun _ h => h) hk hd (kk H locs lsA hP hD hS hl)
theorem k_alen {q n : Nat} {f : Nat → Option Nat} {x : Nat × va_E} {rest : va_W} (X : AtK D T l mi p s m args meth c A) (hd : decode mi.2.1 pc = .ok (.arraylength, 1)) (kk : KJ D l R mi A Qf p e s m args below meth c lv (pc + 1) cells slots (.int (nI n) :: st) (x :: (q, aQ T n f) :: rest)) : KJ D l R mi A Qf p e s m args below meth c lv pc cells slots (.ref q :: st) (x :: (q, aQ T n f) :: rest) := by
  intro H locs lsA hP hD hS hl
  obtain ⟨hx, hb, hml, hown, hts, hK, hr, hlk, hin, hA⟩ := X
  exact va_alen hx hb hK.1.1 hP 1 2 rfl rfl rfl hd (kk H locs lsA hP hD hS hl)
/-- worlds[j] = the world at v -/
theorem k_aast {q n v : Nat} {j : Nat} {f : Nat → Option Nat} {x : Nat × va_E} {vs : List Value} {rest : va_W} (X : AtK D T l mi p s m args meth c A) (hd : decode mi.2.1 pc = .ok (.aastore, 1)) (hj : j < n) (hn : n < 100000) (kk : KJ D l R mi A Qf p e s m args below meth c lv (pc + 1) cells slots st (x :: (q, aQ T n (va_up f j (some v))) :: (v, .inr (5, vs)) :: rest)) : KJ D l R mi A Qf p e s m args below meth c lv pc cells slots (.ref v :: .int (nI j) :: .ref q :: st) (x :: (q, aQ T n f) :: (v, .inr (5, vs)) :: rest) := by
  intro H locs lsA hP hD hS hl
  obtain ⟨hx, hb, hml, hown, hts, hK, hr, hlk, hin, hA⟩ := X
  refine va_astq (r := (RX5, TX5, 13)) (n := n) hx hb hK.1.1 hP hD hS 1 2 2 5 rfl rfl rfl rfl (vp_in_nI hj (by omega)) hd (fun H1 locs1 hP1 hD1 hS1 => ?_)
  rw [nI_clamp (by omega)] at hP1 hD1
  exact kk H1 locs1 lsA hP1 hD1 hS1 hl
theorem k_i1 {v0 : Value} {x : Int32} (X : AtK D T l mi p s m args meth c A) (hd : decode mi.2.1 pc = .ok (.iload_n 1, 1)) (kk : KJ D l R mi A Qf p e s m args below meth c [(0, v0), (1, .int x)] (pc + 1) cells slots (.int x :: st) ws) : KJ D l R mi A Qf p e s m args below meth c [(0, v0), (1, .int x)] pc cells slots st ws :=
  fun H locs lsA hP hD hS hl => lv_iload_n X.1 X.2.1 hd rfl (lv_at hl 1 rfl) (kk H locs lsA hP hD hS hl)
theorem k_s1 {q : Nat} {x : Int32} (X : AtK D T l mi p s m args meth c A) (hn : 1 < mi.2.2.1) (hd : decode mi.2.1 pc = .ok (.istore_n 1, 1)) (kk : KJ D l R mi A Qf p e s m args below meth c [(0, .ref q), (1, .int x)] (pc + 1) cells slots st ws) : KJ D l R mi A Qf p e s m args below meth c [(0, .ref q)] pc cells slots (.int x :: st) ws :=
  fun H locs lsA hP hD hS hl => lv_istore_n (lv' := [(1, .int x), (0, .ref q)]) X.1 X.2.1 hd rfl hl hn rfl (fun lsB hB => kk H locs lsB hP hD hS (lv_sub hB [1, 0] rfl))
theorem k_inc {q j : Nat} (X : AtK D T l mi p s m args meth c A) (hn : 1 < mi.2.2.1) (hd : decode mi.2.1 pc = .ok (.iinc 1 1, 3)) (kk : KJ D l R mi A Qf p e s m args below meth c [(0, .ref q), (1, .int (nI (j + 1)))] (pc + 3) cells slots st ws) : KJ D l R mi A Qf p e s m args below meth c [(0, .ref q), (1, .int (nI j))] pc cells slots st ws :=
  fun H locs lsA hP hD hS hl => lv_iinc (v := nI (j + 1)) (lv' := [(1, .int (nI (j + 1))), (0, .ref q)]) X.1 X.2.1 hd hl (k := 1) rfl (by rw [← nI_1]; rfl) hn rfl (fun lsB hB => kk H locs lsB hP hD hS (lv_sub hB [1, 0] rfl))
theorem k_goto {off : Int} {tgt : Nat} (X : AtK D T l mi p s m args meth c A) (hd : decode mi.2.1 pc = .ok (.goto off, 3)) (ht : (pc : Int) + off = (tgt : Int)) (kk : KJ D l R mi A Qf p e s m args below meth c lv tgt cells slots st ws) : KJ D l R mi A Qf p e s m args below meth c lv pc cells slots st ws :=
  fun H locs lsA hP hD hS hl => lv_goto X.1 X.2.1 hd ht (kk H locs lsA hP hD hS hl)
theorem k_ge {x y : Int32} {off : Int} {tgt : Nat} (X : AtK D T l mi p s m args meth c A) (hd : decode mi.2.1 pc = .ok (.if_icmp .ge off, 3)) (ht : (pc : Int) + off = (tgt : Int)) (kt : y ≤ x → KJ D l R mi A Qf p e s m args below meth c lv tgt cells slots st ws) (kf : ¬ y ≤ x → KJ D l R mi A Qf p e s m args below meth c lv (pc + 3) cells slots st ws) : KJ D l R mi A Qf p e s m args below meth c lv pc cells slots (.int y :: .int x :: st) ws :=
  fun H locs lsA hP hD hS hl => lv_icmp_ge X.1 X.2.1 hd ht (fun h => kt h H locs lsA hP hD hS hl) (fun h => kf h H locs lsA hP hD hS hl)
end PAST
theorem rfs_w {w : Nat} (hw : isW w) : rfs w = [w + 1, w + 2, w + 3, w + 4, w + 5] := by unfold rfs; rw [isW_sh hw]; rfl
theorem rfs_wk {w k : Nat} (hw : isW w) (h1 : 0 < k) (h2 : k < 6) : rfs (w + k) = [] := by
  unfold rfs
  rw [isW_shk hw h2]
  have : k = 1 ∨ k = 2 ∨ k = 3 ∨ k = 4 ∨ k = 5 := by omega
  rcases this with rfl | rfl | rfl | rfl | rfl <;> rfl
/-- worlds in a row know only of themselves -/
theorem cl_w {a b : Nat} (h : a + b ≤ 20) : ∀ k ∈ List.range' (24 + 6 * a) (6 * b), ∀ q ∈ rfs k, q ∈ List.range' (24 + 6 * a) (6 * b) := by
  intro k hk q hq
  rw [List.mem_range'_1] at hk ⊢
  have hw : isW (24 + 6 * ((k - 24) / 6)) := ⟨(k - 24) / 6, by omega, rfl⟩
  have hm := Nat.mod_lt (k - 24) (show 0 < 6 by decide)
  by_cases h0 : (k - 24) % 6 = 0
  · have hk2 : k = 24 + 6 * ((k - 24) / 6) := by omega
    rw [hk2, rfs_w hw] at hq
    simp only [List.mem_cons, List.not_mem_nil, or_false] at hq
    omega
  · have hk2 : k = 24 + 6 * ((k - 24) / 6) + (k - 24) % 6 := by omega
    rw [hk2, rfs_wk hw (by omega) hm] at hq
    exact absurd hq List.not_mem_nil
theorem cl_X3 : Cond.classLink RX3 9 "BeckTalk$World" ∈ wG := in_wG (by decide +kernel) (by decide +kernel)
theorem cl_X6 : Cond.classLink RX6 26 "BeckTalk$World" ∈ wG := in_wG (by decide +kernel) (by decide +kernel)
def fP (ad : Nat → Nat) (j : Nat) : Nat → Option Nat := fun i => if i < j then some (ad (48 + 6 * i)) else none
theorem r6 (w : Nat) : List.range' w 6 = [w, w + 1, w + 2, w + 3, w + 4, w + 5] := rfl
theorem fam_app {D : va_G} {T : ClassId × ClassId × ClassId} {l : Launch} {ad : Nat → Nat} {a b : List Nat} : fam D T l ad (a ++ b) = fam D T l ad a ++ fam D T l ad b := by unfold fam; rw [List.map_append]
