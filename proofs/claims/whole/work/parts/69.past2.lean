section PAST2
variable {D : va_G} {T : ClassId × ClassId × ClassId} {l : Launch} {R : Room} {mi : MI} {A : Nat → Prop} {Qf : State → Prop} {p : Program} {e : Env} {s : State} {m : MethodId} {args : Array Value} {below : List Frame} {meth : Method} {c : Code} {lv : List (Nat × Value)} {pc cells slots : Nat} {st : List Value} {ws : va_W}
theorem k_cs {c2 s2 : Nat} (hc : cells = c2) (hs : slots = s2) (kk : KJ D l R mi A Qf p e s m args below meth c lv pc c2 s2 st ws) : KJ D l R mi A Qf p e s m args below meth c lv pc cells slots st ws := by rw [hc, hs]; exact kk
/-- a world more: the new family goes to the others -/
theorem wPut {ad ad1 : Nat → Nat} {j q : Nat} (hj : j < 16) (h1 : ad1 (48 + 6 * j) = q) : ∃ ad2 : Nat → Nat, fam D T l ad (List.range' 48 (6 * j)) ++ fam D T l ad1 (List.range' (48 + 6 * j) 6) = fam D T l ad2 (List.range' 48 (6 * (j + 1))) ∧ va_up (fP ad j) j (some q) = fP ad2 (j + 1) := by
  have c1 := cl_w (a := 4) (b := j) (by omega)
  have c2 := cl_w (a := 4 + j) (b := 1) (by omega)
  rw [show 24 + 6 * 4 = 48 from rfl] at c1
  rw [show 24 + 6 * (4 + j) = 48 + 6 * j by omega, show 6 * 1 = 6 from rfl] at c2
  obtain ⟨ad2, e1, e2, e3⟩ := fam_mix (D := D) (T := T) (l := l) (ad := ad) (ad1 := ad1) c1 c2 (fun k hk hk2 => by rw [List.mem_range'_1] at hk hk2; omega)
  refine ⟨ad2, ?_, ?_⟩
  · rw [e3, List.range'_append_1, show 6 * j + 6 = 6 * (j + 1) by omega]
  · funext i
    unfold fP va_up
    by_cases hi : i = j
    · rw [if_pos hi, if_pos (by omega), hi, e2 _ (by rw [List.mem_range'_1]; omega), h1]
    · rw [if_neg hi]
      show (if i < j then some (ad (48 + 6 * i)) else none) = if i < j + 1 then some (ad2 (48 + 6 * i)) else none
      by_cases hi2 : i < j
      · rw [if_pos hi2, if_pos (by omega), e1 _ (by rw [List.mem_range'_1]; omega)]
      · rw [if_neg hi2, if_neg (by omega)]
theorem pastL {h qa : Nat} (X : AtK D T l mi_X3_init p s m args meth c A) (fin : ∀ ad, KJ D l (rmI 2 97 2704) mi_X3_init A Qf p e s m args below meth c [(0, .ref h), (1, .int (nI 16))] 43 97 2704 [] ((h, .inr (3, [.ref qa, .int 0, .int 0])) :: (qa, aQ T 16 (fP ad 16)) :: fam D T l ad (List.range' 48 96))) : ∀ (r j : Nat) (ad : Nat → Nat), j + r = 16 → KJ D l (rmI 2 97 2704) mi_X3_init A Qf p e s m args below meth c [(0, .ref h), (1, .int (nI j))] 15 (1 + 6 * j) (16 + 168 * j) [] ((h, .inr (3, [.ref qa, .int 0, .int 0])) :: (qa, aQ T 16 (fP ad j)) :: fam D T l ad (List.range' 48 (6 * j))) := by
  intro r
  induction r with
  | zero =>
    intro j ad hj
    have : j = 16 := by omega
    subst this
    refine k_i1 X dX3_init_15 ?_
    refine k_a0 X dX3_init_16 ?_
    refine k_getR X dX3_init_17 fa_X3_11 rfl ?_
    refine k_alen X dX3_init_20 ?_
    refine k_ge (tgt := 43) X dX3_init_21 (by decide) (fun _ => ?_) (fun h => absurd (nI_le (Nat.le_refl 16) (by decide)) h)
    exact fin ad
  | succ r ih =>
    intro j ad hj
    have hw : isW (48 + 6 * j) := ⟨4 + j, by omega, by omega⟩
    refine k_i1 X dX3_init_15 ?_
    refine k_a0 X dX3_init_16 ?_
    refine k_getR X dX3_init_17 fa_X3_11 rfl ?_
    refine k_alen X dX3_init_20 ?_
    refine k_ge (tgt := 43) X dX3_init_21 (by decide) (fun h => absurd h (nI_ge (by omega) (by decide))) (fun _ => ?_)
    refine k_a0 X dX3_init_24 ?_
    refine k_getR X dX3_init_25 fa_X3_11 rfl ?_
    refine k_i1 X dX3_init_28 ?_
    refine k_new X dX3_init_29 nw_X3_9 (by show 1 + 6 * j + 1 ≤ 97; omega) (by show 16 + 168 * j + 13 ≤ 2704; omega) (fun q => ?_)
    refine k_dup rfl X dX3_init_32 ?_
    refine k_initN X dX3_init_33 in_X3_17 (ci_X5 hw) (Nat.le_of_ble_eq_true rfl) (Nat.le_of_ble_eq_true rfl) (by show 1 + 6 * j + 1 + 5 ≤ 97; omega) (by show 16 + 168 * j + 13 + 155 ≤ 2704; omega) (Nat.le_of_ble_eq_true rfl) (fun ad1 had1 => ?_)
    have ef := fam_w (D := D) (T := T) (l := l) (ad := ad1) hw
    rw [had1] at ef
    refine k_perm (ws' := (h, .inr (3, [.ref qa, .int 0, .int 0])) :: (qa, aQ T 16 (fP ad j)) :: (fam D T l ad1 [48 + 6 * j, 48 + 6 * j + 1, 48 + 6 * j + 2, 48 + 6 * j + 3, 48 + 6 * j + 4, 48 + 6 * j + 5] ++ fam D T l ad (List.range' 48 (6 * j)))) ?_ ?_
    · exact List.perm_middle.trans (List.Perm.cons _ List.perm_middle)
    obtain ⟨ad2, e1, e2⟩ := wPut (D := D) (T := T) (l := l) (ad := ad) (ad1 := ad1) (show j < 16 by omega) had1
    have back : ∀ x : va_W, KJ D l (rmI 2 97 2704) mi_X3_init A Qf p e s m args below meth c [(0, .ref h), (1, .int (nI j))] 37 (1 + 6 * j + 1 + 5) (16 + 168 * j + 13 + 155) [] ((h, .inr (3, [.ref qa, .int 0, .int 0])) :: (qa, aQ T 16 (va_up (fP ad j) j (some q))) :: (fam D T l ad1 [48 + 6 * j, 48 + 6 * j + 1, 48 + 6 * j + 2, 48 + 6 * j + 3, 48 + 6 * j + 4, 48 + 6 * j + 5] ++ fam D T l ad (List.range' 48 (6 * j)))) := by
      intro _
      refine k_perm (ws' := (h, .inr (3, [.ref qa, .int 0, .int 0])) :: (qa, aQ T 16 (fP ad2 (j + 1))) :: fam D T l ad2 (List.range' 48 (6 * (j + 1)))) ?_ ?_
      · rw [e2, ← e1]
        exact List.Perm.cons _ (List.Perm.cons _ List.perm_append_comm)
      · refine k_inc X (by decide) dX3_init_37 ?_
        refine k_goto (tgt := 15) X dX3_init_40 (by decide) ?_
        exact k_cs (by omega) (by omega) (ih (j + 1) ad2 (by omega))
    have back := back []
    rw [ef] at back ⊢
    exact k_aast X dX3_init_36 (by omega) (by decide) back
theorem ci_X3 : CtI D T l 2 97 2704 mi_X3_init (.inr (3, [.null, .int 0, .int 0])) 13 (13 :: 14 :: List.range' 48 96) := by
  intro h sz
  refine met_of (k := 1) (by decide +kernel) rfl rfl rfl (fun p e s m below meth c hsz X => ?_)
  refine k_a0 X dX3_init_0 ?_
  refine k_obj X dX3_init_1 oi_X3 (by decide) (by decide) ?_
  refine k_a0 X dX3_init_4 ?_
  refine k_bipush (v := nI 16) X dX3_init_5 (by decide) ?_
  refine k_newQ (n := 16) X dX3_init_7 cl_X3 (by decide) (by decide) (by decide) (fun qa => ?_)
  refine k_putF X dX3_init_10 ff_X3_11 (Nat.le_of_ble_eq_true rfl) ?_
  refine k_iconst (v := nI 0) X dX3_init_13 rfl ?_
  refine k_s1 X (by decide) dX3_init_14 ?_
  refine pastL (qa := qa) X (fun ad => ?_) 16 0 (fun _ => 0) rfl
  generalize hA2 : (fun k => if k = 13 then h else if k = 14 then qa else ad k) = ad'
  have g13 : ad' 13 = h := by rw [← hA2]; rfl
  have g14 : ad' 14 = qa := by rw [← hA2]; rfl
  have gk : ∀ k, k ≠ 13 → k ≠ 14 → ad' k = ad k := fun k h1 h2 => by rw [← hA2]; simp only; rw [if_neg h1, if_neg h2]
  have c1 := cl_w (a := 4) (b := 16) (by omega)
  rw [show 24 + 6 * 4 = 48 from rfl, show 6 * 16 = 96 from rfl] at c1
  have hfn : (fun i : Nat => ([48, 54, 60, 66, 72, 78, 84, 90, 96, 102, 108, 114, 120, 126, 132, 138][i]?).map ad') = fP ad 16 := by
    funext i
    unfold fP
    by_cases hi : i < 16
    · rw [if_pos hi]
      have hc : i = 0 ∨ i = 1 ∨ i = 2 ∨ i = 3 ∨ i = 4 ∨ i = 5 ∨ i = 6 ∨ i = 7 ∨ i = 8 ∨ i = 9 ∨ i = 10 ∨ i = 11 ∨ i = 12 ∨ i = 13 ∨ i = 14 ∨ i = 15 := by omega
      rcases hc with rfl | rfl | rfl | rfl | rfl | rfl | rfl | rfl | rfl | rfl | rfl | rfl | rfl | rfl | rfl | rfl
      all_goals (show some (ad' _) = _; rw [gk _ (by decide) (by decide)])
    · rw [if_neg hi, List.getElem?_eq_none (by show 16 ≤ i; omega)]; rfl
  have ef : fam D T l ad' (13 :: 14 :: List.range' 48 96) = (h, .inr (3, [.ref qa, .int 0, .int 0])) :: (qa, aQ T 16 (fP ad 16)) :: fam D T l ad (List.range' 48 96) := by
    rw [show (13 :: 14 :: List.range' 48 96) = [13, 14] ++ List.range' 48 96 from rfl, fam_app, fam_ad (ad' := ad) c1 (fun k hk => by rw [List.mem_range'_1] at hk; exact gk k (by omega) (by omega))]
    show (ad' 13, Sum.inr (3, [Value.ref (ad' 14), .int 0, .int 0])) :: (ad' 14, eC (gA ad' D T l) MU0 14) :: fam D T l ad (List.range' 48 96) = _
    rw [g13, g14]
    show _ :: (qa, aQ T 16 (fun i : Nat => ([48, 54, 60, 66, 72, 78, 84, 90, 96, 102, 108, 114, 120, 126, 132, 138][i]?).map ad')) :: _ = _
    rw [hfn]
  exact k_ret X dX3_init_43 rfl (fun t hP hD hK hF => ⟨⟨ad', rfl, g13, by rw [ef]; exact hP, by rw [ef]; exact hD, hK⟩, hF⟩)
end PAST2
