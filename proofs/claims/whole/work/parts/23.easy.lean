/-! calls that are plain -/
theorem ok_fault {c m : MM} (h : Rel c m) : Ok c m (some (f_X6_fault c, c)) (some (f_X7_fault m, m)) := by
  obtain ⟨n, L, A, P, I0, I1, hr⟩ := id h
  refine ⟨_, _, _, rfl, ?_, h⟩
  unfold f_X6_fault f_X7_fault
  rw [hr.2.1]
theorem ok_seed {c m : MM} (h : Rel c m) (x : Int32) : Ok c m (some (f_X6_seed x c)) (some (f_X7_seed x m)) := by
  obtain ⟨n, L, A, P, I0, I1, h1, h2, ⟨hI, hC, hR⟩, ⟨h4, h4b⟩, h5, h6, h7, h8, h9⟩ := id h
  unfold f_X6_seed f_X7_seed bd
  by_cases hx : 0 ≤ x
  · rw [if_pos hx, if_pos hx, h7.1]
    refine ⟨_, _, _, rfl, rfl, n, L, A, P, I0, I1, ?_⟩
    exact ⟨h1.eq rfl rfl rfl rfl, h2, ⟨hI, hC.eq rfl rfl rfl rfl rfl, hR.eq rfl rfl rfl rfl rfl⟩, ⟨h4.eq hI.F (fun k hk => up2_ro (by omega)) (fun k hk => rfl), h4b⟩, h5.eq hI.F rfl rfl (fun r h1 h2 => up2_ro (by omega)) rfl rfl, h6.eq hI.F rfl (fun r h1 h2 => up2_ro (by omega)) rfl rfl rfl, ⟨by rw [up2_eq, up2_eq], by rw [up2_eq]; exact hx⟩, h8.eq rfl rfl rfl rfl rfl rfl, h9.eq rfl rfl rfl rfl rfl rfl⟩
  · rw [if_neg hx, if_neg hx]
    exact ⟨_, _, _, rfl, rfl, h⟩
theorem ok_tear {c m : MM} (h : Rel c m) : Ok c m (some (f_X6_tear c)) (some (f_X7_tear m)) := by
  obtain ⟨n, L, A, P, I0, I1, h1, h2, ⟨hI, hC, hR⟩, ⟨h4, h4b⟩, h5, h6, h7, ⟨k, hk, e1, e2, e3⟩, ⟨j, hj, d1, d2, d3⟩⟩ := id h
  unfold f_X6_tear f_X7_tear bd
  rw [e1, e2, d1, d2]
  refine ⟨_, _, _, rfl, rfl, n, L, A, P, I0, I1, ?_⟩
  exact ⟨h1.eq rfl rfl rfl rfl, h2, ⟨hI, hC.eq rfl rfl rfl rfl rfl, hR.eq rfl rfl rfl rfl rfl⟩, ⟨h4.eq hI.F (fun k hk => by rw [up2_ro (by omega), up2_ro (by omega)]) (fun k hk => rfl), h4b⟩, h5.eq hI.F rfl rfl (fun r h1 h2 => by rw [up2_ro (by omega), up2_ro (by omega)]) rfl rfl, h6.eq hI.F rfl (fun r h1 h2 => by rw [up2_ro (by omega), up2_ro (by omega)]) rfl rfl rfl, h7.eq rfl rfl, ⟨0, by omega, rfl, rfl, fun i hi => by omega⟩, ⟨0, by omega, rfl, rfl, fun i hi => by omega⟩⟩
