/-! the start, and the claim -/
theorem rel_start : w_X5_init (fun e => Rel 0 (sx0 e) sm0) := by
  unfold w_X5_init w_X3_init w_X2_init
  refine s_loosen (fun f1 h1 => s_loosen (fun f2 h2 => ?_))
  have z : (0 : Int32) = nI 0 := nI_0.symm
  refine ⟨0, 0, 0, 0, 0, ⟨by omega, by omega, by omega, by omega, by omega⟩, ⟨z, z, z, z, z⟩, ⟨z, z, z, z, z⟩, ⟨rfl, rfl, rfl⟩, ⟨rfl, rfl, rfl, rfl, rfl⟩, ⟨fun p hp => absurd hp (Nat.not_lt_zero p), fun _ _ _ _ => rfl⟩, ?_, Or.inl ⟨rfl, rfl, rfl, rfl, rfl⟩⟩
  refine ⟨fun _ => 0, fun _ => [], fun _ => 0, fun _ => 0, fun _ => 0, fun _ => 0, fun _ => 0, fst0, ⟨fun k hk => absurd hk (Nat.not_lt_zero k), fun k l hk => absurd hk (Nat.not_lt_zero k)⟩, ⟨fun s hs => absurd hs (Nat.not_lt_zero s), fun s t hs => absurd hs (Nat.not_lt_zero s), fun k hk => absurd hk (Nat.not_lt_zero k)⟩, h2, ?_⟩
  exact tight_congr fst0_tight (fun a b w _ _ => ⟨fun q => q.elim, fun q => nomatch q⟩)
theorem law_steps : LawSteps Rel :=
  ⟨st_camera, st_place, st_way, st_picture, st_gap, st_near, st_ahead, st_off, st_quarrel, st_untie, st_idle, st_range, st_between, st_order, st_unsure, st_known, st_put, st_offset, st_time, st_days, st_day, st_bursts, st_longest, st_doubles, st_can, st_found, st_strange, st_count, st_trouble, st_row, fun _ _ _ h => h.succ⟩
theorem i_vc : Claimed_1_1 ∧ Claimed_1_2 := claim_of law_steps rel_start
