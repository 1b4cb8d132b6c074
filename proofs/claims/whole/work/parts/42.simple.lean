/-! the calls that add, and those that only tell -/
theorem RPic.nc {nc np n : Nat} {a b c d e : Nat → Int32} (h : RPic nc np n a b c d e) : RPic (nc + 1) np n a b c d e := by
  refine ⟨fun p hp => ?_, h.2⟩
  obtain ⟨⟨k, hk, ek⟩, r⟩ := h.1 p hp
  exact ⟨⟨k, by omega, ek⟩, r⟩
theorem RPic.np {nc np n : Nat} {a b c d e : Nat → Int32} (h : RPic nc np n a b c d e) : RPic nc (np + 1) n a b c d e := by
  refine ⟨fun p hp => ?_, h.2⟩
  obtain ⟨h1, h2, h3, h4⟩ := h.1 p hp
  refine ⟨h1, h2, h3, ?_⟩
  rcases h4 with h4 | ⟨q, hq, e⟩
  · exact Or.inl h4
  · exact Or.inr ⟨q, by omega, e⟩
theorem TieP.mono {nc n nc' n' : Nat} {k o t : Int32} (h : TieP nc n k o t) (h1 : nc ≤ nc') (h2 : n ≤ n') : TieP nc' n' k o t := by
  rcases h with ⟨e, c, hc, r⟩ | ⟨e, p, q, hp, hq, r⟩
  · exact Or.inl ⟨e, c, by omega, r⟩
  · exact Or.inr ⟨e, p, q, by omega, by omega, r⟩
theorem RTie.nc {nc n nt ne : Nat} {x5 x6 x7 x8 x9 x16 m1 m2 m5 m6 m7 m8 m9 : Nat → Int32} (h : RTie nc n nt ne x5 x6 x7 x8 x9 x16 m1 m2 m5 m6 m7 m8 m9) : RTie (nc + 1) n nt ne x5 x6 x7 x8 x9 x16 m1 m2 m5 m6 m7 m8 m9 := by
  obtain ⟨mn, ess, pi, ca, cb, clo, chi, T, hM, r⟩ := h
  refine ⟨mn, ess, pi, ca, cb, clo, chi, T, ⟨fun k hk => ?_, hM.2⟩, r⟩
  obtain ⟨h1, h2, h3, h4⟩ := hM.1 k hk
  exact ⟨h1, h2, h3, h4.mono (by omega) (Nat.le_refl _)⟩
theorem RPut.nc {nc n : Nat} {f8 f9 f10 g9 g10 : Int32} {x12 x13 x14 m1 m2 m16 m17 : Nat → Int32} (h : RPut nc n f8 f9 f10 g9 g10 x12 x13 x14 m1 m2 m16 m17) : RPut (nc + 1) n f8 f9 f10 g9 g10 x12 x13 x14 m1 m2 m16 m17 := by
  rcases h with h | ⟨nr, npc, o, rw, tm, cm, h1, h2, r⟩
  · exact Or.inl h
  · exact Or.inr ⟨nr, npc, o, rw, tm, cm, h1, by omega, r⟩
theorem st_camera (j : Nat) (σx σm : St) (hj : j < 512) (h : Rel j σx σm) : w_X5_camera σx (fun r u => w_X6_camera σm (fun r2 u2 => r = r2 ∧ Rel (j + 1) u u2)) := by
  obtain ⟨nc, np, n, nt, ne, h⟩ := h
  obtain ⟨⟨b1, b2, b3, b4, b5⟩, hx, hm, h4, h5, h6, h7, h8⟩ := id h
  unfold w_X5_camera w_X6_camera w_X6_done w_X6_refused w_X5_refuse
  rw [hx.1, hm.1]
  refine pk_lt nc 8 (fun q => pk_eq nc 8 (fun e => absurd e (by omega)) (fun _ => ⟨rfl, ?_⟩) |>.symm) (fun q => (pk_eq nc 8 (fun _ => ⟨rfl, ?_⟩) (fun e => absurd (by omega) e)).symm)
  · refine ⟨nc + 1, np, n, nt, ne, ⟨by omega, b2, b3, b4, by omega⟩, ⟨(nI_succ nc).symm, hx.2⟩, ⟨(nI_succ nc).symm, hm.2⟩, ⟨h4.1, rfl, h4.2.2⟩, h5, h6.nc, h7.nc, h8.nc⟩
  · exact ((h.keepM (KM.z σm 0)).trouble 3).rel
theorem st_place (j : Nat) (σx σm : St) (hj : j < 512) (h : Rel j σx σm) : w_X5_place σx (fun r u => w_X6_place σm (fun r2 u2 => r = r2 ∧ Rel (j + 1) u u2)) := by
  obtain ⟨nc, np, n, nt, ne, h⟩ := h
  obtain ⟨⟨b1, b2, b3, b4, b5⟩, hx, hm, h4, h5, h6, h7, h8⟩ := id h
  unfold w_X5_place w_X6_place w_X6_done w_X6_refused w_X5_refuse
  rw [hx.2.1, hm.2.1]
  refine pk_lt np 10 (fun q => pk_eq np 10 (fun e => absurd e (by omega)) (fun _ => ⟨rfl, ?_⟩) |>.symm) (fun q => (pk_eq np 10 (fun _ => ⟨rfl, ?_⟩) (fun e => absurd (by omega) e)).symm)
  · refine ⟨nc, np + 1, n, nt, ne, ⟨b1, by omega, b3, b4, by omega⟩, ⟨hx.1, (nI_succ np).symm, hx.2.2⟩, ⟨hm.1, (nI_succ np).symm, hm.2.2⟩, ⟨h4.1, rfl, h4.2.2⟩, h5, h6.np, h7, h8⟩
  · exact ((h.keepM (KM.z σm 0)).trouble 3).rel
theorem st_gap (j : Nat) (σx σm : St) (y0 : Int32) (hj : j < 512) (h : Rel j σx σm) : w_X5_gap σx y0 (fun r u => w_X6_gap σm y0 (fun r2 u2 => r = r2 ∧ Rel (j + 1) u u2)) := by
  obtain ⟨nc, np, n, nt, ne, h⟩ := h
  unfold w_X5_gap w_X6_gap w_X6_granted w_X6_denied
  rcases wi_cases y0 1 10000 with q | q
  · refine within_n q ⟨fun e => absurd rfl e, fun _ => in_n q ⟨fun e => absurd rfl e, fun _ => ⟨rfl, rfl, ?_⟩⟩⟩
    exact ((h.keepM (KM.z σm 0)).trouble 2).rel
  · refine within_y q ⟨fun _ => in_y q ⟨fun _ => ⟨rfl, rfl, ?_⟩, fun e => absurd e (by decide)⟩, fun e => absurd e (by decide)⟩
    obtain ⟨h1, h2, h3, h4, h5, h6, h7, h8⟩ := h
    exact RelN.rel (nc := nc) (np := np) (n := n) (nt := nt) (ne := ne) ⟨h1, h2, h3, ⟨rfl, rfl, h4.2.2⟩, h5, h6, h7, h8⟩
theorem st_quarrel (j : Nat) (σx σm : St) (hj : j < 512) (h : Rel j σx σm) : w_X5_quarrel σx (fun r u => w_X6_quarrel σm (fun r2 u2 => r = r2 ∧ Rel (j + 1) u u2)) := by
  have h4 := h.z 0
  obtain ⟨nc, np, n, nt, ne, h⟩ := h
  unfold w_X5_quarrel w_X6_quarrel
  exact ⟨h.2.2.2.1.2.2.symm, h4⟩
theorem st_trouble (j : Nat) (σx σm : St) (hj : j < 512) (h : Rel j σx σm) : w_X5_trouble σx (fun r u => w_X6_trouble σm (fun r2 u2 => r = r2 ∧ Rel (j + 1) u u2)) := by
  have h4 := h.z 0
  obtain ⟨nc, np, n, nt, ne, h⟩ := h
  unfold w_X5_trouble w_X6_trouble
  exact ⟨h.2.2.2.1.2.1.symm, h4⟩
theorem st_count (j : Nat) (σx σm : St) (y0 : Int32) (hj : j < 512) (h : Rel j σx σm) : w_X5_count σx y0 (fun r u => w_X6_count σm y0 (fun r2 u2 => r = r2 ∧ Rel (j + 1) u u2)) := by
  have h4 := h.z 0
  obtain ⟨nc, np, n, nt, ne, h⟩ := h
  obtain ⟨-, ⟨a1, a2, a3, a4, a5⟩, ⟨c1, c2, c3, c4, c5⟩, -⟩ := h
  unfold w_X5_count w_X6_count
  rw [a1, a2, a3, a4, a5, c1, c2, c3, c4, c5]
  rcases sw_5 y0 with q | q | q | q | q | q
  · have z : ∀ k : Int32, 0 ≤ k.toInt → k.toInt ≤ 4 → ¬ y0 = k := fun k k1 k2 e => by rw [e] at q; omega
    have z0 := z 0 (by decide) (by decide); have z1 := z 1 (by decide) (by decide); have z2 := z 2 (by decide) (by decide); have z3 := z 3 (by decide) (by decide); have z4 := z 4 (by decide) (by decide)
    exact ⟨fun _ => ⟨fun _ => ⟨rfl, h4⟩, fun e => absurd e z0, fun e => absurd e z1, fun e => absurd e z2, fun e => absurd e z3, fun e => absurd e z4⟩, fun e => absurd e z0, fun e => absurd e z1, fun e => absurd e z2, fun e => absurd e z3, fun e => absurd e z4⟩
  all_goals
    subst q
    refine ⟨fun e => absurd e (by decide), fun e => ?_, fun e => ?_, fun e => ?_, fun e => ?_, fun e => ?_⟩ <;> first | exact absurd e (by decide) | refine ⟨fun e => absurd e (by decide), fun e => ?_, fun e => ?_, fun e => ?_, fun e => ?_, fun e => ?_⟩ <;> first | exact absurd e (by decide) | exact ⟨rfl, h4⟩
theorem st_offset (j : Nat) (σx σm : St) (y0 : Int32) (hj : j < 512) (h : Rel j σx σm) : w_X5_offset σx y0 (fun r u => w_X6_offset σm y0 (fun r2 u2 => r = r2 ∧ Rel (j + 1) u u2)) := by
  have h4 := h.z 0
  obtain ⟨nc, np, n, nt, ne, ⟨b1, b2, b3, b4, b5⟩, hx, hm, -, h5, h6, h7, h8⟩ := h
  unfold w_X5_offset w_X6_offset
  have go : ∀ npc : Nat, npc < 2 ^ 31 → σx.1 10 = nI npc → σm.1 10 = nI npc → (∀ c, c < npc → c < 8 ∧ σx.2 12 c = σm.2 16 c) → w_X4_hasCamera σx y0 (fun r_1 u_2 => ((r_1 = 0 → (fun r u => w_X6_offset σm y0 (fun r2 u2 => r = r2 ∧ Rel (j + 1) u u2)) (-1000000) u_2) ∧ (¬ r_1 = 0 → (vp_in y0 8 ∧ (fun r u => w_X6_offset σm y0 (fun r2 u2 => r = r2 ∧ Rel (j + 1) u u2)) (u_2.2 12 (Int32.toNatClampNeg y0)) u_2)))) := by
    intro npc hb e1 e2 ho
    unfold w_X6_offset
    rw [e2]
    rcases ix_cases y0 hb with q | ⟨p, hp, rfl⟩
    · exact hasP_n e1 q ⟨fun _ => ⟨fun _ => ⟨rfl, h4⟩, fun r => ⟨fun _ => ⟨rfl, h4⟩, fun r2 => (q.elim r r2).elim⟩⟩, fun e => absurd rfl e⟩
    · have hh := ho p hp
      refine hasP_y e1 hp hb ⟨fun e => absurd e (by decide), fun _ => ⟨vp_in_nI hh.1 (by omega), fun q => absurd q (nI_pos (by omega)), fun _ => ⟨fun q => absurd q (nI_ge hp hb), fun _ => ⟨vp_in_nI hh.1 (by omega), ?_, h4⟩⟩⟩⟩
      rw [nI_clamp (by omega)]
      exact hh.2
  rcases h8 with ⟨-, -, e1, -, e2⟩ | ⟨nr, npc, o, rw, tm, cm, r1, r2, -, -, e1, -, e2, hP⟩
  · exact go 0 (by omega) e1 e2 (fun c hc => absurd hc (Nat.not_lt_zero c))
  · exact go npc (by omega) e1 e2 (fun c hc => ⟨by omega, by rw [(hP.1 c hc).1, (hP.1 c hc).2.1]⟩)
theorem s_timeOf {σ : St} {nr npc : Nat} {o : Nat → Int} {rw : Nat → Nat} {tm : Nat → Int} {cm : Nat → Nat} {x12 x13 x14 : Nat → Int32} (hP : PutD nr npc o rw tm cm x12 x13 x14 (σ.2 1) (σ.2 2) (σ.2 16) (σ.2 17)) (h1 : nr ≤ 120) (h2 : npc ≤ 8) {p : Nat} (hp : p < nr) {post : Int32 → St → Prop} (hq : post (iI (tm p)) σ) : w_X6_timeOf σ (nI p) post := by
  obtain ⟨c1, c2, c3, x, x0, x1, c4, c5⟩ := hP.2.1 p hp
  unfold w_X6_timeOf
  rw [nI_clamp (show p < 2 ^ 31 by omega), c2, nI_clamp (show cm p < 2 ^ 31 by omega), c4, (hP.1 (cm p) c1).2.1, iI_add, ← c5]
  exact ⟨vp_in_nI (by omega) (by omega), vp_in_nI (by omega) (by omega), vp_in_nI (by omega) (by omega), hq⟩
theorem st_time (j : Nat) (σx σm : St) (y0 : Int32) (hj : j < 512) (h : Rel j σx σm) : w_X5_time σx y0 (fun r u => w_X6_time σm y0 (fun r2 u2 => r = r2 ∧ Rel (j + 1) u u2)) := by
  have h4 := h.z 0
  obtain ⟨nc, np, n, nt, ne, ⟨b1, b2, b3, b4, b5⟩, hx, hm, -, h5, h6, h7, h8⟩ := h
  rcases h8 with ⟨-, e1, -, e2, -⟩ | ⟨nr, npc, o, rw, tm, cm, r1, r2, -, e1, -, e2, -, hP⟩
  · unfold w_X5_time w_X6_time
    have q : y0 < 0 ∨ nI 0 ≤ y0 := by
      rcases ix_cases y0 (show 0 < 2 ^ 31 by omega) with q | ⟨p, hp, -⟩
      · exact q
      · exact absurd hp (Nat.not_lt_zero p)
    rw [e2]
    refine has4_n (n := 0) e1 q ⟨fun _ => ⟨fun _ => ⟨rfl, h4⟩, fun r => ⟨fun _ => ⟨rfl, h4⟩, fun r2 => absurd ?_ r2⟩⟩, fun e => absurd rfl e⟩
    rw [Int32.le_iff_toInt_le]
    have r3 : ¬ y0.toInt < 0 := fun z => r (by rw [Int32.lt_iff_toInt_lt]; exact z)
    show -1 ≤ y0.toInt
    omega
  · unfold w_X5_time w_X6_time
    rw [e2]
    rcases ix_cases y0 (show nr < 2 ^ 31 by omega) with q | ⟨p, hp, rfl⟩
    · exact has4_n e1 q ⟨fun _ => ⟨fun _ => ⟨rfl, h4⟩, fun r => ⟨fun _ => ⟨rfl, h4⟩, fun r2 => (q.elim r r2).elim⟩⟩, fun e => absurd rfl e⟩
    · refine has4_y e1 hp (by omega) ⟨fun e => absurd e (by decide), fun _ => ⟨vp_in_nI (by omega) (by omega), fun q => absurd q (nI_pos (by omega)), fun _ => ⟨fun q => absurd q (nI_ge hp (by omega)), fun _ => ?_⟩⟩⟩
      refine s_timeOf (σ := (va_up σm.1 0 0, σm.2)) hP (by omega) (by omega) hp ⟨?_, h4⟩
      rw [nI_clamp (by omega)]
      exact (hP.2.1 p hp).2.2.1
theorem st_row (j : Nat) (σx σm : St) (g : Nat → Int64) (y0 : Int32) (hj : j < 512) (h : Rel j σx σm) : w_L_row (σx, g) y0 (fun k u => w_X6_row σm y0 (fun b v => w_X6_thrown v (fun t v2 => t = k ∧ (k = 0 → lg_cmp (u.2 (Int32.toNatClampNeg 0)) b.toInt64 = 0) ∧ Rel (j + 1) u.1 v2))) := by
  have h0 := h.z 0
  have h1 := h.z 1
  obtain ⟨nc, np, n, nt, ne, ⟨b1, b2, b3, b4, b5⟩, hx, hm, -, h5, h6, h7, h8⟩ := h
  have no : (y0 < 0 ∨ ¬ y0 < σm.1 9) → w_X6_row σm y0 (fun b v => w_X6_thrown v (fun t v2 => t = 1 ∧ ((1 : Int32) = 0 → lg_cmp (g (Int32.toNatClampNeg 0)) b.toInt64 = 0) ∧ Rel (j + 1) σx v2)) := by
    intro q
    unfold w_X6_row w_X6_row_J13 w_X6_row_J18 w_X6_thrown
    have z : (1 : Int32) ≤ 0 → False := by decide
    exact ⟨fun _ => ⟨fun e => absurd e (by decide), fun _ => ⟨rfl, fun e => absurd e (by decide), h1⟩⟩, fun r => ⟨fun r2 => (q.elim r (fun q2 => q2 r2)).elim, fun _ => ⟨fun e => absurd e (by decide), fun _ => ⟨rfl, fun e => absurd e (by decide), h1⟩⟩⟩⟩
  unfold w_L_row w_X5_row
  rcases h8 with ⟨-, e1, -, e2, -⟩ | ⟨nr, npc, o, rw, tm, cm, r1, r2, -, e1, -, e2, -, hP⟩
  · have q : y0 < 0 ∨ nI 0 ≤ y0 := by
      rcases ix_cases y0 (show 0 < 2 ^ 31 by omega) with q | ⟨p, hp, -⟩
      · exact q
      · exact absurd hp (Nat.not_lt_zero p)
    refine has4_n (n := 0) e1 q ⟨fun e => absurd rfl e, fun _ => no ?_⟩
    rcases q with q | q
    · exact Or.inl q
    · refine Or.inr (fun z => ?_)
      rw [e2, Int32.lt_iff_toInt_lt] at z
      rw [Int32.le_iff_toInt_le] at q
      have q2 : (0 : Int) ≤ y0.toInt := q
      have z2 : y0.toInt < -1 := z
      omega
  · rcases ix_cases y0 (show nr < 2 ^ 31 by omega) with q | ⟨p, hp, rfl⟩
    · refine has4_n e1 q ⟨fun e => absurd rfl e, fun _ => no ?_⟩
      rcases q with q | q
      · exact Or.inl q
      · refine Or.inr (fun z => ?_)
        rw [e2, Int32.lt_iff_toInt_lt] at z
        rw [Int32.le_iff_toInt_le] at q
        omega
    · refine has4_y e1 hp (by omega) ⟨fun _ => ⟨vp_in_nI (by omega) (by omega), ?_⟩, fun e => absurd e (by decide)⟩
      unfold w_X6_row w_X6_row_J13 w_X6_row_J18 w_X6_thrown
      rw [e2]
      refine ⟨fun q => absurd q (nI_pos (by omega)), fun _ => ⟨fun _ => ⟨fun _ => ⟨vp_in_nI (by omega) (by omega), rfl, fun _ => ?_, h0⟩, fun e => absurd (by decide) e⟩, fun q => absurd (nI_lt hp (by omega)) q⟩⟩
      rw [nI_clamp (by omega), (hP.2.2.1 p hp).2.1, (hP.2.2.1 p hp).2.2, lg_cmp_eq]
      show vp_updL g (Int32.toNatClampNeg 0) (nI (rw p)).toInt64 (Int32.toNatClampNeg 0) = (nI (rw p)).toInt64
      exact pk_uLs
