theorem ix10 (a b : Nat) : (10 : Int32) * nI a + nI b = nI (10 * a + b) := by
  rw [show (10 : Int32) = nI 10 from rfl, pk_mul, nI_add]
theorem ix10' (a b : Nat) : nI a * (10 : Int32) + nI b = nI (10 * a + b) := by
  rw [show (10 : Int32) = nI 10 from rfl, pk_mul, nI_add, Nat.mul_comm]
theorem RPic.way {nc np n : Nat} {a b c d e : Nat → Int32} (h : RPic nc np n a b c d e) {p q : Nat} (hp : p < 10) (hq : q < 10) (v : Int32) : RPic nc np n a b c d (upd (upd e (10 * p + q) v) (10 * q + p) v) := by
  refine ⟨h.1, fun x y hx hy => ?_⟩
  have g := h.2 x y hx hy
  by_cases e1 : x = p ∧ y = q
  · rw [e1.1, e1.2, pk_us]
    by_cases e3 : p = q
    · rw [e3, pk_us]
    · rw [pk_un (by omega), pk_us]
  · by_cases e2 : x = q ∧ y = p
    · rw [e2.1, e2.2, pk_us]
      by_cases e3 : p = q
      · rw [e3, pk_us]
      · rw [pk_un (by omega), pk_us]
    · rw [pk_un (by omega), pk_un (by omega), pk_un (by omega), pk_un (by omega)]
      exact g
theorem st_way (j : Nat) (σx σm : St) (y0 y1 y2 : Int32) (hj : j < 512) (h : Rel j σx σm) : w_X5_way σx y0 y1 y2 (fun r u => w_X6_way σm y0 y1 y2 (fun r2 u2 => r = r2 ∧ Rel (j + 1) u u2)) := by
  obtain ⟨nc, np, n, nt, ne, h⟩ := h
  obtain ⟨⟨b1, b2, b3, b4, b5⟩, hx, hm, h4, h5, h6, h7, h8⟩ := id h
  have bad : ∀ v : Int32, ¬ v = 0 → Rel (j + 1) (va_up σx.1 2 v, σx.2) (va_up (va_up σm.1 0 0) 1 v, σm.2) := fun v _ => ((h.keepM (KM.z σm 0)).trouble v).rel
  have hn : np < 2 ^ 31 := by omega
  unfold w_X5_way w_X6_way w_X5_way_J27 w_X5_way_J69 w_X6_denied w_X6_granted
  rcases ix_cases y0 hn with q | ⟨p, hp, rfl⟩
  · exact has1_n hx.2.1 q ⟨fun _ => ⟨fun _ => isPl_n (σ := (va_up σm.1 0 0, σm.2)) hm.2.1 q ⟨fun _ => ⟨rfl, rfl, bad 1 (by decide)⟩, fun e => absurd rfl e⟩, fun e => absurd (show (1 : Int32) = 0 from e) (by decide)⟩, fun e => absurd rfl e⟩
  rcases ix_cases y1 hn with q | ⟨q, hq, rfl⟩
  · exact has1_y hx.2.1 hp hn ⟨fun e => absurd e (by decide), fun _ => has1_n hx.2.1 q ⟨fun _ => ⟨fun _ => isPl_y (σ := (va_up σm.1 0 0, σm.2)) hm.2.1 hp hn ⟨fun e => absurd e (by decide), fun _ => isPl_n (σ := (va_up σm.1 0 0, σm.2)) hm.2.1 q ⟨fun _ => ⟨rfl, rfl, bad 1 (by decide)⟩, fun e => absurd rfl e⟩⟩, fun e => absurd (show (1 : Int32) = 0 from e) (by decide)⟩, fun e => absurd rfl e⟩⟩
  refine has1_y hx.2.1 hp hn ⟨fun e => absurd e (by decide), fun _ => has1_y hx.2.1 hq hn ⟨fun e => absurd e (by decide), fun _ => ⟨fun hne => ?_, fun eq => ⟨fun _ => ?_, fun e => absurd (show (1 : Int32) = 0 from e) (by decide)⟩⟩⟩⟩
  · rcases wi_cases y2 0 10000 with r | r
    · refine within_n r ⟨fun e => absurd rfl e, fun _ => ⟨fun _ => ?_, fun e => absurd (show (2 : Int32) = 0 from e) (by decide)⟩⟩
      refine isPl_y (σ := (va_up σm.1 0 0, σm.2)) hm.2.1 hp hn ⟨fun e => absurd e (by decide), fun _ => isPl_y (σ := (va_up σm.1 0 0, σm.2)) hm.2.1 hq hn ⟨fun e => absurd e (by decide), fun _ => ⟨fun _ => in_n r ⟨fun e => absurd rfl e, fun _ => ⟨rfl, rfl, bad 2 (by decide)⟩⟩, fun e => absurd e hne⟩⟩⟩
    · refine within_y r ⟨fun _ => ?_, fun e => absurd e (by decide)⟩
      unfold w_X1_tell
      rw [ix10', ix10', nI_clamp (show 10 * p + q < 2 ^ 31 by omega), nI_clamp (show 10 * q + p < 2 ^ 31 by omega)]
      refine ⟨vp_in_nI (by omega) (by omega), vp_in_nI (by omega) (by omega), fun e => absurd rfl e, fun _ => ?_⟩
      refine isPl_y (σ := (va_up σm.1 0 0, σm.2)) hm.2.1 hp hn ⟨fun e => absurd e (by decide), fun _ => isPl_y (σ := (va_up σm.1 0 0, σm.2)) hm.2.1 hq hn ⟨fun e => absurd e (by decide), fun _ => ⟨fun _ => in_y r ⟨fun _ => ?_, fun e => absurd e (by decide)⟩, fun e => absurd e hne⟩⟩⟩
      rw [ix10, ix10, nI_clamp (show 10 * p + q < 2 ^ 31 by omega), nI_clamp (show 10 * q + p < 2 ^ 31 by omega)]
      refine ⟨vp_in_nI (by omega) (by omega), vp_in_nI (by omega) (by omega), rfl, rfl, ?_⟩
      refine RelN.rel (nc := nc) (np := np) (n := n) (nt := nt) (ne := ne) ⟨⟨b1, b2, b3, b4, b5⟩, hx, hm, ⟨h4.1, rfl, h4.2.2⟩, ⟨h5.1, h5.2.1, h5.2.2.1, h5.2.2.2.1, ?_⟩, h6.way (show p < 10 by omega) (show q < 10 by omega) y2, h7, h8⟩
      show upd (upd (σx.2 4) (10 * p + q) y2) (10 * q + p) y2 = upd (upd (σm.2 0) (10 * p + q) y2) (10 * q + p) y2
      rw [h5.2.2.2.2]
  · refine isPl_y (σ := (va_up σm.1 0 0, σm.2)) hm.2.1 hp hn ⟨fun e => absurd e (by decide), fun _ => isPl_y (σ := (va_up σm.1 0 0, σm.2)) hm.2.1 hq hn ⟨fun e => absurd e (by decide), fun _ => ⟨fun e => absurd eq e, fun _ => ⟨rfl, rfl, bad 1 (by decide)⟩⟩⟩⟩
theorem tieE_pic {nc n : Nat} {k o t z : Int32} {m1 m2 : Nat → Int32} {es : List Ed} (h : TieE k o t z m1 m2 es) (hP : TieP nc n k o t) (hn : n ≤ 120) (a b : Int32) : TieE k o t z (upd m1 n a) (upd m2 n b) es := by
  have key : k ≠ 2 → ∀ p q : Nat, p < 120 → q < 120 → o = nI p → t = nI q → p ≠ n ∧ q ≠ n := by
    intro hk p q hp hq e1 e2
    rcases hP with ⟨e, -⟩ | ⟨-, p', q', hp', hq', e3, e4⟩
    · exact absurd e hk
    · have g1 : p = p' := (nI_eq (by omega) (by omega)).mp (e1.symm.trans e3)
      have g2 : q = q' := (nI_eq (by omega) (by omega)).mp (e2.symm.trans e4)
      omega
  rcases h with ⟨e, p, q, c, d, x, y, m, h1, h2, h3, h4, h5, h6, h7, h8, h9, h10, r⟩ | ⟨e, p, q, c, d, x, y, h1, h2, h3, h4, h5, h6, h7, h8, h9, h10, r⟩ | h
  · obtain ⟨g1, g2⟩ := key (by rw [e]; decide) p q h1 h2 h5 h6
    exact Or.inl ⟨e, p, q, c, d, x, y, m, h1, h2, h3, h4, h5, h6, by rw [pk_un g1]; exact h7, by rw [pk_un g2]; exact h8, by rw [pk_un g1]; exact h9, by rw [pk_un g2]; exact h10, r⟩
  · obtain ⟨g1, g2⟩ := key (by rw [e]; decide) p q h1 h2 h5 h6
    exact Or.inr (Or.inl ⟨e, p, q, c, d, x, y, h1, h2, h3, h4, h5, h6, by rw [pk_un g1]; exact h7, by rw [pk_un g2]; exact h8, by rw [pk_un g1]; exact h9, by rw [pk_un g2]; exact h10, r⟩)
  · exact Or.inr (Or.inr h)
theorem RTie.pic {nc n nt ne : Nat} {x5 x6 x7 x8 x9 x16 m1 m2 m5 m6 m7 m8 m9 : Nat → Int32} (h : RTie nc n nt ne x5 x6 x7 x8 x9 x16 m1 m2 m5 m6 m7 m8 m9) (hn : n ≤ 120) (a b : Int32) : RTie nc (n + 1) nt ne x5 x6 x7 x8 x9 x16 (upd m1 n a) (upd m2 n b) m5 m6 m7 m8 m9 := by
  obtain ⟨mn, ess, pi, ca, cb, clo, chi, T, hM, r⟩ := h
  refine ⟨mn, ess, pi, ca, cb, clo, chi, T, ⟨fun k hk => ?_, hM.2⟩, r⟩
  obtain ⟨h1, h2, h3, h4⟩ := hM.1 k hk
  exact ⟨h1, h2, tieE_pic h3 h4 hn a b, h4.mono (Nat.le_refl _) (by omega)⟩
theorem RPut.pic {nc n : Nat} {f8 f9 f10 g9 g10 : Int32} {x12 x13 x14 m1 m2 m16 m17 : Nat → Int32} (h : RPut nc n f8 f9 f10 g9 g10 x12 x13 x14 m1 m2 m16 m17) (a b : Int32) : RPut nc (n + 1) f8 f9 f10 g9 g10 x12 x13 x14 (upd m1 n a) (upd m2 n b) m16 m17 := by
  rcases h with h | ⟨nr, npc, o, rw, tm, cm, h1, h2, e1, e2, e3, e4, e5, hP⟩
  · exact Or.inl h
  · refine Or.inr ⟨nr, npc, o, rw, tm, cm, by omega, h2, e1, e2, e3, e4, e5, hP.1, fun p hp => ?_, hP.2.2⟩
    rw [pk_un (show p ≠ n by omega), pk_un (show p ≠ n by omega)]
    exact hP.2.1 p hp
theorem mono_within {x a b : Int32} {P Q : Int32 → Unit → Prop} (h : w_X5_within x a b P) (hpq : ∀ r u, P r u → Q r u) : w_X5_within x a b Q := by
  unfold w_X5_within at h ⊢
  exact ⟨fun q => hpq _ _ (h.1 q), fun q => ⟨fun r => hpq _ _ ((h.2 q).1 r), fun r => hpq _ _ ((h.2 q).2 r)⟩⟩
theorem mono_J32 {P Q : Int32 → St → Prop} {a b c d : Int32} {s : St} (h : w_X5_picture_J32 P a b c d s) (hpq : ∀ r u, P r u → Q r u) : w_X5_picture_J32 Q a b c d s := by
  unfold w_X5_picture_J32 w_X5_refuse w_X0_take at h ⊢
  refine mono_within h (fun r u g => ⟨fun q => hpq _ _ (g.1 q), fun q => mono_within (g.2 q) (fun r2 u2 g2 => ⟨fun q2 => ⟨fun q3 => ?_, fun q3 => hpq _ _ ((g2.1 q2).2 q3)⟩, fun q2 => hpq _ _ (g2.2 q2)⟩)⟩)
  obtain ⟨z1, z2, z3, z4, z5⟩ := (g2.1 q2).1 q3
  exact ⟨z1, z2, z3, z4, hpq _ _ z5⟩
theorem s_take0 {σ : St} {n : Nat} {a b c d : Int32} {post : Int32 → St → Prop} (hn : σ.1 4 = nI n) (hb : n < 120) (hp : post (nI n) (va_up σ.1 4 (nI n + 1), va_up (va_up (va_up (va_up σ.2 0 (upd (σ.2 0) n a)) 1 (upd (σ.2 1) n b)) 2 (upd (σ.2 2) n c)) 3 (upd (σ.2 3) n d))) : w_X0_take σ a b c d post := by
  unfold w_X0_take
  have hin : vp_in (nI n) 120 := vp_in_nI hb (by omega)
  rw [hn, nI_clamp (show n < 2 ^ 31 by omega)]
  exact ⟨hin, hin, hin, hin, hp⟩
theorem s_j34 {σ : St} {n : Nat} {a b c d : Int32} {post : Int32 → St → Prop} (r : ¬ b < 0 ∧ ¬ 100000 < b) (t : ¬ c < 0 ∧ ¬ 65535 < c) (hn : σ.1 4 = nI n) (hb : n < 120) (hp : post (nI n) (va_up (va_up σ.1 4 (nI n + 1)) 1 0, va_up (va_up (va_up (va_up σ.2 1 (upd (σ.2 1) n a)) 2 (upd (σ.2 2) n b)) 3 (upd (σ.2 3) n c)) 4 (upd (σ.2 4) n d))) : w_X6_picture_J34 post a b c d σ := by
  unfold w_X6_picture_J34 w_X6_done
  have hin : vp_in (nI n) 120 := vp_in_nI hb (by omega)
  refine in_y r ⟨fun e => absurd e (by decide), fun _ => in_y t ⟨fun _ => ?_, fun e => absurd e (by decide)⟩⟩
  rw [hn, nI_clamp (show n < 2 ^ 31 by omega)]
  have e1 : nI n + 1 - 1 = nI n := by
    rw [nI_1, show (1 : Int32) = nI 1 from rfl, pk_sub (by omega)]
    rfl
  rw [e1]
  exact ⟨fun _ => ⟨hin, hin, hin, hin, hp⟩, fun e => absurd ((nI_eq (b := 120) (by omega) (by omega)).mp e) (by omega)⟩
theorem s_j34n {σ : St} {a b c d : Int32} {post : Int32 → St → Prop} (r : ¬ b < 0 ∧ ¬ 100000 < b) (t : ¬ c < 0 ∧ ¬ 65535 < c) (hn : σ.1 4 = 120) (hp : post (-1) (va_up σ.1 1 3, σ.2)) : w_X6_picture_J34 post a b c d σ := by
  unfold w_X6_picture_J34 w_X6_refused
  refine in_y r ⟨fun e => absurd e (by decide), fun _ => in_y t ⟨fun _ => ⟨fun e => absurd hn e, fun _ => hp⟩, fun e => absurd e (by decide)⟩⟩
theorem st_picture (j : Nat) (σx σm : St) (y0 y1 y2 y3 : Int32) (hj : j < 512) (h : Rel j σx σm) : w_X5_picture σx y0 y1 y2 y3 (fun r u => w_X6_picture σm y0 y1 y2 y3 (fun r2 u2 => r = r2 ∧ Rel (j + 1) u u2)) := by
  obtain ⟨nc, np, n, nt, ne, h⟩ := h
  obtain ⟨⟨b1, b2, b3, b4, b5⟩, hx, hm, h4, h5, h6, h7, h8⟩ := id h
  have bad : ∀ v : Int32, Rel (j + 1) (va_up σx.1 2 v, σx.2) (va_up (va_up σm.1 0 0) 1 v, σm.2) := fun v => ((h.keepM (KM.z σm 0)).trouble v).rel
  have hn : np < 2 ^ 31 := by omega
  have hc : nc < 2 ^ 31 := by omega
  unfold w_X5_picture w_X6_picture w_X5_refuse w_X6_refused
  rcases ix_cases y0 hc with q | ⟨c, hcc, rfl⟩
  · exact hasC_n hx.1 q ⟨fun _ => isCa_n (σ := (va_up σm.1 0 0, σm.2)) hm.1 q ⟨fun _ => ⟨rfl, bad 1⟩, fun e => absurd rfl e⟩, fun e => absurd rfl e⟩
  -- the place is none or one of them
  have rest : (y3 = -1 ∨ ∃ q, q < np ∧ y3 = nI q) → w_X5_picture_J32 (fun r u => w_X6_picture_J34 (fun r2 u2 => r = r2 ∧ Rel (j + 1) u u2) (nI c) y1 y2 y3 (va_up σm.1 0 0, σm.2)) (nI c) y1 y2 y3 σx := by
    intro hpl
    unfold w_X5_picture_J32 w_X5_refuse
    rcases wi_cases y1 0 100000 with r | r
    · refine within_n r ⟨fun _ => ?_, fun e => absurd rfl e⟩
      unfold w_X6_picture_J34 w_X6_refused
      exact in_n r ⟨fun _ => ⟨rfl, bad 2⟩, fun e => absurd rfl e⟩
    rcases wi_cases y2 0 65535 with t | t
    · refine within_y r ⟨fun e => absurd e (by decide), fun _ => within_n t ⟨fun e => absurd rfl e, fun _ => ?_⟩⟩
      unfold w_X6_picture_J34 w_X6_refused
      exact in_y r ⟨fun e => absurd e (by decide), fun _ => in_n t ⟨fun e => absurd rfl e, fun _ => ⟨rfl, bad 2⟩⟩⟩
    refine within_y r ⟨fun e => absurd e (by decide), fun _ => within_y t ⟨fun _ => ?_, fun e => absurd e (by decide)⟩⟩
    rw [hx.2.2.1]
    refine pk_lt n 120 (fun q => ?_) (fun q => s_j34n (σ := (va_up σm.1 0 0, σm.2)) r t ?_ ⟨rfl, bad 3⟩)
    · refine s_take0 (σ := (va_up σx.1 2 0, σx.2)) hx.2.2.1 q (s_j34 (σ := (va_up σm.1 0 0, σm.2)) r t hm.2.2.1 q ⟨rfl, ?_⟩)
      · refine RelN.rel (nc := nc) (np := np) (n := n + 1) (nt := nt) (ne := ne) ⟨⟨b1, b2, by omega, b4, b5⟩, ⟨hx.1, hx.2.1, (nI_succ n).symm, hx.2.2.2⟩, ⟨hm.1, hm.2.1, (nI_succ n).symm, hm.2.2.2⟩, ⟨h4.1, rfl, h4.2.2⟩, ⟨?_, ?_, ?_, ?_, h5.2.2.2.2⟩, ?_, h7.pic b3 (nI c) y1, h8.pic (nI c) y1⟩
        · show upd (σx.2 0) n (nI c) = upd (σm.2 1) n (nI c)
          rw [h5.1]
        · show upd (σx.2 1) n y1 = upd (σm.2 2) n y1
          rw [h5.2.1]
        · show upd (σx.2 2) n y2 = upd (σm.2 3) n y2
          rw [h5.2.2.1]
        · show upd (σx.2 3) n y3 = upd (σm.2 4) n y3
          rw [h5.2.2.2.1]
        · show RPic nc np (n + 1) (upd (σm.2 1) n (nI c)) (upd (σm.2 2) n y1) (upd (σm.2 3) n y2) (upd (σm.2 4) n y3) (σm.2 0)
          refine ⟨fun p hp => ?_, h6.2⟩
          by_cases e : p = n
          · subst e
            rw [pk_us, pk_us, pk_us, pk_us]
            refine ⟨⟨c, hcc, rfl⟩, ⟨y1.toInt, ?_, ?_, iI_of y1⟩, ⟨y2.toInt.toNat, ?_, ?_⟩, hpl⟩
            · have := r.1; rw [Int32.lt_iff_toInt_lt] at this
              have z : ¬ y1.toInt < 0 := this
              omega
            · have := r.2; rw [Int32.lt_iff_toInt_lt] at this
              have z : ¬ 100000 < y1.toInt := this
              omega
            · have := t.2; rw [Int32.lt_iff_toInt_lt] at this
              have z : ¬ 65535 < y2.toInt := this
              omega
            · have := t.1; rw [Int32.lt_iff_toInt_lt] at this
              have z : ¬ y2.toInt < 0 := this
              rw [← iI_nI, Int.toNat_of_nonneg (by omega)]
              exact iI_of y2
          · rw [pk_un e, pk_un e, pk_un e, pk_un e]
            exact h6.1 p (by omega)
    · show σm.1 4 = 120
      rw [hm.2.2.1, show n = 120 by omega]
      rfl
  refine hasC_y hx.1 hcc hc ⟨fun e => absurd e (by decide), fun _ => ?_⟩
  by_cases e3 : y3 = -1
  · refine ⟨fun _ => ?_, fun e => absurd e3 e⟩
    refine mono_J32 (rest (Or.inl e3)) (fun r u hw => isCa_y (σ := (va_up σm.1 0 0, σm.2)) hm.1 hcc hc ⟨fun e => absurd e (by decide), fun _ => ⟨fun _ => hw, fun e => absurd e3 e⟩⟩)
  · refine ⟨fun e => absurd e e3, fun _ => ?_⟩
    rcases ix_cases y3 hn with q | ⟨q, hq, rfl⟩
    · exact has1_n hx.2.1 q ⟨fun e => absurd rfl e, fun _ => isCa_y (σ := (va_up σm.1 0 0, σm.2)) hm.1 hcc hc ⟨fun e => absurd e (by decide), fun _ => ⟨fun e => absurd e e3, fun _ => isPl_n (σ := (va_up σm.1 0 0, σm.2)) hm.2.1 q ⟨fun e => absurd rfl e, fun _ => ⟨rfl, bad 1⟩⟩⟩⟩⟩
    · refine has1_y hx.2.1 hq hn ⟨fun _ => ?_, fun e => absurd e (by decide)⟩
      refine mono_J32 (rest (Or.inr ⟨q, hq, rfl⟩)) (fun r u hw => isCa_y (σ := (va_up σm.1 0 0, σm.2)) hm.1 hcc hc ⟨fun e => absurd e (by decide), fun _ => ⟨fun e => absurd e e3, fun _ => isPl_y (σ := (va_up σm.1 0 0, σm.2)) hm.2.1 hq hn ⟨fun _ => hw, fun e => absurd e (by decide)⟩⟩⟩)
