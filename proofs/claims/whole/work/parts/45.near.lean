theorem RTie.tail {nc n nt ne : Nat} {x5 x6 x7 x8 x9 x16 m1 m2 m5 m6 m7 m8 m9 : Nat → Int32} (h : RTie nc n nt ne x5 x6 x7 x8 x9 x16 m1 m2 m5 m6 m7 m8 m9) (k o t z : Int32) : RTie nc n nt ne x5 x6 x7 x8 x9 x16 m1 m2 m5 (upd m6 nt k) (upd m7 nt o) (upd m8 nt t) (upd m9 nt z) := by
  obtain ⟨mn, ess, pi, ca, cb, clo, chi, T, hM, r⟩ := h
  refine ⟨mn, ess, pi, ca, cb, clo, chi, T, ⟨fun i hi => ?_, hM.2⟩, r⟩
  rw [pk_un (by omega), pk_un (by omega), pk_un (by omega), pk_un (by omega)]
  exact hM.1 i hi
theorem esAll_up (ess : Nat → List Ed) (nt : Nat) (esn : List Ed) (e : Ed) : e ∈ esAll (va_up ess nt esn) (nt + 1) ↔ e ∈ esAll ess nt ∨ e ∈ esn := by
  rw [mem_esAll, mem_esAll]
  constructor
  · rintro ⟨k, hk, h⟩
    by_cases q : k = nt
    · subst q
      rw [va_up_self] at h
      exact Or.inr h
    · rw [va_up_ne _ _ q] at h
      exact Or.inl ⟨k, by omega, h⟩
  · rintro (⟨k, hk, h⟩ | h)
    · exact ⟨k, by omega, by rw [va_up_ne _ _ (by omega)]; exact h⟩
    · exact ⟨nt, by omega, by rw [va_up_self]; exact h⟩
theorem rtie_add {nc n nt ne : Nat} {x5 x6 x7 x8 x9 x16 m1 m2 m5 m6 m7 m8 m9 : Nat → Int32} {mn : Nat → Nat} {ess : Nat → List Ed} {pi ca cb : Nat → Nat} {clo chi : Nat → Int} {U : Mat} {k o t z : Int32} {a b : Nat} {lo hi : Int} {esn : List Ed} (hM : TM nc n nt ne m1 m2 m5 m6 m7 m8 m9 mn ess) (hX : TX nt x5 x6 x7 x8 x9 mn ess pi ca cb clo chi)
    (hE : TieE k o t z m1 m2 esn) (hP : TieP nc n k o t) (hC : TieC (nI a) (nI b) (iI lo) (iI hi) a b lo hi) (hR : Corr a b lo hi esn) (hU : RM x16 (neg U)) (hT : Tight (TieX (EdOf (esAll ess nt)) a b lo hi) U) :
    RTie nc n (nt + 1) (ne + 1) (upd x5 nt (nI ne)) (upd x6 nt (nI a)) (upd x7 nt (nI b)) (upd x8 nt (iI lo)) (upd x9 nt (iI hi)) x16 m1 m2 (upd m5 nt (nI ne)) (upd m6 nt k) (upd m7 nt o) (upd m8 nt t) (upd m9 nt z) := by
  refine ⟨va_up mn nt ne, va_up ess nt esn, va_up pi nt nt, va_up ca nt a, va_up cb nt b, va_up clo nt lo, va_up chi nt hi, U, ⟨fun i hi => ?_, fun i l hi hl e => ?_⟩, ⟨fun s hs => ?_, fun s u hs hu e => ?_, fun i hi => ?_⟩, hU, ?_⟩
  · by_cases q : i = nt
    · subst q
      rw [pk_us, pk_us, pk_us, pk_us, pk_us, va_up_self, va_up_self]
      exact ⟨rfl, by omega, hE, hP⟩
    · rw [pk_un q, pk_un q, pk_un q, pk_un q, pk_un q, va_up_ne _ _ q, va_up_ne _ _ q]
      obtain ⟨h1, h2, h3, h4⟩ := hM.1 i (by omega)
      exact ⟨h1, by omega, h3, h4⟩
  · by_cases q : i = nt <;> by_cases r : l = nt
    · omega
    · rw [q, va_up_self, va_up_ne _ _ r] at e
      have := (hM.1 l (by omega)).2.1
      omega
    · rw [r, va_up_self, va_up_ne _ _ q] at e
      have := (hM.1 i (by omega)).2.1
      omega
    · rw [va_up_ne _ _ q, va_up_ne _ _ r] at e
      exact hM.2 i l (by omega) (by omega) e
  · by_cases q : s = nt
    · subst q
      rw [pk_us, pk_us, pk_us, pk_us, pk_us, va_up_self, va_up_self, va_up_self, va_up_self, va_up_self, va_up_self, va_up_self]
      exact ⟨by omega, rfl, hC, hR⟩
    · obtain ⟨h1, h2, h3, h4⟩ := hX.1 s (by omega)
      rw [pk_un q, pk_un q, pk_un q, pk_un q, pk_un q, va_up_ne _ _ q, va_up_ne _ _ q, va_up_ne _ _ q, va_up_ne _ _ q, va_up_ne _ _ q, va_up_ne _ _ (show pi s ≠ nt by omega), va_up_ne _ _ (show pi s ≠ nt by omega)]
      exact ⟨by omega, h2, h3, h4⟩
  · by_cases q : s = nt <;> by_cases r : u = nt
    · omega
    · rw [q, va_up_self, va_up_ne _ _ r] at e
      have := (hX.1 u (by omega)).1
      omega
    · rw [r, va_up_self, va_up_ne _ _ q] at e
      have := (hX.1 s (by omega)).1
      omega
    · rw [va_up_ne _ _ q, va_up_ne _ _ r] at e
      exact hX.2.1 s u (by omega) (by omega) e
  · by_cases q : i = nt
    · exact ⟨nt, by omega, by rw [va_up_self]; exact q.symm⟩
    · obtain ⟨s, hs, e⟩ := hX.2.2 i (by omega)
      exact ⟨s, by omega, by rw [va_up_ne _ _ (by omega)]; exact e⟩
  · refine tight_feq hT (feas_link (fun x y w _ _ e => ?_) (fun x y w _ _ e => ?_))
    · rcases (esAll_up ess nt esn (x, y, w)).mp e with q | q
      · exact Or.inl (Or.inl q)
      · rcases List.mem_cons.mp (hR.1 _ q) with r | r
        · have r1 := congrArg (fun e : Ed => e.1) r
          have r2 := congrArg (fun e : Ed => e.2.1) r
          have r3 := congrArg (fun e : Ed => e.2.2) r
          exact Or.inl (Or.inr ⟨r1, r2, r3⟩)
        · rw [List.mem_singleton] at r
          have r1 := congrArg (fun e : Ed => e.1) r
          have r2 := congrArg (fun e : Ed => e.2.1) r
          have r3 := congrArg (fun e : Ed => e.2.2) r
          exact Or.inr ⟨r1, r2, r3⟩
    · have go : (x, y, w) ∈ ces a b lo hi → EdOf (esAll (va_up ess nt esn) (nt + 1)) x y w ∨ 1000000 ≤ w := by
        intro q
        rcases hR.2 _ q with r | r
        · exact Or.inl ((esAll_up ess nt esn (x, y, w)).mpr (Or.inr r))
        · exact Or.inr r
      rcases e with (q | ⟨rfl, rfl, rfl⟩) | ⟨rfl, rfl, rfl⟩
      · exact Or.inl ((esAll_up ess nt esn (x, y, w)).mpr (Or.inl q))
      · exact go List.mem_cons_self
      · exact go (List.mem_cons_of_mem _ List.mem_cons_self)
theorem st_tie {j nc np n nt ne : Nat} {σx σm : St} (hj : j < 512) (h : RelN j nc np n nt ne σx σm) {k o t z : Int32} {a b : Nat} {lo hi : Int} {esn : List Ed} (hE : TieE k o t z (σm.2 1) (σm.2 2) esn) (hP : TieP nc n k o t) (hC : TieC (nI a) (nI b) (iI lo) (iI hi) a b lo hi) (hR : Corr a b lo hi esn) {K : Int32 → St → Prop} (hK : ∀ r u, w_X6_tie σm k o t z (fun r2 u2 => r = r2 ∧ Rel (j + 1) u u2) → K r u) : w_X5_tie σx (nI a) (nI b) (iI lo) (iI hi) K := by
  obtain ⟨⟨b1, b2, b3, b4, b5⟩, hx, hm, h4, h5, h6, h7, h8⟩ := id h
  have h7t := h7.tail k o t z
  obtain ⟨mn, ess, pi, ca, cb, clo, chi, T, hM, hX, hRM, hT⟩ := id h7
  obtain ⟨ha8, hb8, -, -, -, -, l1, l2, l3, l4, l5⟩ := id hC
  have hess := fun i hi => (hM.1 i hi).2.2.1
  have hok := tm_ok hM
  unfold w_X5_tie
  rw [hx.2.2.2.1]
  refine pk_lt nt 60 (fun q => ?_) (fun q => ?_)
  · have hB : Bd 400000 T := fun a b ha hb => tight_bd hT ha hb
    refine s_admits hRM hT ha8 hb8 ⟨l2, l5, l4, l3⟩ (fun hno => ⟨fun e => absurd rfl e, fun _ => ?_⟩) (fun y1 y2 => ⟨fun _ => ?_, fun e => absurd e (by decide)⟩)
    · refine s_xfew (σ := (σx.1, va_up σx.2 16 (σx.2 16))) (ca := ca) (cb := cb) (clo := clo) (chi := chi) (es := esAll ess nt) hx.2.2.2.1 b4 (fun s hs => (hX.1 s hs).2.2.1) hok (tx_link hX) hT ha8 hb8 ⟨l2, l3, l4, l5⟩ (fun τ N hs hN8 g1 g2 => ?_)
      have bl : ∀ i, Bd 400000 (layR (esAll ess nt) i) := fun i => layR_bd hok hT i
      have hN : N < 8 := by
        rcases Nat.lt_or_ge N 8 with r | r
        · exact r
        · have g3 := g1 7 (by omega)
          rw [layL_seven hok hT hb8 a ha8, layL_seven hok hT ha8 b hb8] at g3
          omega
      unfold w_X5_refuse
      refine hK _ _ ?_
      refine s_mtie hm.2.2.2.1 q hess hE hT (fun hb => ?_) (fun _ => ⟨N, ?_, fun i hi => ?_, fun τ2 e2 hk2 => ⟨rfl, ?_⟩⟩)
      · refine absurd ((brk_corr hR hB ha8 hb8).mpr ?_) hb
        omega
      · rw [brk_corr hR (bl N) ha8 hb8, layR_eq, layR_eq]
        omega
      · rw [brk_corr hR (bl i) ha8 hb8, layR_eq, layR_eq]
        have := g1 i hi
        omega
      · have hx1 : KX σx τ := KX.trans (τ := (σx.1, va_up σx.2 16 (σx.2 16))) ⟨rfl, fun i _ _ _ => by
          show va_up σx.2 16 (σx.2 16) i = σx.2 i
          by_cases r : i = 16
          · rw [r, va_up_self]
          · rw [va_up_ne _ _ r]⟩ hs.kx
        have hA : RelN j nc np n nt ne σx (σt σm nt k o t z) := ⟨⟨b1, b2, b3, b4, b5⟩, hx, hm, h4, h5, h6, h7t, h8⟩
        exact ((((hA.keep hx1 hk2)).quarrel (nI N)).trouble 4).rel
    · refine s_xtake (σ := (va_up σx.1 2 0, va_up σx.2 16 (σx.2 16))) hx.2.2.2.1 q hx.2.2.2.2 hRM hT hC y1 y2 (fun f U hf hU => ?_)
      refine hK _ _ ?_
      refine s_mtie hm.2.2.2.1 q hess hE hT (fun _ τ2 e2 hk2 => ⟨?_, ?_⟩) (fun hb => ?_)
      · rw [hm.2.2.2.2, nI_1, show (1 : Int32) = nI 1 from rfl, pk_sub (by omega)]
        rfl
      · have hA : RelN (j + 1) nc np n (nt + 1) (ne + 1) (va_up (va_up (va_up σx.1 2 0) 6 (nI nt + 1)) 7 (nI ne + 1), va_up (va_up (va_up (va_up (va_up (va_up (va_up σx.2 16 (σx.2 16)) 5 (upd (σx.2 5) nt (nI ne))) 6 (upd (σx.2 6) nt (nI a))) 7 (upd (σx.2 7) nt (nI b))) 8 (upd (σx.2 8) nt (iI lo))) 9 (upd (σx.2 9) nt (iI hi))) 16 f) (va_up (va_up (va_up σm.1 5 (nI nt + 1)) 6 (nI ne + 1)) 1 0, va_up (σt σm nt k o t z).2 5 (upd (σm.2 5) nt (nI ne))) :=
          ⟨⟨b1, b2, b3, by omega, by omega⟩, ⟨hx.1, hx.2.1, hx.2.2.1, nI_1 nt, nI_1 ne⟩, ⟨hm.1, hm.2.1, hm.2.2.1, nI_1 nt, nI_1 ne⟩, ⟨h4.1, rfl, h4.2.2⟩, h5, h6, rtie_add hM hX hE hP hC hR hf hU, h8⟩
        refine ⟨nc, np, n, nt + 1, ne + 1, hA.keepM ⟨fun i _ => ?_, fun i hi => ?_⟩⟩
        · rw [e2, hm.2.2.2.2]
        · show va_up τ2.2 5 (upd (τ2.2 5) nt (τ2.1 6)) i = va_up (σt σm nt k o t z).2 5 (upd (σm.2 5) nt (nI ne)) i
          have e5 : τ2.2 5 = σm.2 5 := hk2.2 5 (by decide)
          rw [e2, hm.2.2.2.2, e5]
          by_cases r : i = 5
          · rw [r, va_up_self, va_up_self]
          · rw [va_up_ne _ _ r, va_up_ne _ _ r]
            exact hk2.2 i hi
      · exfalso
        have := (brk_corr hR hB ha8 hb8).mp hb
        omega
  · have e60 : nt = 60 := by omega
    subst e60
    unfold w_X5_refuse
    refine hK _ _ ?_
    unfold w_X6_tie w_X6_refused
    exact ⟨fun e => absurd hm.2.2.2.1 e, fun _ => ⟨rfl, (h.trouble 3).rel⟩⟩
theorem st_near (j : Nat) (σx σm : St) (y0 y1 y2 : Int32) (hj : j < 512) (h : Rel j σx σm) : w_X5_near σx y0 y1 y2 (fun r u => w_X6_near σm y0 y1 y2 (fun r2 u2 => r = r2 ∧ Rel (j + 1) u u2)) := by
  obtain ⟨nc, np, n, nt, ne, h⟩ := h
  obtain ⟨⟨b1, b2, b3, b4, b5⟩, hx, hm, h4, h5, h6, h7, h8⟩ := id h
  have bad : ∀ v : Int32, Rel (j + 1) (va_up σx.1 2 v, σx.2) (va_up (va_up σm.1 0 0) 1 v, σm.2) := fun v => ((h.keepM (KM.z σm 0)).trouble v).rel
  have hn : n < 2 ^ 31 := by omega
  unfold w_X5_near w_X5_refuse
  rcases ix_cases y0 hn with q | ⟨p, hp, rfl⟩
  · refine has0_n hx.2.2.1 q ⟨fun _ => ?_, fun e => absurd rfl e⟩
    unfold w_X6_near w_X6_refused
    exact isPi_n (σ := (va_up σm.1 0 0, σm.2)) hm.2.2.1 q ⟨fun _ => ⟨rfl, bad 1⟩, fun e => absurd rfl e⟩
  rcases ix_cases y1 hn with q | ⟨q, hq, rfl⟩
  · refine has0_y hx.2.2.1 hp hn ⟨fun e => absurd e (by decide), fun _ => has0_n hx.2.2.1 q ⟨fun e => absurd rfl e, fun _ => ?_⟩⟩
    unfold w_X6_near w_X6_refused
    exact isPi_y (σ := (va_up σm.1 0 0, σm.2)) hm.2.2.1 hp hn ⟨fun e => absurd e (by decide), fun _ => isPi_n (σ := (va_up σm.1 0 0, σm.2)) hm.2.2.1 q ⟨fun e => absurd rfl e, fun _ => ⟨rfl, bad 1⟩⟩⟩
  refine has0_y hx.2.2.1 hp hn ⟨fun e => absurd e (by decide), fun _ => has0_y hx.2.2.1 hq hn ⟨fun _ => ?_, fun e => absurd e (by decide)⟩⟩
  rcases wi_cases y2 0 10000 with r | r
  · refine within_n r ⟨fun e => absurd rfl e, fun _ => ?_⟩
    unfold w_X6_near w_X6_refused
    exact isPi_y (σ := (va_up σm.1 0 0, σm.2)) hm.2.2.1 hp hn ⟨fun e => absurd e (by decide), fun _ => isPi_y (σ := (va_up σm.1 0 0, σm.2)) hm.2.2.1 hq hn ⟨fun _ => in_n r ⟨fun e => absurd rfl e, fun _ => ⟨rfl, bad 2⟩⟩, fun e => absurd e (by decide)⟩⟩
  have hr1 : 0 ≤ y2.toInt := by
    have := r.1; rw [Int32.lt_iff_toInt_lt] at this
    have z : ¬ y2.toInt < 0 := this
    omega
  have hr2 : y2.toInt ≤ 10000 := by
    have := r.2; rw [Int32.lt_iff_toInt_lt] at this
    have z : ¬ 10000 < y2.toInt := this
    omega
  refine within_y r ⟨fun _ => ?_, fun e => absurd e (by decide)⟩
  have hip : vp_in (nI p) 120 := vp_in_nI (by omega) (by omega)
  have hiq : vp_in (nI q) 120 := vp_in_nI (by omega) (by omega)
  obtain ⟨⟨c, hc, ec⟩, ⟨x, x0, x1, ex⟩, -⟩ := h6.1 p hp
  obtain ⟨⟨d, hd, ed⟩, ⟨y, z0, z1, ey⟩, -⟩ := h6.1 q hq
  have ey2 : y2 = iI y2.toInt := iI_of y2
  generalize y2.toInt = m at *
  rw [nI_clamp (show p < 2 ^ 31 by omega), nI_clamp (show q < 2 ^ 31 by omega), h5.1, h5.2.1, ec, ed, ex, ey, ey2, iI_neg, iI_sub, iI_sub, iI_sub]
  refine ⟨hiq, hip, hip, hiq, ?_⟩
  have hE : TieE 0 (nI p) (nI q) (iI m) (σm.2 1) (σm.2 2) [(c, d, m + (y - x)), (d, c, m - (y - x))] := Or.inl ⟨rfl, p, q, c, d, x, y, m, by omega, by omega, by omega, by omega, rfl, rfl, ec, ed, ex, ey, x0, x1, z0, z1, rfl, hr1, hr2, rfl⟩
  have hP : TieP nc n 0 (nI p) (nI q) := Or.inr ⟨by decide, p, q, hp, hq, rfl, rfl⟩
  have hC : TieC (nI c) (nI d) (iI (-m - (y - x))) (iI (m - (y - x))) c d (-m - (y - x)) (m - (y - x)) := ⟨by omega, by omega, rfl, rfl, rfl, rfl, by omega, by omega, by omega, by omega, by omega⟩
  have hR : Corr c d (-m - (y - x)) (m - (y - x)) [(c, d, m + (y - x)), (d, c, m - (y - x))] := by
    have e1 : -(-m - (y - x)) = m + (y - x) := by omega
    unfold Corr ces
    rw [e1]
    refine ⟨fun e he => ?_, fun e he => Or.inl ?_⟩ <;> (simp only [List.mem_cons, List.not_mem_nil, or_false] at he ⊢; exact he.symm)
  refine st_tie hj (h.keepM (KM.z σm 0)) hE hP hC hR (fun r' u hu => ?_)
  unfold w_X6_near
  exact isPi_y (σ := (va_up σm.1 0 0, σm.2)) hm.2.2.1 hp hn ⟨fun e => absurd e (by decide), fun _ => isPi_y (σ := (va_up σm.1 0 0, σm.2)) hm.2.2.1 hq hn ⟨fun _ => in_y ⟨by rw [← ey2]; exact r.1, by rw [← ey2]; exact r.2⟩ ⟨fun _ => hu, fun e => absurd e (by decide)⟩, fun e => absurd e (by decide)⟩⟩
theorem st_ahead (j : Nat) (σx σm : St) (y0 y1 : Int32) (hj : j < 512) (h : Rel j σx σm) : w_X5_ahead σx y0 y1 (fun r u => w_X6_ahead σm y0 y1 (fun r2 u2 => r = r2 ∧ Rel (j + 1) u u2)) := by
  obtain ⟨nc, np, n, nt, ne, h⟩ := h
  obtain ⟨⟨b1, b2, b3, b4, b5⟩, hx, hm, h4, h5, h6, h7, h8⟩ := id h
  have bad : ∀ v : Int32, Rel (j + 1) (va_up σx.1 2 v, σx.2) (va_up (va_up σm.1 0 0) 1 v, σm.2) := fun v => ((h.keepM (KM.z σm 0)).trouble v).rel
  have hn : n < 2 ^ 31 := by omega
  unfold w_X5_ahead w_X5_refuse
  rcases ix_cases y0 hn with q | ⟨p, hp, rfl⟩
  · refine has0_n hx.2.2.1 q ⟨fun _ => ?_, fun e => absurd rfl e⟩
    unfold w_X6_ahead w_X6_refused
    exact isPi_n (σ := (va_up σm.1 0 0, σm.2)) hm.2.2.1 q ⟨fun _ => ⟨rfl, bad 1⟩, fun e => absurd rfl e⟩
  rcases ix_cases y1 hn with q | ⟨q, hq, rfl⟩
  · refine has0_y hx.2.2.1 hp hn ⟨fun e => absurd e (by decide), fun _ => has0_n hx.2.2.1 q ⟨fun e => absurd rfl e, fun _ => ?_⟩⟩
    unfold w_X6_ahead w_X6_refused
    exact isPi_y (σ := (va_up σm.1 0 0, σm.2)) hm.2.2.1 hp hn ⟨fun e => absurd e (by decide), fun _ => isPi_n (σ := (va_up σm.1 0 0, σm.2)) hm.2.2.1 q ⟨fun e => absurd rfl e, fun _ => ⟨rfl, bad 1⟩⟩⟩
  refine has0_y hx.2.2.1 hp hn ⟨fun e => absurd e (by decide), fun _ => has0_y hx.2.2.1 hq hn ⟨fun _ => ?_, fun e => absurd e (by decide)⟩⟩
  have hip : vp_in (nI p) 120 := vp_in_nI (by omega) (by omega)
  have hiq : vp_in (nI q) 120 := vp_in_nI (by omega) (by omega)
  obtain ⟨⟨c, hc, ec⟩, ⟨x, x0, x1, ex⟩, -⟩ := h6.1 p hp
  obtain ⟨⟨d, hd, ed⟩, ⟨y, z0, z1, ey⟩, -⟩ := h6.1 q hq
  rw [nI_clamp (show p < 2 ^ 31 by omega), nI_clamp (show q < 2 ^ 31 by omega), h5.1, h5.2.1, ec, ed, ex, ey, iI_sub, show (1 : Int32) = iI 1 from rfl, iI_sub, show (1000000 : Int32) = iI 1000000 from rfl]
  refine ⟨hiq, hip, hip, hiq, ?_⟩
  have hE : TieE 1 (nI p) (nI q) 0 (σm.2 1) (σm.2 2) [(c, d, y - x - 1)] := Or.inr (Or.inl ⟨rfl, p, q, c, d, x, y, by omega, by omega, by omega, by omega, rfl, rfl, ec, ed, ex, ey, x0, x1, z0, z1, rfl⟩)
  have hP : TieP nc n 1 (nI p) (nI q) := Or.inr ⟨by decide, p, q, hp, hq, rfl, rfl⟩
  have hC : TieC (nI c) (nI d) (iI (1 - (y - x))) (iI 1000000) c d (1 - (y - x)) 1000000 := ⟨by omega, by omega, rfl, rfl, rfl, rfl, by omega, by omega, by omega, by omega, by omega⟩
  have hR : Corr c d (1 - (y - x)) 1000000 [(c, d, y - x - 1)] := by
    have e1 : -(1 - (y - x)) = y - x - 1 := by omega
    unfold Corr ces
    rw [e1]
    refine ⟨fun e he => ?_, fun e he => ?_⟩
    · exact List.mem_cons_of_mem _ he
    · rcases List.mem_cons.mp he with q | q
      · subst q; exact Or.inr (Int.le_refl _)
      · exact Or.inl q
  refine st_tie hj (h.keepM (KM.z σm 0)) hE hP hC hR (fun r u hu => ?_)
  unfold w_X6_ahead
  exact isPi_y (σ := (va_up σm.1 0 0, σm.2)) hm.2.2.1 hp hn ⟨fun e => absurd e (by decide), fun _ => isPi_y (σ := (va_up σm.1 0 0, σm.2)) hm.2.2.1 hq hn ⟨fun _ => hu, fun e => absurd e (by decide)⟩⟩
theorem st_off (j : Nat) (σx σm : St) (y0 y1 y2 : Int32) (hj : j < 512) (h : Rel j σx σm) : w_X5_off σx y0 y1 y2 (fun r u => w_X6_off σm y0 y1 y2 (fun r2 u2 => r = r2 ∧ Rel (j + 1) u u2)) := by
  obtain ⟨nc, np, n, nt, ne, h⟩ := h
  obtain ⟨⟨b1, b2, b3, b4, b5⟩, hx, hm, h4, h5, h6, h7, h8⟩ := id h
  have bad : ∀ v : Int32, Rel (j + 1) (va_up σx.1 2 v, σx.2) (va_up (va_up σm.1 0 0) 1 v, σm.2) := fun v => ((h.keepM (KM.z σm 0)).trouble v).rel
  have hn : nc < 2 ^ 31 := by omega
  unfold w_X5_off w_X5_refuse w_X5_isOffset
  rcases ix_cases y0 hn with q | ⟨c, hc, rfl⟩
  · refine hasC_n hx.1 q ⟨fun e => absurd rfl e, fun _ => ?_⟩
    unfold w_X6_off w_X6_refused
    exact isCa_n (σ := (va_up σm.1 0 0, σm.2)) hm.1 q ⟨fun e => absurd rfl e, fun _ => ⟨rfl, bad 1⟩⟩
  -- what the reference does when a bound is not good
  have lt : ∀ a b : Int32, a < b ↔ a.toInt < b.toInt := fun a b => Int32.lt_iff_toInt_lt
  have le : ∀ a b : Int32, a ≤ b ↔ a.toInt ≤ b.toInt := fun a b => Int32.le_iff_toInt_le
  have k1 : (-200000 : Int32).toInt = -200000 := by decide
  have k2 : (200000 : Int32).toInt = 200000 := by decide
  have no : (y1.toInt < -200000 ∨ y2.toInt < y1.toInt ∨ 200000 < y2.toInt) → w_X6_off σm (nI c) y1 y2 (fun r2 u2 => -1 = r2 ∧ Rel (j + 1) (va_up σx.1 2 2, σx.2) u2) := by
    intro q
    unfold w_X6_off w_X6_refused
    refine isCa_y (σ := (va_up σm.1 0 0, σm.2)) hm.1 hc hn ⟨fun _ => ?_, fun e => absurd e (by decide)⟩
    rcases wi_cases y1 (-200000) y2 with r | r
    · exact in_n r ⟨fun _ => ⟨rfl, bad 2⟩, fun e => absurd rfl e⟩
    · refine in_y r ⟨fun e => absurd e (by decide), fun _ => ⟨fun e => ?_, fun _ => ⟨rfl, bad 2⟩⟩⟩
      rw [lt, lt, k1] at r
      rw [le, k2] at e
      omega
  refine hasC_y hx.1 hc hn ⟨fun _ => ?_, fun e => absurd e (by decide)⟩
  rcases wi_cases y1 (-200000) 200000 with r | r
  · refine within_n r ⟨rfl, fun _ => no ?_, fun e => absurd rfl e⟩
    rw [lt, lt, k1, k2] at r
    omega
  refine within_y r ⟨rfl, fun e => absurd e (by decide), fun _ => ?_⟩
  rcases wi_cases y2 (-200000) 200000 with t | t
  · refine within_n t ⟨rfl, fun _ => no ?_, fun e => absurd rfl e⟩
    rw [lt, lt, k1, k2] at r t
    omega
  refine within_y t ⟨rfl, fun e => absurd e (by decide), fun _ => ⟨fun g => ?_, fun g => no ?_⟩⟩
  · have r' := r
    have t' := t
    rw [lt, lt, k1, k2] at r' t'
    have g' := g
    rw [le] at g'
    have e1 : y1 = iI y1.toInt := iI_of y1
    have e2 : y2 = iI y2.toInt := iI_of y2
    have hE : TieE 2 (nI c) y1 y2 (σm.2 1) (σm.2 2) [(c, 0, y2.toInt), (0, c, -y1.toInt)] := Or.inr (Or.inr ⟨rfl, c, y1.toInt, y2.toInt, by omega, rfl, e1, e2, by omega, g', by omega, rfl⟩)
    have hP : TieP nc n 2 (nI c) y1 := Or.inl ⟨rfl, c, hc, rfl⟩
    have hC : TieC (nI 0) (nI c) (iI y1.toInt) (iI y2.toInt) 0 c y1.toInt y2.toInt := ⟨by omega, by omega, rfl, rfl, rfl, rfl, g', by omega, by omega, by omega, by omega⟩
    have hR : Corr 0 c y1.toInt y2.toInt [(c, 0, y2.toInt), (0, c, -y1.toInt)] := ⟨fun e he => he, fun e he => Or.inl he⟩
    have hw := st_tie hj (h.keepM (KM.z σm 0)) hE hP hC hR (K := fun r u => w_X6_off σm (nI c) y1 y2 (fun r2 u2 => r = r2 ∧ Rel (j + 1) u u2)) (fun r u hu => by
      unfold w_X6_off
      refine isCa_y (σ := (va_up σm.1 0 0, σm.2)) hm.1 hc hn ⟨fun _ => in_y ⟨?_, ?_⟩ ⟨fun e => absurd e (by decide), fun _ => ⟨fun _ => hu, fun e => ?_⟩⟩, fun e => absurd e (by decide)⟩
      · rw [lt, k1]; omega
      · rw [lt]; omega
      · rw [le, k2] at e; omega)
    rw [← e1, ← e2] at hw
    exact hw
  · rw [le] at g
    omega
