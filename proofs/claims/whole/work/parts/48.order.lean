/-! bounds that are told; sums -/
theorem x_least {f : Nat → Int32} {T : Mat} (h : RM f (neg T)) {a b : Nat} (ha : a < 8) (hb : b < 8) {post : Int32 → (Nat → Int32) → Prop} (hp : post (iI (- T a b)) f) : w_X2_least f (nI a) (nI b) post := by
  unfold w_X2_least
  rw [ix8_c' hb ha, h b a hb ha, iI_neg]
  exact ⟨ix8_in' hb ha, hp⟩
theorem x_most {f : Nat → Int32} {T : Mat} (h : RM f (neg T)) {a b : Nat} (ha : a < 8) (hb : b < 8) {post : Int32 → (Nat → Int32) → Prop} (hp : post (iI (T b a)) f) : w_X2_most f (nI a) (nI b) post := by
  unfold w_X2_most
  rw [ix8_c' ha hb, h a b ha hb]
  exact ⟨ix8_in' ha hb, hp⟩
theorem KX.self (σ : St) : KX σ (σ.1, va_up σ.2 16 (σ.2 16)) := ⟨rfl, fun J _ _ _ => by
  show va_up σ.2 16 (σ.2 16) J = σ.2 J
  by_cases q : J = 16
  · rw [q, va_up_self]
  · rw [va_up_ne _ _ q]⟩
theorem KX.self2 (σ : St) : KX σ (σ.1, va_up (va_up σ.2 16 (σ.2 16)) 16 (σ.2 16)) := ⟨rfl, fun J _ _ _ => by
  show va_up (va_up σ.2 16 (σ.2 16)) 16 (σ.2 16) J = σ.2 J
  by_cases q : J = 16
  · rw [q, va_up_self]
  · rw [va_up_ne _ _ q, va_up_ne _ _ q]⟩
theorem rel_T {j nc np n nt ne : Nat} {σx σm : St} (h : RelN j nc np n nt ne σx σm) : ∃ T E, RM (σx.2 16) (neg T) ∧ Tight E T ∧ ∀ post : Int32 → St → Prop, (∀ τ, KM (va_up σm.1 0 0, σm.2) τ → Same 10 (va_up σm.1 0 0, σm.2) τ → RM (τ.2 10) T → post 1 τ) → w_X6_closed_a10 (va_up σm.1 0 0, σm.2) (-1) post := by
  obtain ⟨⟨b1, b2, b3, b4, b5⟩, hx, hm, h4, h5, h6, h7, h8⟩ := id h
  obtain ⟨mn, ess, pi, ca, cb, clo, chi, T, hM, hX, hRM, hT⟩ := id h7
  have hTc : Tight (ClE ess nt (-1)) T := tight_congr hT (fun a b w _ _ => (clE_all ess b4 a b w).symm)
  refine ⟨T, EdOf (esAll ess nt), hRM, hT, fun post hp => ?_⟩
  refine s_closed_a10 (σ := (va_up σm.1 0 0, σm.2)) (ess := ess) hm.2.2.2.1 b4 (fun i hi => (hM.1 i hi).2.2.1) (tight_feas hTc) (fun τ U hs hU hTU => hp τ (hs.km (by decide)) hs (hU.congr (fun a b ha hb => tight_unique hTU hTc ha hb)))
def cmN (m1 : Nat → Int32) (p : Nat) : Nat := (m1 p).toNatClampNeg
def ckI (m2 : Nat → Int32) (p : Nat) : Int := (m2 p).toInt
def mkN (m3 : Nat → Int32) (p : Nat) : Nat := (m3 p).toNatClampNeg
theorem pic_fn {nc np n : Nat} {m1 m2 m3 m4 m0 : Nat → Int32} (h : RPic nc np n m1 m2 m3 m4 m0) (hnc : nc ≤ 8) {p : Nat} (hp : p < n) : (cmN m1 p < nc ∧ m1 p = nI (cmN m1 p)) ∧ (0 ≤ ckI m2 p ∧ ckI m2 p ≤ 100000 ∧ m2 p = iI (ckI m2 p)) ∧ mkN m3 p < 65536 ∧ m3 p = nI (mkN m3 p) := by
  obtain ⟨⟨c, hc, ec⟩, ⟨x, x0, x1, ex⟩, ⟨m, hm, em⟩, -⟩ := h.1 p hp
  have e1 : cmN m1 p = c := by unfold cmN; rw [ec]; exact nI_clamp (by omega)
  have e2 : ckI m2 p = x := by unfold ckI; rw [ex]; exact iI_toInt (by omega) (by omega)
  have e3 : mkN m3 p = m := by unfold mkN; rw [em]; exact nI_clamp (by omega)
  rw [e1, e2, e3]
  exact ⟨⟨hc, ec⟩, ⟨x0, x1, ex⟩, hm, em⟩
theorem st_range (j : Nat) (σx σm : St) (y0 : Int32) (hj : j < 512) (h : Rel j σx σm) (z : Int32) (hz : z = 0 ∨ z = 1) : w_X5_range σx y0 z (fun r u => w_X6_range σm y0 z (fun r2 u2 => r = r2 ∧ Rel (j + 1) u u2)) := by
  have h0 := h.z 0
  obtain ⟨nc, np, n, nt, ne, h⟩ := h
  obtain ⟨⟨b1, b2, b3, b4, b5⟩, hx, hm, h4, h5, h6, h7, h8⟩ := id h
  obtain ⟨T, E, hRM, hT, hcl⟩ := rel_T h
  have hn : nc < 2 ^ 31 := by omega
  unfold w_X5_range w_X6_range
  rcases ix_cases y0 hn with q | ⟨c, hc, rfl⟩
  · exact hasC_n hx.1 q ⟨fun e => absurd rfl e, fun _ => isCa_n (σ := (va_up σm.1 0 0, σm.2)) hm.1 q ⟨fun e => absurd rfl e, fun _ => ⟨rfl, h0⟩⟩⟩
  · have hc8 : c < 8 := by omega
    refine hasC_y hx.1 hc hn ⟨fun _ => ⟨fun z0 => ?_, fun z0 => ?_⟩, fun e => absurd e (by decide)⟩
    · refine x_least (a := 0) hRM (by omega) hc8 ?_
      refine isCa_y (σ := (va_up σm.1 0 0, σm.2)) hm.1 hc hn ⟨fun _ => hcl _ (fun τ hk _ hR => ⟨fun _ => ⟨vp_in_nI (by omega) (by omega), ?_, ?_⟩, fun e => absurd z0 e⟩), fun e => absurd e (by decide)⟩
      · have e := hR 0 c (by omega) hc8
        rw [show 8 * 0 + c = c by omega] at e
        rw [nI_clamp (by omega), e, iI_neg]
      · exact (h.keep (KX.self σx) ((KM.z σm 0).trans hk)).rel
    · refine x_most (a := 0) hRM (by omega) hc8 ?_
      have e8 : (8 : Int32) * nI c = nI (8 * c) := by rw [show (8 : Int32) = nI 8 from rfl, pk_mul]
      refine isCa_y (σ := (va_up σm.1 0 0, σm.2)) hm.1 hc hn ⟨fun _ => hcl _ (fun τ hk _ hR => ⟨fun e => absurd e z0, fun _ => ⟨by rw [e8]; exact vp_in_nI (by omega) (by omega), ?_, ?_⟩⟩), fun e => absurd e (by decide)⟩
      · have e := hR c 0 hc8 (by omega)
        rw [e8, nI_clamp (by omega), show 8 * c = 8 * c + 0 by omega, e]
      · exact (h.keep (KX.self σx) ((KM.z σm 0).trans hk)).rel
/-- by how much picture q is behind picture p, at least and at most -/
def lst (m1 m2 : Nat → Int32) (T : Mat) (p q : Nat) : Int := ckI m2 q - ckI m2 p - T (cmN m1 p) (cmN m1 q)
def mst (m1 m2 : Nat → Int32) (T : Mat) (p q : Nat) : Int := ckI m2 q - ckI m2 p + T (cmN m1 q) (cmN m1 p)
theorem mst_lst (m1 m2 : Nat → Int32) (T : Mat) (p q : Nat) : lst m1 m2 T p q = - mst m1 m2 T q p := by
  unfold lst mst
  omega
section ORD
variable {nc np n : Nat} {σ τ : St} {m1 m2 m3 m4 m0 : Nat → Int32} {T : Mat} {E : Edg} {p q : Nat} {post : Int32 → St → Prop}
theorem s_leastB (h6 : RPic nc np n m1 m2 m3 m4 m0) (hnc : nc ≤ 8) (hn : n ≤ 120) (e1 : σ.2 0 = m1) (e2 : σ.2 1 = m2) (hR : RM (σ.2 16) (neg T)) (hp : p < n) (hq : q < n) (hh : ∀ τ, KX σ τ → post (iI (lst m1 m2 T p q)) τ) : w_X5_leastBehind σ (nI p) (nI q) post := by
  obtain ⟨⟨c1, c2⟩, ⟨-, -, c3⟩, -⟩ := pic_fn h6 hnc hp
  obtain ⟨⟨d1, d2⟩, ⟨-, -, d3⟩, -⟩ := pic_fn h6 hnc hq
  unfold w_X5_leastBehind
  rw [nI_clamp (show p < 2 ^ 31 by omega), nI_clamp (show q < 2 ^ 31 by omega), e1, e2, c2, d2, c3, d3]
  have ip : vp_in (nI p) 120 := vp_in_nI (by omega) (by omega)
  have iq : vp_in (nI q) 120 := vp_in_nI (by omega) (by omega)
  refine ⟨iq, ip, ip, iq, x_least hR (by omega) (by omega) ?_⟩
  rw [iI_sub, iI_add]
  have e : ckI m2 q - ckI m2 p + - T (cmN m1 p) (cmN m1 q) = lst m1 m2 T p q := by unfold lst; omega
  rw [e]
  exact hh _ (KX.self σ)
theorem s_mostB (h6 : RPic nc np n m1 m2 m3 m4 m0) (hnc : nc ≤ 8) (hn : n ≤ 120) (e1 : σ.2 0 = m1) (e2 : σ.2 1 = m2) (hR : RM (σ.2 16) (neg T)) (hp : p < n) (hq : q < n) (hh : ∀ τ, KX σ τ → post (iI (mst m1 m2 T p q)) τ) : w_X5_mostBehind σ (nI p) (nI q) post := by
  obtain ⟨⟨c1, c2⟩, ⟨-, -, c3⟩, -⟩ := pic_fn h6 hnc hp
  obtain ⟨⟨d1, d2⟩, ⟨-, -, d3⟩, -⟩ := pic_fn h6 hnc hq
  unfold w_X5_mostBehind
  rw [nI_clamp (show p < 2 ^ 31 by omega), nI_clamp (show q < 2 ^ 31 by omega), e1, e2, c2, d2, c3, d3]
  have ip : vp_in (nI p) 120 := vp_in_nI (by omega) (by omega)
  have iq : vp_in (nI q) 120 := vp_in_nI (by omega) (by omega)
  refine ⟨iq, ip, ip, iq, x_most hR (by omega) (by omega) ?_⟩
  rw [iI_sub, iI_add]
  exact hh _ (KX.self σ)
theorem s_mostOf (h6 : RPic nc np n (σ.2 1) (σ.2 2) m3 m4 m0) (hnc : nc ≤ 8) (hn : n ≤ 120) (hR : RM (σ.2 10) T) (hp : p < n) (hq : q < n) (hh : post (iI (mst (σ.2 1) (σ.2 2) T p q)) σ) : w_X6_mostOf σ (nI p) (nI q) post := by
  obtain ⟨⟨c1, c2⟩, ⟨-, -, c3⟩, -⟩ := pic_fn h6 hnc hp
  obtain ⟨⟨d1, d2⟩, ⟨-, -, d3⟩, -⟩ := pic_fn h6 hnc hq
  unfold w_X6_mostOf
  rw [nI_clamp (show p < 2 ^ 31 by omega), nI_clamp (show q < 2 ^ 31 by omega), c2, d2, c3, d3, ix8_c (show cmN (σ.2 1) q < 8 by omega) (show cmN (σ.2 1) p < 8 by omega), hR _ _ (by omega) (by omega), iI_sub, iI_add]
  have ip : vp_in (nI p) 120 := vp_in_nI (by omega) (by omega)
  have iq : vp_in (nI q) 120 := vp_in_nI (by omega) (by omega)
  exact ⟨iq, ip, iq, ip, ix8_in (by omega) (by omega), hh⟩
def ordF (l m : Int) : Nat := if 0 < l then 1 else if m < 0 then 2 else if l = 0 ∧ m = 0 then 3 else 0
theorem ord_bd (h6 : RPic nc np n m1 m2 m3 m4 m0) (hnc : nc ≤ 8) (hT : Tight E T) (hp : p < n) (hq : q < n) : -600000 ≤ mst m1 m2 T p q ∧ mst m1 m2 T p q ≤ 600000 := by
  obtain ⟨⟨c1, c2⟩, ⟨c4, c5, c3⟩, -⟩ := pic_fn h6 hnc hp
  obtain ⟨⟨d1, d2⟩, ⟨d4, d5, d3⟩, -⟩ := pic_fn h6 hnc hq
  have := tight_bd hT (show cmN m1 q < 8 by omega) (show cmN m1 p < 8 by omega)
  unfold mst
  omega
theorem ord_tests {l m : Int} (hl : -600000 ≤ l ∧ l ≤ 600000) (hm : -600000 ≤ m ∧ m ≤ 600000) {P : Int32 → Prop} (h : P (nI (ordF l m))) : (iI l ≤ 0 → ((0 ≤ iI m → ((¬ iI l = 0 → P 0) ∧ (iI l = 0 → ((¬ iI m = 0 → P 0) ∧ (iI m = 0 → P 3))))) ∧ (¬ 0 ≤ iI m → P 2))) ∧ (¬ iI l ≤ 0 → P 1) := by
  have e0 : (0 : Int32) = iI 0 := rfl
  have k1 : iI l ≤ 0 ↔ l ≤ 0 := by rw [e0]; exact iI_le (by omega) (by omega) (by omega) (by omega)
  have k2 : 0 ≤ iI m ↔ 0 ≤ m := by rw [e0]; exact iI_le (by omega) (by omega) (by omega) (by omega)
  have k3 : iI l = 0 ↔ l = 0 := by rw [e0]; exact iI_eq (by omega) (by omega) (by omega) (by omega)
  have k4 : iI m = 0 ↔ m = 0 := by rw [e0]; exact iI_eq (by omega) (by omega) (by omega) (by omega)
  rw [k1, k2, k3, k4]
  unfold ordF at h
  refine ⟨fun q => ⟨fun r => ⟨fun s => ?_, fun s => ⟨fun t => ?_, fun t => ?_⟩⟩, fun r => ?_⟩, fun q => ?_⟩
  · rw [if_neg (by omega), if_neg (by omega), if_neg (by omega)] at h; exact h
  · rw [if_neg (by omega), if_neg (by omega), if_neg (by omega)] at h; exact h
  · rw [if_neg (by omega), if_neg (by omega), if_pos ⟨s, t⟩] at h; exact h
  · rw [if_neg (by omega), if_pos (by omega)] at h; exact h
  · rw [if_pos (by omega)] at h; exact h
theorem s_sure (h6 : RPic nc np n m1 m2 m3 m4 m0) (hnc : nc ≤ 8) (hn : n ≤ 120) (e1 : σ.2 0 = m1) (e2 : σ.2 1 = m2) (hT : Tight E T) (hR : RM (σ.2 16) (neg T)) (hp : p < n) (hq : q < n) (hh : ∀ τ, KX σ τ → post (nI (ordF (lst m1 m2 T p q) (mst m1 m2 T p q))) τ) : w_X5_sureOrder σ (nI p) (nI q) post := by
  unfold w_X5_sureOrder
  refine s_leastB h6 hnc hn e1 e2 hR hp hq (fun τ hk => ?_)
  refine s_mostB h6 hnc hn (by rw [hk.2 0 (by decide) (by decide) (by decide)]; exact e1) (by rw [hk.2 1 (by decide) (by decide) (by decide)]; exact e2) (by rw [hk.2 16 (by decide) (by decide) (by decide)]; exact hR) hp hq (fun τ2 hk2 => ?_)
  have b1 := ord_bd h6 hnc hT hp hq
  have b2 := ord_bd h6 hnc hT hq hp
  have e := mst_lst m1 m2 T p q
  exact ord_tests (P := fun r => post r τ2) (by omega) b1 (hh τ2 (hk.trans hk2))
theorem s_ordOf (h6 : RPic nc np n (σ.2 1) (σ.2 2) m3 m4 m0) (hnc : nc ≤ 8) (hn : n ≤ 120) (hT : Tight E T) (hR : RM (σ.2 10) T) (hp : p < n) (hq : q < n) (hh : post (nI (ordF (lst (σ.2 1) (σ.2 2) T p q) (mst (σ.2 1) (σ.2 2) T p q))) σ) : w_X6_orderOf σ (nI p) (nI q) post := by
  unfold w_X6_orderOf
  refine s_mostOf h6 hnc hn hR hp hq (s_mostOf h6 hnc hn hR hq hp ?_)
  rw [iI_neg, ← mst_lst]
  have b1 := ord_bd h6 hnc hT hp hq
  have b2 := ord_bd h6 hnc hT hq hp
  have e := mst_lst (σ.2 1) (σ.2 2) T p q
  exact ord_tests (P := fun r => post r σ) (by omega) b1 hh
end ORD
theorem st_between (j : Nat) (σx σm : St) (y0 y1 : Int32) (hj : j < 512) (h : Rel j σx σm) (z : Int32) (hz : z = 0 ∨ z = 1) : w_X5_between σx y0 y1 z (fun r u => w_X6_between σm y0 y1 z (fun r2 u2 => r = r2 ∧ Rel (j + 1) u u2)) := by
  have h0 := h.z 0
  obtain ⟨nc, np, n, nt, ne, h⟩ := h
  obtain ⟨⟨b1, b2, b3, b4, b5⟩, hx, hm, h4, h5, h6, h7, h8⟩ := id h
  obtain ⟨T, E, hRM, hT, hcl⟩ := rel_T h
  have hn : n < 2 ^ 31 := by omega
  unfold w_X5_between w_X6_between
  rcases ix_cases y0 hn with q | ⟨p, hp, rfl⟩
  · exact has0_n hx.2.2.1 q ⟨fun _ => isPi_n (σ := (va_up σm.1 0 0, σm.2)) hm.2.2.1 q ⟨fun _ => ⟨rfl, h0⟩, fun e => absurd rfl e⟩, fun e => absurd rfl e⟩
  rcases ix_cases y1 hn with q | ⟨q, hq, rfl⟩
  · exact has0_y hx.2.2.1 hp hn ⟨fun e => absurd e (by decide), fun _ => has0_n hx.2.2.1 q ⟨fun e => absurd rfl e, fun _ => isPi_y (σ := (va_up σm.1 0 0, σm.2)) hm.2.2.1 hp hn ⟨fun e => absurd e (by decide), fun _ => isPi_n (σ := (va_up σm.1 0 0, σm.2)) hm.2.2.1 q ⟨fun e => absurd rfl e, fun _ => ⟨rfl, h0⟩⟩⟩⟩⟩
  have ref : ∀ (P : Int32 → St → Prop), (∀ τ, KM (va_up σm.1 0 0, σm.2) τ → RM (τ.2 10) T → (z = 0 → P (iI (- mst (σm.2 1) (σm.2 2) T q p)) τ) ∧ (¬ z = 0 → P (iI (mst (σm.2 1) (σm.2 2) T p q)) τ)) → w_X6_isPicture ((va_up σm.1 0 0), σm.2) (nI p) (fun r_1 u_2 => ((r_1 = 0 → P (-1000000) u_2) ∧ (¬ r_1 = 0 → w_X6_isPicture u_2 (nI q) (fun r_4 u_5 => ((¬ r_4 = 0 → w_X6_closed_a10 u_5 (-1) (fun r_7 u_8 => ((z = 0 → w_X6_mostOf u_8 (nI q) (nI p) (fun r_10 u_11 => P (-r_10) u_11)) ∧ (¬ z = 0 → w_X6_mostOf u_8 (nI p) (nI q) (fun r_12 u_13 => P r_12 u_13))))) ∧ (r_4 = 0 → P (-1000000) u_5)))))) := by
    intro P hP
    refine isPi_y (σ := (va_up σm.1 0 0, σm.2)) hm.2.2.1 hp hn ⟨fun e => absurd e (by decide), fun _ => isPi_y (σ := (va_up σm.1 0 0, σm.2)) hm.2.2.1 hq hn ⟨fun _ => hcl _ (fun τ hk hs hR => ?_), fun e => absurd e (by decide)⟩⟩
    have e1 : τ.2 1 = σm.2 1 := hk.2 1 (by decide)
    have e2 : τ.2 2 = σm.2 2 := hk.2 2 (by decide)
    have h6' : RPic nc np n (τ.2 1) (τ.2 2) (σm.2 3) (σm.2 4) (σm.2 0) := by rw [e1, e2]; exact h6
    obtain ⟨p1, p2⟩ := hP τ hk hR
    rw [← e1, ← e2] at p1 p2
    refine ⟨fun z0 => s_mostOf h6' b1 b3 hR hq hp ?_, fun z0 => s_mostOf h6' b1 b3 hR hp hq (p2 z0)⟩
    rw [iI_neg]
    exact p1 z0
  refine has0_y hx.2.2.1 hp hn ⟨fun e => absurd e (by decide), fun _ => has0_y hx.2.2.1 hq hn ⟨fun _ => ⟨fun z0 => ?_, fun z0 => ?_⟩, fun e => absurd e (by decide)⟩⟩
  · refine s_leastB h6 b1 b3 h5.1 h5.2.1 hRM hp hq (fun τx hkx => ref (fun r2 u2 => iI (lst (σm.2 1) (σm.2 2) T p q) = r2 ∧ Rel (j + 1) τx u2) (fun τ hk hR => ⟨fun _ => ⟨by rw [mst_lst], ?_⟩, fun e => absurd z0 e⟩))
    exact (h.keep hkx ((KM.z σm 0).trans hk)).rel
  · refine s_mostB h6 b1 b3 h5.1 h5.2.1 hRM hp hq (fun τx hkx => ref (fun r2 u2 => iI (mst (σm.2 1) (σm.2 2) T p q) = r2 ∧ Rel (j + 1) τx u2) (fun τ hk hR => ⟨fun e => absurd e z0, fun _ => ⟨rfl, ?_⟩⟩))
    exact (h.keep hkx ((KM.z σm 0).trans hk)).rel
theorem st_order (j : Nat) (σx σm : St) (y0 y1 : Int32) (hj : j < 512) (h : Rel j σx σm) : w_X5_order σx y0 y1 (fun r u => w_X6_order σm y0 y1 (fun r2 u2 => r = r2 ∧ Rel (j + 1) u u2)) := by
  have h0 := h.z 0
  obtain ⟨nc, np, n, nt, ne, h⟩ := h
  obtain ⟨⟨b1, b2, b3, b4, b5⟩, hx, hm, h4, h5, h6, h7, h8⟩ := id h
  obtain ⟨T, E, hRM, hT, hcl⟩ := rel_T h
  have hn : n < 2 ^ 31 := by omega
  unfold w_X5_order w_X6_order
  rcases ix_cases y0 hn with q | ⟨p, hp, rfl⟩
  · exact has0_n hx.2.2.1 q ⟨fun _ => isPi_n (σ := (va_up σm.1 0 0, σm.2)) hm.2.2.1 q ⟨fun _ => ⟨rfl, h0⟩, fun e => absurd rfl e⟩, fun e => absurd rfl e⟩
  rcases ix_cases y1 hn with q | ⟨q, hq, rfl⟩
  · exact has0_y hx.2.2.1 hp hn ⟨fun e => absurd e (by decide), fun _ => has0_n hx.2.2.1 q ⟨fun e => absurd rfl e, fun _ => isPi_y (σ := (va_up σm.1 0 0, σm.2)) hm.2.2.1 hp hn ⟨fun e => absurd e (by decide), fun _ => isPi_n (σ := (va_up σm.1 0 0, σm.2)) hm.2.2.1 q ⟨fun e => absurd rfl e, fun _ => ⟨rfl, h0⟩⟩⟩⟩⟩
  refine has0_y hx.2.2.1 hp hn ⟨fun e => absurd e (by decide), fun _ => has0_y hx.2.2.1 hq hn ⟨fun _ => s_sure h6 b1 b3 h5.1 h5.2.1 hT hRM hp hq (fun τx hkx => ?_), fun e => absurd e (by decide)⟩⟩
  refine isPi_y (σ := (va_up σm.1 0 0, σm.2)) hm.2.2.1 hp hn ⟨fun e => absurd e (by decide), fun _ => isPi_y (σ := (va_up σm.1 0 0, σm.2)) hm.2.2.1 hq hn ⟨fun _ => hcl _ (fun τ hk hs hR => ?_), fun e => absurd e (by decide)⟩⟩
  have e1 : τ.2 1 = σm.2 1 := hk.2 1 (by decide)
  have e2 : τ.2 2 = σm.2 2 := hk.2 2 (by decide)
  have h6' : RPic nc np n (τ.2 1) (τ.2 2) (σm.2 3) (σm.2 4) (σm.2 0) := by rw [e1, e2]; exact h6
  refine s_ordOf h6' b1 b3 hT hR hp hq ⟨by rw [e1, e2], ?_⟩
  exact (h.keep hkx ((KM.z σm 0).trans hk)).rel
