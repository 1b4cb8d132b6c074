/-! put of the reference -/
theorem m_J68 {E : Edg} {T U : Mat} {s : St} {c : Nat} {post : Int32 → St → Prop} {K : Int32 → St → Prop} {z : Int32} (hT : Tight E T) (hU : Tight (Fix E (oF T) c) U) (hR : RM (s.2 10) U) (hc : c < 8) (hz : z = iI (oF T c)) (hK : ∀ s' : St, s'.1 = s.1 → (∀ j, j ≠ 10 → j ≠ 16 → s'.2 j = s.2 j) → s'.2 16 = upd (s.2 16) c (iI (oF T c)) → RM (s'.2 10) (fws 8 (putM U c (oF T c))) → K (nI (c + 1)) s') : w_X6_put_J68 post K (nI c) z (nI c) s := by
  subst hz
  obtain ⟨g1, g2, -⟩ := fix_step hT hU hc
  have b1 := tight_bd hU hc (show 0 < 8 by omega)
  have b2 := tight_bd hU (show 0 < 8 by omega) hc
  have b3 := oF_bd hT hc
  have ic : vp_in (nI c) 8 := vp_in_nI hc (by omega)
  unfold w_X6_put_J68
  rw [nI_clamp (show c < 2 ^ 31 by omega), pk_us]
  refine ⟨ic, ic, s_least (b := 0) hR hc (by omega) rfl (by omega) (by omega) (fun f1 h1 => ⟨ic, s_least (a := 0) h1 (by omega) hc (iI_neg (oF T c)) (by omega) ?_ (fun f2 h2 => s_closes h2 g1 g2 (fun f3 h3 => ?_))⟩)⟩
  · unfold updM
    split <;> omega
  · rw [nI_1]
    refine hK _ rfl (fun j j1 j2 => ?_) ?_ ?_
    · show va_up (va_up (va_up (va_up s.2 16 (upd (s.2 16) c (iI (oF T c)))) 10 f1) 10 f2) 10 f3 j = s.2 j
      rw [va_up_ne _ _ j1, va_up_ne _ _ j1, va_up_ne _ _ j1, va_up_ne _ _ j2]
    · rfl
    · show RM (va_up (va_up (va_up (va_up s.2 16 (upd (s.2 16) c (iI (oF T c)))) 10 f1) 10 f2) 10 f3 10) _
      rw [va_up_self]
      exact h3
theorem m_put17 {E : Edg} {T : Mat} {base : St} {nc : Nat} {post : Int32 → St → Prop} {K : Int32 → St → Prop} (hT : Tight E T) (hnc : nc ≤ 8) (hs2 : base.1 2 = nI nc) (hK : ∀ x s, Same2 10 16 base s → (∀ c, c < nc → s.2 16 c = iI (oF T c)) → K x s) : ∀ (d c : Nat) (s : St) (U : Mat), c + d = nc → Same2 10 16 base s → (∀ e, e < c → s.2 16 e = iI (oF T e)) → RM (s.2 10) U → Tight (Fix E (oF T) c) U → w_X6_put_L17 post K (d + 1) (nI c) s := by
  intro d
  induction d with
  | zero =>
    intro c s U hc hs ho hR hU
    have e : c = nc := by omega
    subst e
    unfold w_X6_put_L17
    rw [hs.1, hs2]
    exact ⟨fun _ => hK _ s hs ho, fun q => absurd (nI_le (Nat.le_refl c) (by omega)) q⟩
  | succ d ih =>
    intro c s U hc hs ho hR hU
    have hc8 : c < 8 := by omega
    have e8 : (8 : Int32) * nI c = nI (8 * c) := by rw [show (8 : Int32) = nI 8 from rfl, pk_mul]
    have r1 := hR c 0 hc8 (by omega)
    have r2 := hR 0 c (by omega) hc8
    rw [show 8 * c + 0 = 8 * c by omega] at r1
    rw [show 8 * 0 + c = c by omega] at r2
    have hp := oF_part hT c (by omega)
    have b := lohi_bd hT hc8 (show c ≤ 8 by omega)
    have J : ∀ z, z = iI (oF T c) → w_X6_put_J68 post (fun x2 u => w_X6_put_L17 post K (d + 1) x2 u) (nI c) z (nI c) s := by
      intro z hz
      refine m_J68 hT hU hR hc8 hz (fun s' k1 k2 k3 k4 => ?_)
      refine ih (c + 1) s' _ (by omega) ⟨k1.trans hs.1, fun j j1 j2 => (k2 j j1 j2).trans (hs.2 j j1 j2)⟩ (fun e he => ?_) k4 (fix_step hT hU hc8).2.2
      rw [k3]
      by_cases q : e = c
      · rw [q]
        exact pk_us
      · rw [pk_un q]
        exact ho e (by omega)
    have e0 : (0 : Int32) = iI 0 := rfl
    have k1 : iI (loOf T (oF T) c c) ≤ 0 ↔ loOf T (oF T) c c ≤ 0 := by rw [e0]; exact iI_le (by omega) (by omega) (by omega) (by omega)
    have k2 : 0 ≤ iI (hiOf T (oF T) c c) ↔ 0 ≤ hiOf T (oF T) c c := by rw [e0]; exact iI_le (by omega) (by omega) (by omega) (by omega)
    have pe := oF_eq T c
    unfold pickI at pe
    unfold w_X6_put_L17
    rw [hs.1, hs2, e8, nI_clamp (show 8 * c < 2 ^ 31 by omega), nI_clamp (show c < 2 ^ 31 by omega), r1, r2, iI_neg, fix_lo hT hU (by omega) hc8 hp, fix_hi hT hU (by omega) hc8 hp, k1, k2]
    refine ⟨fun q => absurd q (nI_ge (by omega) (by omega)), fun _ => ⟨vp_in_nI (by omega) (by omega), vp_in_nI (by omega) (by omega), fun q => ⟨fun y => J _ ?_, fun y => J _ ?_⟩, fun q => J _ ?_⟩⟩
    · rw [if_neg (by omega), Int.min_eq_right (by omega)] at pe
      rw [pe]
      rfl
    · rw [if_neg (by omega), Int.min_eq_left (by omega)] at pe
      rw [pe]
    · rw [if_pos (by omega)] at pe
      rw [pe]
section ROWS
variable {base : St} {tm : Nat → Int} {cm : Nat → Nat} {post : Int32 → St → Prop}
theorem m_time {s : St} {p : Nat} {po : Int32 → St → Prop} (hp : p < 120) (cp : s.2 1 p = nI (cm p) ∧ cm p < 8) (tp : s.2 2 p + s.2 16 (cm p) = iI (tm p)) (hh : po (iI (tm p)) s) : w_X6_timeOf s (nI p) po := by
  unfold w_X6_timeOf
  rw [nI_clamp (show p < 2 ^ 31 by omega), cp.1, nI_clamp (show cm p < 2 ^ 31 by omega), tp]
  exact ⟨vp_in_nI hp (by omega), vp_in_nI hp (by omega), vp_in_nI cp.2 (by omega), hh⟩
theorem m_early {s : St} {p q : Nat} {po : Int32 → St → Prop} (hp : p < 120) (hq : q < p) (tp : s.2 2 p + s.2 16 (cm p) = iI (tm p)) (tq : s.2 2 q + s.2 16 (cm q) = iI (tm q)) (bp : -200000 ≤ tm p ∧ tm p ≤ 300000) (bq : -200000 ≤ tm q ∧ tm q ≤ 300000) (cp : s.2 1 p = nI (cm p) ∧ cm p < 8) (cq : s.2 1 q = nI (cm q) ∧ cm q < 8) (hh : po (cond (earB tm cm p q) 1 0) s) : w_X6_isEarlier s (nI p) (nI q) po := by
  have ip : vp_in (nI p) 120 := vp_in_nI hp (by omega)
  have iq : vp_in (nI q) 120 := vp_in_nI (by omega) (by omega)
  unfold w_X6_isEarlier
  refine m_time hp cp tp (m_time (by omega) cq tq ?_)
  rw [nI_clamp (show p < 2 ^ 31 by omega), nI_clamp (show q < 2 ^ 31 by omega), cp.1, cq.1, iI_eq (by omega) (by omega) (by omega) (by omega), iI_le (by omega) (by omega) (by omega) (by omega), nI_eq (show cm p < 2 ^ 31 by omega) (show cm q < 2 ^ 31 by omega), nI_leI (show cm q < 2 ^ 31 by omega) (show cm p < 2 ^ 31 by omega), nI_leI (show q < 2 ^ 31 by omega) (show p < 2 ^ 31 by omega)]
  unfold earB at hh
  refine ⟨fun z => ⟨ip, iq, fun y => ⟨fun x => ?_, fun x => absurd (Nat.le_of_lt hq) x⟩, fun y => ⟨ip, iq, fun x => ?_, fun x => ?_⟩⟩, fun z => ⟨fun y => ?_, fun y => ?_⟩⟩
  · rw [decide_eq_false (by omega)] at hh
    exact hh
  · rw [decide_eq_false (by omega)] at hh
    exact hh
  · rw [decide_eq_true (by omega)] at hh
    exact hh
  · rw [decide_eq_false (by omega)] at hh
    exact hh
  · rw [decide_eq_true (by omega)] at hh
    exact hh
theorem m_row142 {p : Nat} {r : Nat → Nat} (hp : p < 120) (hr : ∀ k, k < p → r k < p) (ht : ∀ q, q ≤ p → base.2 2 q + base.2 16 (cm q) = iI (tm q) ∧ -200000 ≤ tm q ∧ tm q ≤ 300000) (hc : ∀ q, q ≤ p → base.2 1 q = nI (cm q) ∧ cm q < 8) {K : Int32 → St → Prop} (hK : ∀ s, Same 17 base s → (∀ j, j < posF (fun k => earB tm cm p (r k)) p → s.2 17 j = nI (r j)) → (∀ j, posF (fun k => earB tm cm p (r k)) p < j → j ≤ p → s.2 17 j = nI (r (j - 1))) → K (nI (posF (fun k => earB tm cm p (r k)) p)) s) : ∀ (k : Nat) (s : St), k ≤ p → Same 17 base s → posF (fun k => earB tm cm p (r k)) k = posF (fun k => earB tm cm p (r k)) p → (∀ j, j < k → s.2 17 j = nI (r j)) → (∀ j, k < j → j ≤ p → s.2 17 j = nI (r (j - 1))) → w_X6_put_L142 (nI p) post K (k + 1) (nI k) s := by
  intro k
  induction k with
  | zero =>
    intro s hk hs hpos ha hb
    have e0 : posF (fun k => earB tm cm p (r k)) p = 0 := hpos.symm
    have hKs := hK s hs
    rw [e0] at hKs
    unfold w_X6_put_L142
    exact ⟨fun _ => hKs ha hb, fun z => absurd (by rw [nI_0]; decide) z⟩
  | succ k ih =>
    intro s hk hs hpos ha hb
    have hrk := hr k (by omega)
    have e1 : s.2 1 = base.2 1 := hs.2 1 (by decide)
    have e2 : s.2 2 = base.2 2 := hs.2 2 (by decide)
    have e16 : s.2 16 = base.2 16 := hs.2 16 (by decide)
    have tp := ht p (Nat.le_refl p)
    have tq := ht (r k) (by omega)
    have ep : posF (fun k => earB tm cm p (r k)) (k + 1) = cond (earB tm cm p (r k)) (posF (fun k => earB tm cm p (r k)) k) (k + 1) := rfl
    rw [ep] at hpos
    unfold w_X6_put_L142
    rw [nI_pred, nI_clamp (show k < 2 ^ 31 by omega), ha k (by omega), pk_m1]
    refine ⟨fun z => absurd z (nI_nle (by omega) (by omega)), fun _ => ⟨vp_in_nI (by omega) (by omega), m_early hp hrk (by rw [e2, e16]; exact tp.1) (by rw [e2, e16]; exact tq.1) tp.2 tq.2 (by rw [e1]; exact hc p (Nat.le_refl p)) (by rw [e1]; exact hc (r k) (by omega)) ?_⟩⟩
    cases h : earB tm cm p (r k) with
    | false =>
      rw [h] at hpos
      have hpos2 : posF (fun k => earB tm cm p (r k)) p = k + 1 := hpos.symm
      have hKs := hK s hs
      rw [hpos2] at hKs
      exact ⟨fun _ => hKs ha hb, fun z => absurd rfl z⟩
    | true =>
      rw [h] at hpos
      have hpos2 : posF (fun k => earB tm cm p (r k)) k = posF (fun k => earB tm cm p (r k)) p := hpos
      refine ⟨fun z => absurd z (by decide), fun _ => ⟨vp_in_nI (by omega) (by omega), vp_in_nI (by omega) (by omega), ?_⟩⟩
      rw [nI_clamp (show k + 1 < 2 ^ 31 by omega), ha k (by omega)]
      refine ih _ (by omega) (hs.trans (Same.up 17 s _)) hpos2 (fun j hj => ?_) (fun j hj hjp => ?_)
      · show va_up s.2 17 (upd (s.2 17) (k + 1) (nI (r k))) 17 j = nI (r j)
        rw [up_at, pk_un (by omega)]
        exact ha j (by omega)
      · show va_up s.2 17 (upd (s.2 17) (k + 1) (nI (r k))) 17 j = nI (r (j - 1))
        rw [up_at]
        by_cases z : j = k + 1
        · rw [z]
          exact pk_us
        · rw [pk_un z]
          exact hb j (by omega) hjp
theorem m_row132 {n : Nat} (hn : n ≤ 120) (hs4 : base.1 4 = nI n) (hc : ∀ q, q < n → base.2 1 q = nI (cm q) ∧ cm q < 8) (ht : ∀ q, q < n → base.2 2 q + base.2 16 (cm q) = iI (tm q) ∧ -200000 ≤ tm q ∧ tm q ≤ 300000) {K : Int32 → St → Prop} (hK : ∀ x s, Same 17 base s → (∀ i, i < n → s.2 17 i = nI (rowF tm cm n i)) → K x s) : ∀ (d p : Nat) (s : St), p + d = n → Same 17 base s → (∀ i, i < p → s.2 17 i = nI (rowF tm cm p i)) → w_X6_put_L132 post K (d + 1) (nI p) s := by
  intro d
  induction d with
  | zero =>
    intro p s hpn h1 h4
    have e : p = n := by omega
    subst e
    unfold w_X6_put_L132
    rw [h1.1, hs4]
    exact ⟨fun _ => hK _ s h1 h4, fun q => absurd (nI_le (Nat.le_refl p) (by omega)) q⟩
  | succ d ih =>
    intro p s hpn h1 h4
    have hpl : p < n := by omega
    have G := rowG_all tm cm p
    unfold w_X6_put_L132
    rw [h1.1, hs4]
    refine ⟨fun q => absurd q (nI_ge hpl (by omega)), fun _ => ⟨p + 1, ?_⟩⟩
    refine m_row142 (base := base) (tm := tm) (cm := cm) (r := rowF tm cm p) (by omega) G.1 (fun q hq => ht q (by omega)) (fun q hq => hc q (by omega)) (fun s' hs' ha hb => ?_) p s (Nat.le_refl p) h1 rfl h4 (fun j hj hjp => absurd hjp (by omega))
    have P1 := (pos_all (fun k => earB tm cm p (rowF tm cm p k)) p).1
    unfold w_X6_put_J182
    refine ⟨vp_in_nI (by omega) (by omega), ?_⟩
    rw [nI_1, nI_clamp (by omega)]
    refine ih (p + 1) _ (by omega) (hs'.trans (Same.up 17 s' _)) (fun i hi => ?_)
    show va_up s'.2 17 (upd (s'.2 17) (posF (fun k => earB tm cm p (rowF tm cm p k)) p) (nI p)) 17 i = nI (insF (fun k => earB tm cm p (rowF tm cm p k)) (rowF tm cm p) p i)
    rw [up_at]
    rcases Nat.lt_trichotomy i (posF (fun k => earB tm cm p (rowF tm cm p k)) p) with z | z | z
    · rw [ins_lt z, pk_un (by omega)]
      exact ha i z
    · rw [ins_eq z, z]
      exact pk_us
    · rw [ins_gt z, pk_un (by omega)]
      exact hb i z (by omega)
end ROWS
theorem m_put {E : Edg} {T : Mat} {σ : St} {nc np n : Nat} {m1 m2 m3 m4 m0 : Nat → Int32} (h6 : RPic nc np n m1 m2 m3 m4 m0) (hnc : nc ≤ 8) (hn : n ≤ 120) (hT : Tight E T) (hcl : ∀ post : Int32 → St → Prop, (∀ τ, KM (va_up σ.1 0 0, σ.2) τ → Same 10 (va_up σ.1 0 0, σ.2) τ → RM (τ.2 10) T → post 1 τ) → w_X6_closed_a10 (va_up σ.1 0 0, σ.2) (-1) post) (e1 : σ.2 1 = m1) (e2 : σ.2 2 = m2) (hs2 : σ.1 2 = nI nc) (hs4 : σ.1 4 = nI n) {post : Int32 → St → Prop}
    (hp : ∀ τ : St, τ.1 9 = nI n → τ.1 10 = nI nc → (∀ k, k ≠ 0 → k ≠ 9 → k ≠ 10 → τ.1 k = σ.1 k) → (∀ j, j ≠ 10 → j ≠ 16 → j ≠ 17 → τ.2 j = σ.2 j) → (∀ c, c < nc → τ.2 16 c = iI (oF T c)) → (∀ i, i < n → τ.2 17 i = nI (rowF (tmF m1 m2 T) (cmN m1) n i)) → post (nI n) τ) : w_X6_put σ post := by
  unfold w_X6_put
  refine hcl _ (fun τ _ hs hR => ⟨nc + 1, ?_⟩)
  have t2 : τ.1 2 = nI nc := by rw [hs.1]; exact hs2
  have t4 : τ.1 4 = nI n := by rw [hs.1]; exact hs4
  refine m_put17 (base := τ) hT hnc t2 (fun _ s h1 ho => ⟨n + 1, ?_⟩) nc 0 τ T (by omega) ⟨rfl, fun _ _ _ => rfl⟩ (fun e he => absurd he (Nat.not_lt_zero e)) hR (fix_0 _ hT)
  have s2 : s.1 2 = nI nc := by rw [h1.1]; exact t2
  have s4 : s.1 4 = nI n := by rw [h1.1]; exact t4
  have a1 : s.2 1 = m1 := by rw [h1.2 1 (by decide) (by decide), hs.2 1 (by decide)]; exact e1
  have a2 : s.2 2 = m2 := by rw [h1.2 2 (by decide) (by decide), hs.2 2 (by decide)]; exact e2
  rw [s2, s4]
  refine m_row132 (base := ((va_up (va_up s.1 10 (nI nc)) 9 (nI n)), s.2)) (tm := tmF m1 m2 T) (cm := cmN m1) hn s4 (fun q hq => ?_) (fun q hq => ?_) (fun _ u hu h4 => ?_) n 0 _ (by omega) (Same.refl 17 _) (fun i hi => absurd hi (Nat.not_lt_zero i))
  · obtain ⟨⟨c1, c2⟩, -⟩ := pic_fn h6 hnc hq
    show s.2 1 q = _ ∧ _
    rw [a1]
    exact ⟨c2, by omega⟩
  · obtain ⟨⟨c1, c2⟩, ⟨c3, c4, c5⟩, -⟩ := pic_fn h6 hnc hq
    have b := oF_bd hT (show cmN m1 q < 8 by omega)
    show s.2 2 q + s.2 16 (cmN m1 q) = _ ∧ _
    have e : s.2 2 q = iI (ckI m2 q) := by rw [a2]; exact c5
    rw [e, ho (cmN m1 q) c1, iI_add]
    unfold tmF
    exact ⟨rfl, by omega, by omega⟩
  · have u9 : u.1 9 = nI n := by rw [hu.1]; rfl
    rw [u9]
    refine hp u u9 ?_ (fun k k0 k9 k10 => ?_) (fun j j10 j16 j17 => ?_) (fun c hc => ?_) h4
    · rw [hu.1]
      rfl
    · rw [hu.1]
      show va_up (va_up s.1 10 (nI nc)) 9 (nI n) k = σ.1 k
      rw [va_up_ne _ _ k9, va_up_ne _ _ k10, h1.1, hs.1]
      exact va_up_ne _ _ k0
    · rw [hu.2 j j17]
      show s.2 j = σ.2 j
      rw [h1.2 j j10 j16, hs.2 j j10]
    · rw [hu.2 16 (by decide)]
      exact ho c hc
theorem st_put (j : Nat) (σx σm : St) (hj : j < 512) (h : Rel j σx σm) : w_X5_put σx (fun r u => w_X6_put σm (fun r2 u2 => r = r2 ∧ Rel (j + 1) u u2)) := by
  obtain ⟨nc, np, n, nt, ne, h⟩ := h
  obtain ⟨⟨b1, b2, b3, b4, b5⟩, hx, hm, h4, h5, h6, h7, h8⟩ := id h
  obtain ⟨T, E, hRM, hT, hcl⟩ := rel_T h
  refine x_put h6 b1 b3 hT hRM h5.1 h5.2.1 hx.1 hx.2.2.1 (fun τx x8 x9 x10 xk xa xo xt xr => ?_)
  refine m_put h6 b1 b3 hT hcl rfl rfl hm.1 hm.2.2.1 (fun τm y9 y10 yk ya yo yr => ⟨rfl, ?_⟩)
  have G := rowG_all (tmF (σm.2 1) (σm.2 2) T) (cmN (σm.2 1)) n
  refine ⟨nc, np, n, nt, ne, ⟨b1, b2, b3, b4, by omega⟩, ?_, ?_, ?_, ?_, ?_, ?_, Or.inr ⟨n, nc, oF T, rowF (tmF (σm.2 1) (σm.2 2) T) (cmN (σm.2 1)) n, tmF (σm.2 1) (σm.2 2) T, cmN (σm.2 1), Nat.le_refl n, Nat.le_refl nc, x8, x9, x10, y9, y10, ?_⟩⟩
  · rw [xk 0 (by decide) (by decide) (by decide), xk 5 (by decide) (by decide) (by decide), xk 4 (by decide) (by decide) (by decide), xk 6 (by decide) (by decide) (by decide), xk 7 (by decide) (by decide) (by decide)]
    exact hx
  · rw [yk 2 (by decide) (by decide) (by decide), yk 3 (by decide) (by decide) (by decide), yk 4 (by decide) (by decide) (by decide), yk 5 (by decide) (by decide) (by decide), yk 6 (by decide) (by decide) (by decide)]
    exact hm
  · rw [yk 7 (by decide) (by decide) (by decide), yk 1 (by decide) (by decide) (by decide), yk 8 (by decide) (by decide) (by decide), xk 1 (by decide) (by decide) (by decide), xk 2 (by decide) (by decide) (by decide), xk 3 (by decide) (by decide) (by decide)]
    exact h4
  · rw [xa 0 (by decide) (by decide) (by decide), xa 1 (by decide) (by decide) (by decide), xa 2 (by decide) (by decide) (by decide), xa 3 (by decide) (by decide) (by decide), xa 4 (by decide) (by decide) (by decide), ya 0 (by decide) (by decide) (by decide), ya 1 (by decide) (by decide) (by decide), ya 2 (by decide) (by decide) (by decide), ya 3 (by decide) (by decide) (by decide), ya 4 (by decide) (by decide) (by decide)]
    exact h5
  · rw [ya 0 (by decide) (by decide) (by decide), ya 1 (by decide) (by decide) (by decide), ya 2 (by decide) (by decide) (by decide), ya 3 (by decide) (by decide) (by decide), ya 4 (by decide) (by decide) (by decide)]
    exact h6
  · rw [xa 5 (by decide) (by decide) (by decide), xa 6 (by decide) (by decide) (by decide), xa 7 (by decide) (by decide) (by decide), xa 8 (by decide) (by decide) (by decide), xa 9 (by decide) (by decide) (by decide), xa 16 (by decide) (by decide) (by decide), ya 1 (by decide) (by decide) (by decide), ya 2 (by decide) (by decide) (by decide), ya 5 (by decide) (by decide) (by decide), ya 6 (by decide) (by decide) (by decide), ya 7 (by decide) (by decide) (by decide), ya 8 (by decide) (by decide) (by decide), ya 9 (by decide) (by decide) (by decide)]
    exact h7
  · rw [ya 1 (by decide) (by decide) (by decide), ya 2 (by decide) (by decide) (by decide)]
    refine ⟨fun c hc => ⟨xo c hc, yo c hc, oF_bd hT (by omega)⟩, fun p hp => ?_, fun i hi => ⟨G.1 i hi, xr i hi, yr i hi⟩, G.2.1, G.2.2⟩
    obtain ⟨⟨c1, c2⟩, ⟨c3, c4, c5⟩, -⟩ := pic_fn h6 b1 hp
    exact ⟨c1, c2, xt p hp, ckI (σm.2 2) p, c3, c4, c5, rfl⟩
