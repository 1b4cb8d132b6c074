/-! put of the class -/
theorem up_id {α : Type} (f : Nat → α) (k : Nat) : va_up f k (f k) = f := by
  funext j
  by_cases q : j = k
  · rw [q, va_up_self]
  · rw [va_up_ne _ _ q]
theorem pick_I {lo hi : Int} {x4 x5 : Int32} (h4 : x4 = iI lo) (h5 : x5 = iI hi) (hl : -1000000 ≤ lo ∧ lo ≤ 1000000) (hh : -1000000 ≤ hi ∧ hi ≤ 1000000) {P : Int32 → Prop} (h : P (iI (pickI lo hi))) : (x4 ≤ 0 → P (if 0 < x5 then 0 else x5)) ∧ (¬ x4 ≤ 0 → P x4) := by
  subst h4
  subst h5
  have e0 : (0 : Int32) = iI 0 := rfl
  have k1 : iI lo ≤ 0 ↔ lo ≤ 0 := by rw [e0]; exact iI_le (by omega) (by omega) (by omega) (by omega)
  have k2 : (if (0 : Int32) < iI hi then (0 : Int32) else iI hi) = iI (min hi 0) := by rw [e0]; exact iI_min (by omega) (by omega) (by omega) (by omega)
  rw [k1, k2]
  unfold pickI at h
  refine ⟨fun q => ?_, fun q => ?_⟩
  · rw [if_neg (by omega)] at h
    exact h
  · rw [if_pos (by omega)] at h
    exact h
section SETTLE
variable {E : Edg} {T : Mat} {base : St} {post : St → Prop}
theorem x_set46 (hT : Tight E T) (hR : RM (base.2 16) (neg T)) {c : Nat} (hc : c < 8) {s : St} (hs : Same 12 base s) (ho : ∀ e, e < c → s.2 12 e = iI (oF T e)) {K : Int32 → Int32 → Int32 → St → Prop} (hK : ∀ x, K (iI (loOf T (oF T) c c)) (iI (hiOf T (oF T) c c)) x s) : ∀ (d e : Nat), e + d = c → w_X4_settle_a6_L46 (nI c) post K (d + 1) (iI (loOf T (oF T) c e)) (iI (hiOf T (oF T) c e)) (nI e) s := by
  have hRs : RM (s.2 16) (neg T) := by rw [hs.2 16 (by decide)]; exact hR
  intro d
  induction d with
  | zero =>
    intro e he
    have q : e = c := by omega
    subst q
    unfold w_X4_settle_a6_L46
    exact ⟨fun _ => hK _, fun q => absurd (nI_le (Nat.le_refl e) (by omega)) q⟩
  | succ d ih =>
    intro e he
    have he8 : e < 8 := by omega
    have hg := ih (e + 1) (by omega)
    have b1 := lohi_bd hT hc (show e ≤ 8 by omega)
    have b2 := oF_bd hT he8
    have b3 := tight_bd hT he8 hc
    have b4 := tight_bd hT hc he8
    unfold w_X4_settle_a6_L46
    refine ⟨fun q => absurd q (nI_ge (by omega) (by omega)), fun _ => ⟨vp_in_nI he8 (by omega), x_least hRs he8 hc ⟨vp_in_nI he8 (by omega), x_most hRs he8 hc ?_⟩⟩⟩
    rw [nI_clamp (show e < 2 ^ 31 by omega), ho e (by omega), iI_add, iI_add, iI_max (by omega) (by omega) (by omega) (by omega), iI_min (by omega) (by omega) (by omega) (by omega), nI_1, up_id, up_id]
    exact hg
theorem x_set19 (hT : Tight E T) (hR : RM (base.2 16) (neg T)) {nc : Nat} (hnc : nc ≤ 8) (hs10 : base.1 10 = nI nc) {K : Int32 → St → Prop} (hK : ∀ x s, Same 12 base s → (∀ c, c < nc → s.2 12 c = iI (oF T c)) → K x s) : ∀ (d c : Nat) (s : St), nc ≤ c + d → 1 ≤ c → c ≤ 9 → Same 12 base s → (∀ e, e < c → e < 8 → s.2 12 e = iI (oF T e)) → w_X4_settle_a6_L19 post K (d + 1) (nI c) s := by
  have fin : ∀ (n c : Nat) (s : St), nc ≤ c → c ≤ 9 → Same 12 base s → (∀ e, e < c → e < 8 → s.2 12 e = iI (oF T e)) → w_X4_settle_a6_L19 post K (n + 1) (nI c) s := by
    intro n c s h1 h9 hs ho
    unfold w_X4_settle_a6_L19
    rw [hs.1, hs10]
    exact ⟨fun _ => hK _ s hs (fun e he => ho e (by omega) (by omega)), fun q => absurd (nI_le h1 (by omega)) q⟩
  intro d
  induction d with
  | zero => exact fun c s h1 _ h9 hs ho => fin 0 c s h1 h9 hs ho
  | succ d ih =>
    intro c s h1 h2 h9 hs ho
    by_cases q : nc ≤ c
    · exact fin (d + 1) c s q h9 hs ho
    · have hc : c < 8 := by omega
      have hRs : RM (s.2 16) (neg T) := by rw [hs.2 16 (by decide)]; exact hR
      unfold w_X4_settle_a6_L19
      rw [hs.1, hs10]
      refine ⟨fun z => absurd z (nI_ge (by omega) (by omega)), fun _ => x_least (a := 0) hRs (by omega) hc (x_most (a := 0) hRs (by omega) hc ⟨c, ?_⟩)⟩
      rw [up_id, up_id]
      have l1 : loOf T (oF T) c 1 = - T 0 c := by
        show max (- T 0 c) (oF T 0 - T 0 c) = - T 0 c
        rw [oF_0 hT]
        omega
      have l2 : hiOf T (oF T) c 1 = T c 0 := by
        show min (T c 0) (oF T 0 + T c 0) = T c 0
        rw [oF_0 hT]
        omega
      have b1 := lohi_bd hT hc (show c ≤ 8 by omega)
      have g := x_set46 (post := post) (base := base) (s := s) (K := fun x4 x5 _ s_21 => ((x4 ≤ 0 → (vp_in (nI c) 8 ∧ w_X4_settle_a6_L19 post K (d + 1) (nI c + 1) (s_21.1, (va_up s_21.2 12 (upd (s_21.2 12) (Int32.toNatClampNeg (nI c)) (if 0 < x5 then 0 else x5)))))) ∧ (¬ x4 ≤ 0 → (vp_in (nI c) 8 ∧ w_X4_settle_a6_L19 post K (d + 1) (nI c + 1) (s_21.1, (va_up s_21.2 12 (upd (s_21.2 12) (Int32.toNatClampNeg (nI c)) x4))))))) hT hR hc hs (fun e he => ho e he (by omega)) (fun _ => ?_) (c - 1) 1 (by omega)
      · rw [l1, l2, show c - 1 + 1 = c by omega] at g
        have e1 : s.1 = base.1 := hs.1
        rw [← e1]
        exact g
      · refine pick_I (P := fun v => vp_in (nI c) 8 ∧ w_X4_settle_a6_L19 post K (d + 1) (nI c + 1) (s.1, (va_up s.2 12 (upd (s.2 12) (Int32.toNatClampNeg (nI c)) v)))) rfl rfl (by omega) (by omega) ⟨vp_in_nI hc (by omega), ?_⟩
        rw [nI_1, nI_clamp (show c < 2 ^ 31 by omega), ← oF_eq]
        refine ih (c + 1) _ (by omega) (by omega) (by omega) (hs.trans (Same.up 12 s _)) (fun e he he8 => ?_)
        show va_up s.2 12 (upd (s.2 12) c (iI (oF T c))) 12 e = iI (oF T e)
        rw [up_at]
        by_cases z : e = c
        · rw [z]
          exact pk_us
        · rw [pk_un z]
          exact ho e (by omega) he8
theorem x_settle {σ : St} (hT : Tight E T) (hR : RM (σ.2 16) (neg T)) {nc : Nat} (hnc : nc ≤ 8) (hp : ∀ s, Same 12 ((va_up (va_up σ.1 8 1) 10 (nI nc)), σ.2) s → (∀ c, c < nc → s.2 12 c = iI (oF T c)) → post s) : w_X4_settle_a6 σ (nI nc) post := by
  unfold w_X4_settle_a6
  refine ⟨vp_in_nI (show 0 < 8 by omega) (by omega), nc + 1, ?_⟩
  refine x_set19 (base := ((va_up (va_up σ.1 8 1) 10 (nI nc)), σ.2)) hT hR hnc (show va_up (va_up σ.1 8 1) 10 (nI nc) 10 = nI nc from va_up_self _ _ _) (fun _ s h1 h2 => hp s h1 h2) nc 1 _ (by omega) (by omega) (by omega) (Same.up 12 ((va_up (va_up σ.1 8 1) 10 (nI nc)), σ.2) _) (fun e he _ => ?_)
  have z : e = 0 := by omega
  subst z
  show va_up σ.2 12 (upd (σ.2 12) (Int32.toNatClampNeg 0) 0) 12 0 = iI (oF T 0)
  rw [up_at, oF_0 hT]
  exact pk_us
end SETTLE
section LINE
variable {base : St} {tm : Nat → Int} {cm : Nat → Nat} {post : St → Prop}
theorem x_after {s : St} {p q : Nat} {po : Int32 → St → Prop} (hp : p < 120) (hq : q < 120) (tp : s.2 13 p = iI (tm p)) (tq : s.2 13 q = iI (tm q)) (bp : -200000 ≤ tm p ∧ tm p ≤ 300000) (bq : -200000 ≤ tm q ∧ tm q ≤ 300000) (cp : s.2 0 p = nI (cm p) ∧ cm p < 8) (cq : s.2 0 q = nI (cm q) ∧ cm q < 8) (hh : po (cond (earB tm cm p q) 1 0) s) : w_X4_comesAfter s (nI q) (nI p) po := by
  have ip : vp_in (nI p) 120 := vp_in_nI hp (by omega)
  have iq : vp_in (nI q) 120 := vp_in_nI hq (by omega)
  unfold w_X4_comesAfter
  rw [nI_clamp (show p < 2 ^ 31 by omega), nI_clamp (show q < 2 ^ 31 by omega), tp, tq, cp.1, cq.1, iI_eq (by omega) (by omega) (by omega) (by omega), iI_le (by omega) (by omega) (by omega) (by omega), nI_leI (show cm q < 2 ^ 31 by omega) (show cm p < 2 ^ 31 by omega)]
  unfold earB at hh
  refine ⟨iq, ip, fun z => ⟨iq, ip, fun y => ?_, fun y => ?_⟩, fun z => ⟨iq, ip, fun y => ?_, fun y => ?_⟩⟩
  · rw [decide_eq_false (by omega)] at hh
    exact hh
  · rw [decide_eq_true (by omega)] at hh
    exact hh
  · rw [decide_eq_false (by omega)] at hh
    exact hh
  · rw [decide_eq_true (by omega)] at hh
    exact hh
theorem x_line44 {p : Nat} {r : Nat → Nat} (hp : p < 120) (hr : ∀ k, k < p → r k < p) (ht : ∀ q, q ≤ p → base.2 13 q = iI (tm q) ∧ -200000 ≤ tm q ∧ tm q ≤ 300000) (hc : ∀ q, q ≤ p → base.2 0 q = nI (cm q) ∧ cm q < 8) {K : Int32 → St → Prop} (hK : ∀ s, Same 14 base s → (∀ j, j < posF (fun k => earB tm cm p (r k)) p → s.2 14 j = nI (r j)) → (∀ j, posF (fun k => earB tm cm p (r k)) p < j → j ≤ p → s.2 14 j = nI (r (j - 1))) → K (nI (posF (fun k => earB tm cm p (r k)) p)) s) : ∀ (k : Nat) (s : St), k ≤ p → Same 14 base s → posF (fun k => earB tm cm p (r k)) k = posF (fun k => earB tm cm p (r k)) p → (∀ j, j < k → s.2 14 j = nI (r j)) → (∀ j, k < j → j ≤ p → s.2 14 j = nI (r (j - 1))) → w_X4_line_L44 (nI p) post K (k + 1) (nI k) s := by
  intro k
  induction k with
  | zero =>
    intro s hk hs hpos ha hb
    have e0 : posF (fun k => earB tm cm p (r k)) p = 0 := hpos.symm
    have hKs := hK s hs
    rw [e0] at hKs
    unfold w_X4_line_L44
    exact ⟨fun _ => hKs ha hb, fun z => absurd (by rw [nI_0]; decide) z⟩
  | succ k ih =>
    intro s hk hs hpos ha hb
    have hrk := hr k (by omega)
    have e13 : s.2 13 = base.2 13 := hs.2 13 (by decide)
    have e0 : s.2 0 = base.2 0 := hs.2 0 (by decide)
    have tp := ht p (Nat.le_refl p)
    have tq := ht (r k) (by omega)
    have ep : posF (fun k => earB tm cm p (r k)) (k + 1) = cond (earB tm cm p (r k)) (posF (fun k => earB tm cm p (r k)) k) (k + 1) := rfl
    rw [ep] at hpos
    unfold w_X4_line_L44
    rw [nI_pred, nI_clamp (show k < 2 ^ 31 by omega), ha k (by omega), pk_m1]
    refine ⟨fun z => absurd z (nI_nle (by omega) (by omega)), fun _ => ⟨vp_in_nI (by omega) (by omega), x_after hp (by omega) (by rw [e13]; exact tp.1) (by rw [e13]; exact tq.1) tp.2 tq.2 (by rw [e0]; exact hc p (Nat.le_refl p)) (by rw [e0]; exact hc (r k) (by omega)) ?_⟩⟩
    cases h : earB tm cm p (r k) with
    | false =>
      rw [h] at hpos
      have hpos2 : posF (fun k => earB tm cm p (r k)) p = k + 1 := hpos.symm
      have hKs := hK s hs
      rw [hpos2] at hKs
      exact ⟨fun _ => hKs ha hb, fun z => absurd rfl z⟩
    | true =>
      rw [h] at hpos
      have hpos2 : posF (fun k => earB tm cm p (r k)) k = posF (fun k => earB tm cm p (r k)) p := hpos
      refine ⟨fun z => absurd z (by decide), fun _ => ⟨vp_in_nI (by omega) (by omega), vp_in_nI (by omega) (by omega), ?_⟩⟩
      rw [nI_clamp (show k + 1 < 2 ^ 31 by omega), ha k (by omega)]
      refine ih _ (by omega) (hs.trans (Same.up 14 s _)) hpos2 (fun j hj => ?_) (fun j hj hjp => ?_)
      · show va_up s.2 14 (upd (s.2 14) (k + 1) (nI (r k))) 14 j = nI (r j)
        rw [up_at, pk_un (by omega)]
        exact ha j (by omega)
      · show va_up s.2 14 (upd (s.2 14) (k + 1) (nI (r k))) 14 j = nI (r (j - 1))
        rw [up_at]
        by_cases z : j = k + 1
        · rw [z]
          exact pk_us
        · rw [pk_un z]
          exact hb j (by omega) hjp
theorem x_line {u : St} {n : Nat} (hn : n ≤ 120) (hs4 : u.1 4 = nI n) (hc : ∀ q, q < n → u.2 0 q = nI (cm q) ∧ cm q < 8) (ht : ∀ q, q < n → u.2 1 q + u.2 12 (cm q) = iI (tm q) ∧ -200000 ≤ tm q ∧ tm q ≤ 300000) (hp : ∀ s, s.1 = va_up u.1 9 (nI n) → (∀ j, j ≠ 13 → j ≠ 14 → s.2 j = u.2 j) → (∀ q, q < n → s.2 13 q = iI (tm q)) → (∀ i, i < n → s.2 14 i = nI (rowF tm cm n i)) → post s) : w_X4_line u post := by
  unfold w_X4_line
  rw [hs4]
  have O : ∀ (d p : Nat) (s : St), p + d = n → s.1 = va_up u.1 9 (nI n) → (∀ j, j ≠ 13 → j ≠ 14 → s.2 j = u.2 j) → (∀ q, q < p → s.2 13 q = iI (tm q)) → (∀ i, i < p → s.2 14 i = nI (rowF tm cm p i)) → w_X4_line_L10 post (fun _ s => post s) (d + 1) (nI p) s := by
    intro d
    induction d with
    | zero =>
      intro p s hpn h1 h2 h3 h4
      have e : p = n := by omega
      subst e
      unfold w_X4_line_L10
      rw [h1, va_up_self]
      exact ⟨fun _ => hp s h1 h2 h3 h4, fun q => absurd (nI_le (Nat.le_refl p) (by omega)) q⟩
    | succ d ih =>
      intro p s hpn h1 h2 h3 h4
      have hpl : p < n := by omega
      have ip : vp_in (nI p) 120 := vp_in_nI (by omega) (by omega)
      have cp := hc p hpl
      have G := rowG_all tm cm p
      unfold w_X4_line_L10
      have h19 : s.1 9 = nI n := by rw [h1, va_up_self]
      rw [h19, nI_clamp (show p < 2 ^ 31 by omega), h2 0 (by decide) (by decide), h2 1 (by decide) (by decide), h2 12 (by decide) (by decide), cp.1, nI_clamp (show cm p < 2 ^ 31 by omega), (ht p hpl).1]
      refine ⟨fun q => absurd q (nI_ge hpl (by omega)), fun _ => ⟨ip, ip, vp_in_nI cp.2 (by omega), ip, p + 1, ?_⟩⟩
      have b13 : ∀ q, q ≤ p → (s.1, va_up s.2 13 (upd (s.2 13) p (iI (tm p)))).2 13 q = iI (tm q) := by
        intro q hq
        show va_up s.2 13 (upd (s.2 13) p (iI (tm p))) 13 q = iI (tm q)
        rw [up_at]
        by_cases z : q = p
        · rw [z]
          exact pk_us
        · rw [pk_un z]
          exact h3 q (by omega)
      have bo : ∀ j, j ≠ 13 → (s.1, va_up s.2 13 (upd (s.2 13) p (iI (tm p)))).2 j = s.2 j := fun j hj => va_up_ne _ _ hj
      refine x_line44 (base := (s.1, va_up s.2 13 (upd (s.2 13) p (iI (tm p))))) (tm := tm) (cm := cm) (r := rowF tm cm p) (by omega) G.1 (fun q hq => ⟨b13 q hq, (ht q (by omega)).2⟩) (fun q hq => by rw [bo 0 (by decide), h2 0 (by decide) (by decide)]; exact hc q (by omega)) (fun s' hs' ha hb => ?_) p _ (Nat.le_refl p) (Same.refl 14 _) rfl (fun j hj => by rw [bo 14 (by decide)]; exact h4 j hj) (fun j hj hjp => absurd hjp (by omega))
      have P1 := (pos_all (fun k => earB tm cm p (rowF tm cm p k)) p).1
      unfold w_X4_line_J85
      refine ⟨vp_in_nI (by omega) (by omega), ?_⟩
      rw [nI_1, nI_clamp (by omega)]
      refine ih (p + 1) _ (by omega) ?_ (fun j j1 j2 => ?_) (fun q hq => ?_) (fun i hi => ?_)
      · show s'.1 = _
        rw [hs'.1]
        exact h1
      · show va_up s'.2 14 _ j = u.2 j
        rw [va_up_ne _ _ j2, hs'.2 j j2, bo j j1]
        exact h2 j j1 j2
      · show va_up s'.2 14 (upd (s'.2 14) (posF (fun k => earB tm cm p (rowF tm cm p k)) p) (nI p)) 13 q = iI (tm q)
        rw [va_up_ne _ _ (by decide), hs'.2 13 (by decide)]
        exact b13 q (by omega)
      · show va_up s'.2 14 (upd (s'.2 14) (posF (fun k => earB tm cm p (rowF tm cm p k)) p) (nI p)) 14 i = nI (insF (fun k => earB tm cm p (rowF tm cm p k)) (rowF tm cm p) p i)
        rw [up_at]
        rcases Nat.lt_trichotomy i (posF (fun k => earB tm cm p (rowF tm cm p k)) p) with z | z | z
        · rw [ins_lt z, pk_un (by omega)]
          exact ha i z
        · rw [ins_eq z, z]
          exact pk_us
        · rw [ins_gt z, pk_un (by omega)]
          exact hb i z (by omega)
  exact ⟨n + 1, O n 0 _ (by omega) rfl (fun _ _ _ => rfl) (fun q hq => absurd hq (Nat.not_lt_zero q)) (fun i hi => absurd hi (Nat.not_lt_zero i))⟩
end LINE
/-- times by the offsets of a put -/
def tmF (m1 m2 : Nat → Int32) (T : Mat) (p : Nat) : Int := ckI m2 p + oF T (cmN m1 p)
theorem x_put {E : Edg} {T : Mat} {σ : St} {nc np n : Nat} {m1 m2 m3 m4 m0 : Nat → Int32} (h6 : RPic nc np n m1 m2 m3 m4 m0) (hnc : nc ≤ 8) (hn : n ≤ 120) (hT : Tight E T) (hR : RM (σ.2 16) (neg T)) (e0 : σ.2 0 = m1) (e1 : σ.2 1 = m2) (hs0 : σ.1 0 = nI nc) (hs4 : σ.1 4 = nI n) {post : Int32 → St → Prop}
    (hp : ∀ τ : St, τ.1 8 = 1 → τ.1 9 = nI n → τ.1 10 = nI nc → (∀ k, k ≠ 8 → k ≠ 9 → k ≠ 10 → τ.1 k = σ.1 k) → (∀ j, j ≠ 12 → j ≠ 13 → j ≠ 14 → τ.2 j = σ.2 j) → (∀ c, c < nc → τ.2 12 c = iI (oF T c)) → (∀ p, p < n → τ.2 13 p = iI (tmF m1 m2 T p)) → (∀ i, i < n → τ.2 14 i = nI (rowF (tmF m1 m2 T) (cmN m1) n i)) → post (nI n) τ) : w_X5_put σ post := by
  unfold w_X5_put
  rw [hs0]
  refine x_settle hT hR hnc (fun s hs ho => ?_)
  have s4 : s.1 4 = nI n := by rw [hs.1]; exact hs4
  refine x_line (tm := tmF m1 m2 T) (cm := cmN m1) hn s4 (fun q hq => ?_) (fun q hq => ?_) (fun τ h1 h2 h3 h4 => ?_)
  · obtain ⟨⟨c1, c2⟩, -⟩ := pic_fn h6 hnc hq
    rw [hs.2 0 (by decide)]
    show σ.2 0 q = _ ∧ _
    rw [e0]
    exact ⟨c2, by omega⟩
  · obtain ⟨⟨c1, c2⟩, ⟨c3, c4, c5⟩, -⟩ := pic_fn h6 hnc hq
    have b := oF_bd hT (show cmN m1 q < 8 by omega)
    rw [hs.2 1 (by decide), ho (cmN m1 q) c1]
    show σ.2 1 q + _ = _ ∧ _
    have e : σ.2 1 q = iI (ckI m2 q) := by rw [e1]; exact c5
    rw [e, iI_add]
    unfold tmF
    exact ⟨rfl, by omega, by omega⟩
  · have t9 : τ.1 9 = nI n := by rw [h1, va_up_self]
    rw [t9]
    refine hp τ ?_ t9 ?_ (fun k k8 k9 k10 => ?_) (fun j j12 j13 j14 => ?_) (fun c hc => ?_) h3 h4
    · rw [h1, hs.1]
      rfl
    · rw [h1, hs.1]
      rfl
    · rw [h1, hs.1, va_up_ne _ _ k9]
      show va_up (va_up σ.1 8 1) 10 (nI nc) k = σ.1 k
      rw [va_up_ne _ _ k10, va_up_ne _ _ k8]
    · rw [h2 j j13 j14, hs.2 j j12]
    · rw [h2 12 (by decide) (by decide)]
      exact ho c hc
