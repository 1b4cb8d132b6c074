/-! ties looked up, drawn anew, taken out -/
theorem s_slotOf {post : Int32 → St → Prop} {σ : St} {nt : Nat} {y : Int32} (hn : σ.1 6 = nI nt) (hnt : nt ≤ 60) (hno : (∀ s, s < nt → σ.2 5 s ≠ y) → post (-1) σ) (hy : ∀ s, s < nt → σ.2 5 s = y → post (nI s) σ) : w_X3_slotOf σ y post := by
  have L : ∀ (d k : Nat), k + d = nt → (∀ s, s < k → σ.2 5 s ≠ y) → w_X3_slotOf_L2 y post (fun _ s => post (-1) s) (d + 1) (nI k) σ := by
    intro d
    induction d with
    | zero =>
      intro k hk h
      have e : k = nt := by omega
      subst e
      unfold w_X3_slotOf_L2
      rw [hn]
      exact ⟨fun _ => hno h, fun q => absurd (nI_le (Nat.le_refl k) (by omega)) q⟩
    | succ d ih =>
      intro k hk h
      unfold w_X3_slotOf_L2
      rw [hn, nI_clamp (show k < 2 ^ 31 by omega)]
      refine ⟨fun q => absurd q (nI_ge (by omega) (by omega)), fun _ => ⟨vp_in_nI (by omega) (by omega), fun q => ?_, fun q => hy k (by omega) q⟩⟩
      rw [nI_1]
      refine ih (k + 1) (by omega) (fun s hs => ?_)
      rcases Nat.lt_succ_iff_lt_or_eq.mp hs with r | r
      · exact h s r
      · subst r; exact q
  unfold w_X3_slotOf
  exact ⟨nt + 1, L nt 0 (by omega) (fun s q => absurd q (Nat.not_lt_zero s))⟩
theorem s_tieAt {post : Int32 → St → Prop} {σ : St} {nt : Nat} {y : Int32} (hn : σ.1 5 = nI nt) (hnt : nt ≤ 60) (hno : (∀ s, s < nt → σ.2 5 s ≠ y) → post (-1) σ) (hy : ∀ s, s < nt → σ.2 5 s = y → post (nI s) σ) : w_X6_tieAt σ y post := by
  have J : ∀ k, k < nt → σ.2 5 k = y → w_X6_tieAt_J26 post (nI k) σ := by
    intro k hk e
    unfold w_X6_tieAt_J26
    rw [hn]
    exact ⟨fun q => absurd q (nI_ge hk (by omega)), fun _ => hy k hk e⟩
  have L : ∀ (d k : Nat), k + d = nt → (∀ s, s < k → σ.2 5 s ≠ y) → w_X6_tieAt_L2 y post (fun x s => w_X6_tieAt_J26 post x s) (d + 1) (nI k) σ := by
    intro d
    induction d with
    | zero =>
      intro k hk h
      have e : k = nt := by omega
      subst e
      unfold w_X6_tieAt_L2 w_X6_tieAt_J26
      rw [hn]
      exact ⟨fun _ => ⟨fun _ => hno h, fun q => absurd (nI_le (Nat.le_refl k) (by omega)) q⟩, fun q => absurd (nI_le (Nat.le_refl k) (by omega)) q⟩
    | succ d ih =>
      intro k hk h
      unfold w_X6_tieAt_L2
      rw [hn, nI_clamp (show k < 2 ^ 31 by omega)]
      refine ⟨fun q => absurd q (nI_ge (by omega) (by omega)), fun _ => ⟨vp_in_nI (by omega) (by omega), fun q => J k (by omega) q, fun q => ?_⟩⟩
      rw [nI_1]
      refine ih (k + 1) (by omega) (fun s hs => ?_)
      rcases Nat.lt_succ_iff_lt_or_eq.mp hs with r | r
      · exact h s r
      · subst r; exact q
  unfold w_X6_tieAt
  exact ⟨nt + 1, L nt 0 (by omega) (fun s q => absurd q (Nat.not_lt_zero s))⟩
/-- the bounds of the class's ties, but for one slot -/
def CE (ca cb : Nat → Nat) (clo chi : Nat → Int) (nt : Nat) (l : Int32) : Edg := fun a b w => ∃ s, s < nt ∧ nI s ≠ l ∧ (a, b, w) ∈ ces (ca s) (cb s) (clo s) (chi s)
theorem ces_mem {a b x y : Nat} {lo hi w : Int} : (x, y, w) ∈ ces a b lo hi ↔ (x = b ∧ y = a ∧ w = hi) ∨ (x = a ∧ y = b ∧ w = -lo) := by
  unfold ces
  rw [List.mem_cons, List.mem_singleton, Prod.mk.injEq, Prod.mk.injEq, Prod.mk.injEq, Prod.mk.injEq]
theorem ce_succ {ca cb : Nat → Nat} {clo chi : Nat → Int} {k : Nat} {l : Int32} (h : nI k ≠ l) (x y : Nat) (w : Int) : TieX (CE ca cb clo chi k l) (ca k) (cb k) (clo k) (chi k) x y w ↔ CE ca cb clo chi (k + 1) l x y w := by
  constructor
  · rintro ((⟨s, hs, hl, hm⟩ | q) | q)
    · exact ⟨s, by omega, hl, hm⟩
    · exact ⟨k, by omega, h, ces_mem.mpr (Or.inl q)⟩
    · exact ⟨k, by omega, h, ces_mem.mpr (Or.inr q)⟩
  · rintro ⟨s, hs, hl, hm⟩
    rcases Nat.lt_succ_iff_lt_or_eq.mp hs with r | r
    · exact Or.inl (Or.inl ⟨s, r, hl, hm⟩)
    · subst r
      rcases ces_mem.mp hm with q | q
      · exact Or.inl (Or.inr q)
      · exact Or.inr q
theorem ce_skip {ca cb : Nat → Nat} {clo chi : Nat → Int} {k : Nat} {l : Int32} (h : nI k = l) (x y : Nat) (w : Int) : CE ca cb clo chi k l x y w ↔ CE ca cb clo chi (k + 1) l x y w := by
  constructor
  · rintro ⟨s, hs, hl, hm⟩
    exact ⟨s, by omega, hl, hm⟩
  · rintro ⟨s, hs, hl, hm⟩
    rcases Nat.lt_succ_iff_lt_or_eq.mp hs with r | r
    · exact ⟨s, r, hl, hm⟩
    · subst r; exact absurd h hl
theorem s_draw_a5 {post : St → Prop} {σ : St} {nt : Nat} {ca cb : Nat → Nat} {clo chi : Nat → Int} {l : Int32} (hn : σ.1 6 = nI nt) (hnt : nt ≤ 60) (hC : TiesC σ nt ca cb clo chi) (hf : ∃ v, Feas (CE ca cb clo chi nt l) v)
    (hp : ∀ τ U, Same 15 σ τ → RM (τ.2 15) (neg U) → Tight (CE ca cb clo chi nt l) U → post τ) : w_X3_drawWithout_a5 σ l post := by
  obtain ⟨v, hv⟩ := hf
  have L : ∀ (d k : Nat) (s : St) (U : Mat), k + d = nt → Same 15 σ s → RM (s.2 15) (neg U) → Tight (CE ca cb clo chi k l) U → w_X3_drawWithout_a5_L6 l post (fun _ s => post s) (d + 1) (nI k) s := by
    intro d
    induction d with
    | zero =>
      intro k s U hk hs hU hT
      have e : k = nt := by omega
      subst e
      unfold w_X3_drawWithout_a5_L6
      rw [hs.1, hn]
      exact ⟨fun _ => hp s U hs hU hT, fun q => absurd (nI_le (Nat.le_refl k) (by omega)) q⟩
    | succ d ih =>
      intro k s U hk hs hU hT
      have hkn : k < nt := by omega
      unfold w_X3_drawWithout_a5_L6
      rw [hs.1, hn, nI_clamp (show k < 2 ^ 31 by omega)]
      refine ⟨fun q => absurd q (nI_ge hkn (by omega)), fun _ => ⟨fun q => ?_, fun q => ?_⟩⟩
      · rw [nI_1]
        exact ih (k + 1) s U (by omega) hs hU (tight_congr hT (fun x y w _ _ => ce_skip q x y w))
      · obtain ⟨ha8, hb8, eo, et, el, em, l1, l2, l3, l4, l5⟩ := hC k hkn
        have hin : vp_in (nI k) 60 := vp_in_nI (by omega) (by omega)
        refine ⟨hin, hin, hin, hin, ?_⟩
        rw [hs.2 6 (by decide), hs.2 7 (by decide), hs.2 8 (by decide), hs.2 9 (by decide), eo, et, el, em]
        have hvk : Feas (CE ca cb clo chi k l) v := ⟨hv.1, hv.2.1, fun a b w ha hb ⟨t, ht, hl, hm⟩ => hv.2.2 a b w ha hb ⟨t, by omega, hl, hm⟩⟩
        have v1 := hv.2.2 (cb k) (ca k) (chi k) hb8 ha8 ⟨k, hkn, q, ces_mem.mpr (Or.inl ⟨rfl, rfl, rfl⟩)⟩
        have v2 := hv.2.2 (ca k) (cb k) (-clo k) ha8 hb8 ⟨k, hkn, q, ces_mem.mpr (Or.inr ⟨rfl, rfl, rfl⟩)⟩
        have v3 := hT.1 v hvk (ca k) (cb k) ha8 hb8
        have v4 := hT.1 v hvk (cb k) (ca k) hb8 ha8
        refine s_tighten hU hT ha8 hb8 l1 ⟨l2, l5, l4, l3⟩ (by omega) (by omega) (fun f U2 hf hT2 => ?_)
        rw [nI_1, ← hs.1]
        exact ih (k + 1) _ U2 (by omega) (hs.trans (Same.up 15 s f)) hf (tight_congr hT2 (fun x y w _ _ => ce_succ q x y w))
  unfold w_X3_drawWithout_a5
  refine s_loosen (fun f hf => ⟨nt + 1, L nt 0 _ fst0 (by omega) (Same.up 15 σ f) hf (tight_congr fst0_tight (fun x y w _ _ => ⟨fun q => q.elim, fun ⟨s, hs, _⟩ => absurd hs (Nat.not_lt_zero s)⟩))⟩)
theorem s_draw_a6 {post : St → Prop} {σ : St} {nt : Nat} {ca cb : Nat → Nat} {clo chi : Nat → Int} {l : Int32} (hn : σ.1 6 = nI nt) (hnt : nt ≤ 60) (hC : TiesC σ nt ca cb clo chi) (hf : ∃ v, Feas (CE ca cb clo chi nt l) v)
    (hp : ∀ τ U, Same 16 σ τ → RM (τ.2 16) (neg U) → Tight (CE ca cb clo chi nt l) U → post τ) : w_X3_drawWithout_a6 σ l post := by
  obtain ⟨v, hv⟩ := hf
  have L : ∀ (d k : Nat) (s : St) (U : Mat), k + d = nt → Same 16 σ s → RM (s.2 16) (neg U) → Tight (CE ca cb clo chi k l) U → w_X3_drawWithout_a6_L6 l post (fun _ s => post s) (d + 1) (nI k) s := by
    intro d
    induction d with
    | zero =>
      intro k s U hk hs hU hT
      have e : k = nt := by omega
      subst e
      unfold w_X3_drawWithout_a6_L6
      rw [hs.1, hn]
      exact ⟨fun _ => hp s U hs hU hT, fun q => absurd (nI_le (Nat.le_refl k) (by omega)) q⟩
    | succ d ih =>
      intro k s U hk hs hU hT
      have hkn : k < nt := by omega
      unfold w_X3_drawWithout_a6_L6
      rw [hs.1, hn, nI_clamp (show k < 2 ^ 31 by omega)]
      refine ⟨fun q => absurd q (nI_ge hkn (by omega)), fun _ => ⟨fun q => ?_, fun q => ?_⟩⟩
      · rw [nI_1]
        exact ih (k + 1) s U (by omega) hs hU (tight_congr hT (fun x y w _ _ => ce_skip q x y w))
      · obtain ⟨ha8, hb8, eo, et, el, em, l1, l2, l3, l4, l5⟩ := hC k hkn
        have hin : vp_in (nI k) 60 := vp_in_nI (by omega) (by omega)
        refine ⟨hin, hin, hin, hin, ?_⟩
        rw [hs.2 6 (by decide), hs.2 7 (by decide), hs.2 8 (by decide), hs.2 9 (by decide), eo, et, el, em]
        have hvk : Feas (CE ca cb clo chi k l) v := ⟨hv.1, hv.2.1, fun a b w ha hb ⟨t, ht, hl, hm⟩ => hv.2.2 a b w ha hb ⟨t, by omega, hl, hm⟩⟩
        have v1 := hv.2.2 (cb k) (ca k) (chi k) hb8 ha8 ⟨k, hkn, q, ces_mem.mpr (Or.inl ⟨rfl, rfl, rfl⟩)⟩
        have v2 := hv.2.2 (ca k) (cb k) (-clo k) ha8 hb8 ⟨k, hkn, q, ces_mem.mpr (Or.inr ⟨rfl, rfl, rfl⟩)⟩
        have v3 := hT.1 v hvk (ca k) (cb k) ha8 hb8
        have v4 := hT.1 v hvk (cb k) (ca k) hb8 ha8
        refine s_tighten hU hT ha8 hb8 l1 ⟨l2, l5, l4, l3⟩ (by omega) (by omega) (fun f U2 hf hT2 => ?_)
        rw [nI_1, ← hs.1]
        exact ih (k + 1) _ U2 (by omega) (hs.trans (Same.up 16 s f)) hf (tight_congr hT2 (fun x y w _ _ => ce_succ q x y w))
  unfold w_X3_drawWithout_a6
  refine s_loosen (fun f hf => ⟨nt + 1, L nt 0 _ fst0 (by omega) (Same.up 16 σ f) hf (tight_congr fst0_tight (fun x y w _ _ => ⟨fun q => q.elim, fun ⟨s, hs, _⟩ => absurd hs (Nat.not_lt_zero s)⟩))⟩)
theorem tx_feas {nt : Nat} {x5 x6 x7 x8 x9 : Nat → Int32} {mn : Nat → Nat} {ess : Nat → List Ed} {pi ca cb : Nat → Nat} {clo chi : Nat → Int} (hX : TX nt x5 x6 x7 x8 x9 mn ess pi ca cb clo chi) {l r : Int32} (hlr : ∀ t, t < nt → (nI t ≠ l ↔ nI (pi t) ≠ r)) (v : Nat → Int) : Feas (CE ca cb clo chi nt l) v ↔ Feas (ClE ess nt r) v := by
  refine feas_link (fun x y w _ _ e => ?_) (fun x y w _ _ e => ?_) v
  · obtain ⟨k, hk, hr, hm⟩ := e
    obtain ⟨s, hs, rfl⟩ := hX.2.2 k hk
    exact ⟨s, hs, (hlr s hs).mpr hr, (hX.1 s hs).2.2.2.1 _ hm⟩
  · obtain ⟨s, hs, hl, hm⟩ := e
    rcases (hX.1 s hs).2.2.2.2 _ hm with q | q
    · exact Or.inl ⟨pi s, (hX.1 s hs).1, (hlr s hs).mp hl, q⟩
    · exact Or.inr q
theorem nI_m1 {k : Nat} (h : k < 2 ^ 31) : nI k ≠ -1 := by
  intro e
  have := congrArg Int32.toInt e
  rw [nI_toInt h] at this
  have z : (k : Int) = -1 := this
  omega
theorem tx_feas0 {nt : Nat} {x5 x6 x7 x8 x9 : Nat → Int32} {mn : Nat → Nat} {ess : Nat → List Ed} {pi ca cb : Nat → Nat} {clo chi : Nat → Int} (hX : TX nt x5 x6 x7 x8 x9 mn ess pi ca cb clo chi) (hnt : nt ≤ 60) (v : Nat → Int) : Feas (CE ca cb clo chi nt (-1)) v ↔ Feas (EdOf (esAll ess nt)) v := by
  rw [tx_feas hX (r := -1) (fun t ht => ⟨fun _ => nI_m1 (by have := (hX.1 t ht).1; omega), fun _ => nI_m1 (by omega)⟩)]
  constructor
  · exact fun h => ⟨h.1, h.2.1, fun a b w ha hb e => h.2.2 a b w ha hb ((clE_all ess hnt a b w).mpr e)⟩
  · exact fun h => ⟨h.1, h.2.1, fun a b w ha hb e => h.2.2 a b w ha hb ((clE_all ess hnt a b w).mp e)⟩
/-! one tie is taken out: the reference moves those behind it up, the class puts its last in its place -/
def sk (k i : Nat) : Nat := if k ≤ i then i + 1 else i
def un (k q : Nat) : Nat := if k < q then q - 1 else q
def ot (s n t : Nat) : Nat := if t = s then n else t
def shf (f : Nat → Int32) (k i : Nat) : Nat → Int32 := fun x => if k ≤ x ∧ x < i then f (x + 1) else f x
theorem shf_at (f : Nat → Int32) (k n i : Nat) (h : i < n) : shf f k n i = f (sk k i) := by
  unfold shf sk
  by_cases q : k ≤ i
  · rw [if_pos ⟨q, h⟩, if_pos q]
  · rw [if_neg (fun z => q z.1), if_neg q]
theorem shf_0 (f : Nat → Int32) (k : Nat) : shf f k k = f := by
  funext x
  unfold shf
  rw [if_neg (by omega)]
theorem shf_s (f : Nat → Int32) {k i : Nat} (h : k ≤ i) : upd (shf f k i) i (shf f k i (i + 1)) = shf f k (i + 1) := by
  funext x
  by_cases q : x = i
  · subst q
    rw [pk_us]
    unfold shf
    rw [if_neg (by omega), if_pos (by omega)]
  · rw [pk_un q]
    unfold shf
    by_cases r : k ≤ x ∧ x < i
    · rw [if_pos r, if_pos (by omega)]
    · rw [if_neg r, if_neg (by omega)]
theorem upd_ot (f : Nat → Int32) (s n t : Nat) : upd f s (f n) t = f (ot s n t) := by
  unfold ot
  by_cases q : t = s
  · rw [if_pos q, q, pk_us]
  · rw [if_neg q, pk_un q]
theorem tm_drop {nc n nt ne k : Nat} {m1 m2 m5 m6 m7 m8 m9 : Nat → Int32} {mn : Nat → Nat} {ess : Nat → List Ed} (hM : TM nc n (nt + 1) ne m1 m2 m5 m6 m7 m8 m9 mn ess) : TM nc n nt ne m1 m2 (shf m5 k nt) (shf m6 k nt) (shf m7 k nt) (shf m8 k nt) (shf m9 k nt) (fun i => mn (sk k i)) (fun i => ess (sk k i)) := by
  refine ⟨fun i hi => ?_, fun i l hi hl e => ?_⟩
  · rw [shf_at _ _ _ _ hi, shf_at _ _ _ _ hi, shf_at _ _ _ _ hi, shf_at _ _ _ _ hi, shf_at _ _ _ _ hi]
    exact hM.1 (sk k i) (by unfold sk; split <;> omega)
  · have := hM.2 (sk k i) (sk k l) (by unfold sk; split <;> omega) (by unfold sk; split <;> omega) e
    unfold sk at this
    split at this <;> split at this <;> omega
theorem tx_drop {nt s : Nat} {x5 x6 x7 x8 x9 : Nat → Int32} {mn : Nat → Nat} {ess : Nat → List Ed} {pi ca cb : Nat → Nat} {clo chi : Nat → Int} (hX : TX (nt + 1) x5 x6 x7 x8 x9 mn ess pi ca cb clo chi) (hs : s < nt + 1) :
    TX nt (upd x5 s (x5 nt)) (upd x6 s (x6 nt)) (upd x7 s (x7 nt)) (upd x8 s (x8 nt)) (upd x9 s (x9 nt)) (fun i => mn (sk (pi s) i)) (fun i => ess (sk (pi s) i)) (fun t => un (pi s) (pi (ot s nt t))) (fun t => ca (ot s nt t)) (fun t => cb (ot s nt t)) (fun t => clo (ot s nt t)) (fun t => chi (ot s nt t)) := by
  have key : ∀ t, t < nt → ot s nt t < nt + 1 ∧ pi (ot s nt t) ≠ pi s ∧ pi (ot s nt t) < nt + 1 := by
    intro t ht
    have h1 : ot s nt t < nt + 1 := by unfold ot; split <;> omega
    have h2 : ot s nt t ≠ s := by unfold ot; split <;> omega
    exact ⟨h1, fun e => h2 (hX.2.1 _ _ h1 hs e), (hX.1 _ h1).1⟩
  have hk := (hX.1 s hs).1
  have skun : ∀ q, q ≠ pi s → sk (pi s) (un (pi s) q) = q := by
    intro q hq
    unfold un
    split
    · unfold sk; rw [if_pos (by omega)]; omega
    · unfold sk; rw [if_neg (by omega)]
  refine ⟨fun t ht => ?_, fun t u ht hu e => ?_, fun i hi => ?_⟩
  · obtain ⟨h1, h2, h3⟩ := key t ht
    rw [upd_ot, upd_ot, upd_ot, upd_ot, upd_ot]
    show un (pi s) (pi (ot s nt t)) < nt ∧ x5 (ot s nt t) = nI (mn (sk (pi s) (un (pi s) (pi (ot s nt t))))) ∧ _ ∧ Corr (ca (ot s nt t)) (cb (ot s nt t)) (clo (ot s nt t)) (chi (ot s nt t)) (ess (sk (pi s) (un (pi s) (pi (ot s nt t)))))
    rw [skun _ h2]
    refine ⟨?_, (hX.1 _ h1).2⟩
    unfold un
    split <;> omega
  · have e2 : un (pi s) (pi (ot s nt t)) = un (pi s) (pi (ot s nt u)) := e
    obtain ⟨h1, h2, h3⟩ := key t ht
    obtain ⟨g1, g2, g3⟩ := key u hu
    have e3 : pi (ot s nt t) = pi (ot s nt u) := by rw [← skun _ h2, ← skun _ g2, e2]
    have e4 := hX.2.1 _ _ h1 g1 e3
    unfold ot at e4
    split at e4 <;> split at e4 <;> omega
  · obtain ⟨w, hw, ew⟩ := hX.2.2 (sk (pi s) i) (by unfold sk; split <;> omega)
    have hws : w ≠ s := by
      intro e
      rw [e] at ew
      unfold sk at ew
      split at ew <;> omega
    refine ⟨if w = nt then s else w, by split <;> omega, ?_⟩
    show un (pi s) (pi (ot s nt (if w = nt then s else w))) = i
    have e1 : ot s nt (if w = nt then s else w) = w := by
      unfold ot
      by_cases q : w = nt
      · rw [if_pos q, if_pos rfl]; exact q.symm
      · rw [if_neg q, if_neg hws]
    rw [e1, ew]
    unfold un sk
    split
    · split <;> omega
    · split <;> omega
theorem s_shift {post : Int32 → St → Prop} {K : Int32 → St → Prop} {σ : St} {nt k : Nat} (hn : σ.1 5 = nI nt) (hnt : nt < 60) : ∀ (d i : Nat) (s : St), i + d = nt → k ≤ i → s.1 = σ.1 → (∀ J, J < 5 ∨ 9 < J → s.2 J = σ.2 J) → (∀ J, 5 ≤ J → J ≤ 9 → s.2 J = shf (σ.2 J) k i) → (∀ s', s'.1 = σ.1 → (∀ J, J < 5 ∨ 9 < J → s'.2 J = σ.2 J) → (∀ J, 5 ≤ J → J ≤ 9 → s'.2 J = shf (σ.2 J) k nt) → K (nI nt) s') → w_X6_untie_L32 post K (d + 1) (nI i) s := by
  intro d
  induction d with
  | zero =>
    intro i s hi hk hs1 hs2 hs3 hK
    have e : i = nt := by omega
    subst e
    unfold w_X6_untie_L32
    rw [hs1, hn]
    exact ⟨fun _ => hK s hs1 hs2 hs3, fun q => absurd (nI_le (Nat.le_refl i) (by omega)) q⟩
  | succ d ih =>
    intro i s hi hk hs1 hs2 hs3 hK
    unfold w_X6_untie_L32
    rw [hs1, hn, nI_1, nI_clamp (show i < 2 ^ 31 by omega), nI_clamp (show i + 1 < 2 ^ 31 by omega)]
    have i1 : vp_in (nI (i + 1)) 61 := vp_in_nI (by omega) (by omega)
    have i0 : vp_in (nI i) 61 := vp_in_nI (by omega) (by omega)
    refine ⟨fun q => absurd q (nI_ge (by omega) (by omega)), fun _ => ⟨i1, i0, i1, i0, i1, i0, i1, i0, i1, i0, ?_⟩⟩
    refine ih (i + 1) _ (by omega) (by omega) rfl (fun J hJ => ?_) (fun J h5 h9 => ?_) hK
    · show va_up (va_up (va_up (va_up (va_up s.2 5 _) 6 _) 7 _) 8 _) 9 _ J = σ.2 J
      rw [va_up_ne _ _ (by omega), va_up_ne _ _ (by omega), va_up_ne _ _ (by omega), va_up_ne _ _ (by omega), va_up_ne _ _ (by omega)]
      exact hs2 J hJ
    · have hJ : J = 5 ∨ J = 6 ∨ J = 7 ∨ J = 8 ∨ J = 9 := by omega
      rcases hJ with e | e | e | e | e
      all_goals
        subst e
        refine Eq.trans ?_ (shf_s _ hk)
        rw [← hs3 _ (by omega) (by omega)]
        rfl
theorem s_xdrop {post : St → Prop} {σ : St} {nt s : Nat} {ca cb : Nat → Nat} {clo chi : Nat → Int} (hn : σ.1 6 = nI (nt + 1)) (hnt : nt < 60) (hs : s < nt + 1) (hC : ∀ t, t < nt → TieC (upd (σ.2 6) s (σ.2 6 nt) t) (upd (σ.2 7) s (σ.2 7 nt) t) (upd (σ.2 8) s (σ.2 8 nt) t) (upd (σ.2 9) s (σ.2 9 nt) t) (ca t) (cb t) (clo t) (chi t)) (hf : ∃ v, Feas (CE ca cb clo chi nt (-1)) v)
    (hp : ∀ f U, RM f (neg U) → Tight (CE ca cb clo chi nt (-1)) U → ∀ τ : St, τ.1 = va_up σ.1 6 (nI nt) → (∀ J, J ≠ 16 → τ.2 J = va_up (va_up (va_up (va_up (va_up σ.2 5 (upd (σ.2 5) s (σ.2 5 nt))) 6 (upd (σ.2 6) s (σ.2 6 nt))) 7 (upd (σ.2 7) s (σ.2 7 nt))) 8 (upd (σ.2 8) s (σ.2 8 nt))) 9 (upd (σ.2 9) s (σ.2 9 nt)) J) → τ.2 16 = f → post τ) : w_X3_drop σ (nI s) post := by
  have e1 : nI (nt + 1) - 1 = nI nt := by
    rw [show (1 : Int32) = nI 1 from rfl, pk_sub (by omega)]
    rfl
  have i1 : vp_in (nI nt) 60 := vp_in_nI (by omega) (by omega)
  have i0 : vp_in (nI s) 60 := vp_in_nI (by omega) (by omega)
  unfold w_X3_drop
  rw [hn, e1, nI_clamp (show nt < 2 ^ 31 by omega), nI_clamp (show s < 2 ^ 31 by omega)]
  refine ⟨i1, i0, i1, i0, i1, i0, i1, i0, i1, i0, ?_⟩
  refine s_draw_a6 (ca := ca) (cb := cb) (clo := clo) (chi := chi) (nt := nt) rfl (by omega) hC hf (fun τ U hs2 hU hT => ?_)
  exact hp (τ.2 16) U hU hT τ hs2.1 (fun J hJ => hs2.2 J hJ) rfl
theorem st_untie (j : Nat) (σx σm : St) (y0 : Int32) (hj : j < 512) (h : Rel j σx σm) : w_X5_untie σx y0 (fun r u => w_X6_untie σm y0 (fun r2 u2 => r = r2 ∧ Rel (j + 1) u u2)) := by
  obtain ⟨nc, np, n, nt, ne, h⟩ := h
  obtain ⟨⟨b1, b2, b3, b4, b5⟩, hx, hm, h4, h5, h6, h7, h8⟩ := id h
  have bad : ∀ v : Int32, Rel (j + 1) (va_up σx.1 2 v, σx.2) (va_up (va_up σm.1 0 0) 1 v, σm.2) := fun v => ((h.keepM (KM.z σm 0)).trouble v).rel
  obtain ⟨mn, ess, pi, ca, cb, clo, chi, T, hM, hX, hRM, hT⟩ := id h7
  unfold w_X5_untie w_X6_untie
  refine s_slotOf hx.2.2.2.1 b4 (fun hno => ⟨fun e => absurd rfl e, fun _ => ?_⟩) (fun s hs es => ⟨fun _ => ?_, fun e => absurd e (nI_m1 (by omega))⟩)
  · refine s_tieAt (σ := (va_up σm.1 0 0, σm.2)) hm.2.2.2.1 b4 (fun _ => ⟨fun e => absurd rfl e, fun _ => ?_⟩) (fun k hk ek => ?_)
    · unfold w_X6_denied
      exact ⟨rfl, rfl, bad 1⟩
    · exfalso
      obtain ⟨s, hs, e⟩ := hX.2.2 k hk
      refine hno s hs ?_
      rw [(hX.1 s hs).2.1, e, ← (hM.1 k hk).1]
      exact ek
  · -- the tie is there: slot s, place pi s
    cases nt with
    | zero => exact absurd hs (Nat.not_lt_zero s)
    | succ nt =>
      have hX2 := tx_drop hX hs
      have hM2 := tm_drop (k := pi s) hM
      have hfe : ∃ v, Feas (CE (fun t => ca (ot s nt t)) (fun t => cb (ot s nt t)) (fun t => clo (ot s nt t)) (fun t => chi (ot s nt t)) nt (-1)) v := by
        obtain ⟨v, hv⟩ := tight_feas hT
        refine ⟨v, (tx_feas0 hX2 (by omega) v).mpr ⟨hv.1, hv.2.1, fun a b w ha hb e => hv.2.2 a b w ha hb ?_⟩⟩
        obtain ⟨i, hi, hm2⟩ := (mem_esAll nt).mp e
        exact (mem_esAll (nt + 1)).mpr ⟨sk (pi s) i, by unfold sk; split <;> omega, hm2⟩
      refine s_xdrop (σ := (va_up σx.1 2 0, σx.2)) hx.2.2.2.1 (by omega) hs (fun t ht => (hX2.1 t ht).2.2.1) hfe (fun f U hf hU τx hτ1 hτ2 hτ3 => ?_)
      refine s_tieAt (σ := (va_up σm.1 0 0, σm.2)) hm.2.2.2.1 b4 (fun hno => ?_) (fun k hk ek => ⟨fun _ => ?_, fun e => absurd e (nI_m1 (by omega))⟩)
      · exfalso
        refine hno (pi s) (hX.1 s hs).1 ?_
        show σm.2 5 (pi s) = y0
        rw [(hM.1 (pi s) (hX.1 s hs).1).1, ← (hX.1 s hs).2.1]
        exact es
      · have ek2 : σm.2 5 k = y0 := ek
        have hkp : k = pi s := by
          refine hM.2 k (pi s) hk (hX.1 s hs).1 ?_
          have q1 := (hM.1 k hk)
          have q2 := (hM.1 (pi s) (hX.1 s hs).1)
          have q3 := (hX.1 s hs).2.1
          have : nI (mn k) = nI (mn (pi s)) := by rw [← q1.1, ek2, ← es, q3]
          exact (nI_eq (by omega) (by omega)).mp this
        subst hkp
        have e1 : nI (nt + 1) - 1 = nI nt := by
          rw [show (1 : Int32) = nI 1 from rfl, pk_sub (by omega)]
          rfl
        refine ⟨nt - pi s + 1, ?_⟩
        show w_X6_untie_L32 _ _ _ _ (va_up (va_up σm.1 0 0) 5 (σm.1 5 - 1), σm.2)
        rw [hm.2.2.2.1, e1]
        refine s_shift (σ := (va_up (va_up σm.1 0 0) 5 (nI nt), σm.2)) (k := pi s) (nt := nt) rfl (by omega) (nt - pi s) (pi s) _ (by omega) (Nat.le_refl _) rfl (fun _ _ => rfl) (fun J _ _ => (shf_0 _ _).symm) (fun τm g1 g2 g3 => ?_)
        unfold w_X6_granted
        refine ⟨rfl, rfl, ?_⟩
        have hA : RelN j nc np n nt ne (va_up (va_up σx.1 2 0) 6 (nI nt), fun J => if J = 16 then f else va_up (va_up (va_up (va_up (va_up σx.2 5 (upd (σx.2 5) s (σx.2 5 nt))) 6 (upd (σx.2 6) s (σx.2 6 nt))) 7 (upd (σx.2 7) s (σx.2 7 nt))) 8 (upd (σx.2 8) s (σx.2 8 nt))) 9 (upd (σx.2 9) s (σx.2 9 nt)) J) (va_up (va_up σm.1 5 (nI nt)) 1 0, fun J => if 5 ≤ J ∧ J ≤ 9 then shf (σm.2 J) (pi s) nt else σm.2 J) :=
          ⟨⟨b1, b2, b3, by omega, b5⟩, ⟨hx.1, hx.2.1, hx.2.2.1, rfl, hx.2.2.2.2⟩, ⟨hm.1, hm.2.1, hm.2.2.1, rfl, hm.2.2.2.2⟩, ⟨h4.1, rfl, h4.2.2⟩, h5, h6, ⟨_, _, _, _, _, _, _, U, hM2, hX2, hf, tight_feq hU (fun v => tx_feas0 hX2 (by omega) v)⟩, h8⟩
        refine (hA.keep ⟨hτ1, fun J _ _ _ => ?_⟩ ⟨fun k hk0 => ?_, fun J hJ => ?_⟩).rel
        · show τx.2 J = if J = 16 then f else _
          by_cases q : J = 16
          · rw [if_pos q, q]; exact hτ3
          · rw [if_neg q]; exact hτ2 J q
        · show va_up τm.1 1 0 k = va_up (va_up σm.1 5 (nI nt)) 1 0 k
          rw [g1]
          show va_up (va_up (va_up σm.1 0 0) 5 (nI nt)) 1 0 k = va_up (va_up σm.1 5 (nI nt)) 1 0 k
          unfold va_up
          rw [if_neg hk0]
        · show τm.2 J = if 5 ≤ J ∧ J ≤ 9 then shf (σm.2 J) (pi s) nt else σm.2 J
          by_cases q : 5 ≤ J ∧ J ≤ 9
          · rw [if_pos q]; exact g3 J q.1 q.2
          · rw [if_neg q]; exact g2 J (by omega)
