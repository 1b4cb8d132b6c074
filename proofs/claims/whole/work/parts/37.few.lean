def Same2 (J L : Nat) (σ τ : St) : Prop := τ.1 = σ.1 ∧ ∀ j, j ≠ J → j ≠ L → τ.2 j = σ.2 j
theorem Same2.refl (J L : Nat) (σ : St) : Same2 J L σ σ := ⟨rfl, fun _ _ _ => rfl⟩
theorem Same2.trans {J L : Nat} {σ τ υ : St} (h1 : Same2 J L σ τ) (h2 : Same2 J L τ υ) : Same2 J L σ υ := ⟨h2.1.trans h1.1, fun j hj hl => (h2.2 j hj hl).trans (h1.2 j hj hl)⟩
theorem fst0_nn (a b : Nat) : 0 ≤ fst0 a b ∧ fst0 a b ≤ 400000 := by
  unfold fst0
  split
  · omega
  · split <;> omega
/-- the ties as the class has them -/
def TiesC (σ : St) (nt : Nat) (ca cb : Nat → Nat) (clo chi : Nat → Int) : Prop := ∀ k, k < nt → TieC (σ.2 6 k) (σ.2 7 k) (σ.2 8 k) (σ.2 9 k) (ca k) (cb k) (clo k) (chi k)
def CW (ca cb : Nat → Nat) (clo chi : Nat → Int) (V W : Nat → Int) (n : Nat) : Prop :=
  (∀ y, W y ≤ V y) ∧ (∀ k, k < n → ∀ e ∈ ces (ca k) (cb k) (clo k) (chi k), W e.1 ≤ e.2.2 + V e.2.1) ∧ ∀ y, W y = V y ∨ ∃ k, k < n ∧ ∃ e ∈ ces (ca k) (cb k) (clo k) (chi k), e.1 = y ∧ W y = e.2.2 + V e.2.1
set_option maxHeartbeats 2000000 in
theorem s_more {post : St → Prop} {σ : St} {nt : Nat} {ca cb : Nat → Nat} {clo chi : Nat → Int} {V : Nat → Int} (hn : σ.1 6 = nI nt) (hnt : nt ≤ 60) (hC : TiesC σ nt ca cb clo chi) (hV : RV (σ.2 10) V) (hB : ∀ x, x < 8 → -1000000 ≤ V x ∧ V x ≤ 1000000)
    (hp : ∀ τ W, Same2 10 11 σ τ → CW ca cb clo chi V W nt → RV (τ.2 10) (rbV W) → post τ) : w_X3_reachByOneTieMore σ post := by
  have L : ∀ (d k : Nat) (s : St) (W : Nat → Int), k + d = nt → Same2 10 11 σ s → s.2 10 = σ.2 10 → RV (s.2 11) W → CW ca cb clo chi V W k → w_X3_reachByOneTieMore_L17 post (fun _ s => w_X3_reachByBounds (s.2 11) (fun u => post (s.1, (va_up (va_up s.2 11 u) 10 (va_cpy u (s.2 10) (Int32.toNatClampNeg 0) (Int32.toNatClampNeg 0) (Int32.toNatClampNeg 8)))))) (d + 1) (nI k) s := by
    intro d
    induction d with
    | zero =>
      intro k s W hk hs h10 hW hcw
      have e : k = nt := by omega
      subst e
      unfold w_X3_reachByOneTieMore_L17
      refine ⟨fun _ => ?_, fun q => absurd (by rw [hs.1, hn]; exact nI_le (Nat.le_refl k) (by omega)) q⟩
      refine s_rb hW (fun x hx => ?_) (fun u hu => hp _ W ?_ hcw ?_)
      · rcases hcw.2.2 x with q | ⟨i, hi, e, he, e1, q⟩
        · have := hB x hx
          omega
        · have hc := hC i hi
          obtain ⟨ha8, hb8, -, -, -, -, l1, l2, l3, l4, l5⟩ := hc
          rcases List.mem_cons.mp he with g | g
          · subst g
            have := hB (ca i) ha8
            dsimp only at q
            omega
          · rw [List.mem_singleton] at g
            subst g
            have := hB (cb i) hb8
            dsimp only at q
            omega
      · refine hs.trans ⟨rfl, fun j h1 h2 => ?_⟩
        show va_up (va_up s.2 11 u) 10 _ j = s.2 j
        rw [va_up_ne _ _ h1, va_up_ne _ _ h2]
      · intro x hx
        show va_up (va_up s.2 11 u) 10 (va_cpy u (s.2 10) (Int32.toNatClampNeg 0) (Int32.toNatClampNeg 0) (Int32.toNatClampNeg 8)) 10 x = _
        rw [up_at]
        rw [show va_cpy u (s.2 10) (Int32.toNatClampNeg 0) (Int32.toNatClampNeg 0) (Int32.toNatClampNeg 8) x = u x from sb_cpy0 hx]
        exact hu x hx
    | succ d ih =>
      intro k s W hk hs h10 hW hcw
      have hkn : k < nt := by omega
      obtain ⟨ha8, hb8, eo, et, el, em, l1, l2, l3, l4, l5⟩ := hC k hkn
      have hink : vp_in (nI k) 60 := vp_in_nI (by omega) (by omega)
      have hina : vp_in (nI (ca k)) 8 := vp_in_nI ha8 (by omega)
      have hinb : vp_in (nI (cb k)) 8 := vp_in_nI hb8 (by omega)
      have hWb : ∀ x, x < 8 → -2000000 ≤ W x ∧ W x ≤ 2000000 := by
        intro x hx
        have g0 := hcw.1 x
        have g1 := hB x hx
        rcases hcw.2.2 x with q | ⟨i, hi, e, he, e1, q⟩
        · omega
        · obtain ⟨ha8', hb8', -, -, -, -, m1, m2, m3, m4, m5⟩ := hC i (by omega)
          rcases List.mem_cons.mp he with g | g
          · subst g
            have := hB (ca i) ha8'
            dsimp only at q
            omega
          · rw [List.mem_singleton] at g
            subst g
            have := hB (cb i) hb8'
            dsimp only at q
            omega
      unfold w_X3_reachByOneTieMore_L17
      refine ⟨fun q => absurd q (by rw [hs.1, hn]; exact nI_ge hkn (by omega)), fun _ => ?_⟩
      rw [nI_clamp (show k < 2 ^ 31 by omega), hs.2 6 (by decide) (by decide), hs.2 7 (by decide) (by decide), hs.2 8 (by decide) (by decide), hs.2 9 (by decide) (by decide), eo, et, el, em]
      rw [nI_clamp (show ca k < 2 ^ 31 by omega), nI_clamp (show cb k < 2 ^ 31 by omega)]
      refine ⟨hink, hink, hinb, hina, hink, hinb, hina, hinb, hink, hina, ?_⟩
      have bVa := hB (ca k) ha8
      have bVb := hB (cb k) hb8
      have bWa := hWb (ca k) ha8
      have bWb := hWb (cb k) hb8
      rw [h10, hV (ca k) ha8, hV (cb k) hb8, hW (cb k) hb8, iI_add, iI_min (by omega) (by omega) (by omega) (by omega)]
      have hW1 := rv_upd hW (i := cb k) (min (W (cb k)) (V (ca k) + chi k))
      rw [hW1 (ca k) ha8, iI_sub]
      have bm : -2147483648 ≤ (if ca k = cb k then min (W (cb k)) (V (ca k) + chi k) else W (ca k)) ∧ (if ca k = cb k then min (W (cb k)) (V (ca k) + chi k) else W (ca k)) < 2147483648 := by
        split <;> omega
      rw [iI_min bm.1 bm.2 (by omega) (by omega), nI_1]
      have hW2 := rv_upd hW1 (i := ca k) (min (if ca k = cb k then min (W (cb k)) (V (ca k) + chi k) else W (ca k)) (V (cb k) - clo k))
      refine ih (k + 1) _ (stV V (ca k) (cb k) (clo k) (chi k) W) (by omega) (hs.trans ⟨rfl, fun j h1 h2 => ?_⟩) ?_ ?_ ⟨fun y => ?_, fun i hi e he => ?_, fun y => ?_⟩
      · show va_up (va_up s.2 11 _) 11 _ j = s.2 j
        rw [va_up_ne _ _ h2, va_up_ne _ _ h2]
      · exact h10
      · intro x hx
        exact hW2 x hx
      · have := (stV_le (V := V) (W := W) (a := ca k) (b := cb k) (lo := clo k) (hi := chi k) y).1
        have := hcw.1 y
        omega
      · have g := stV_le (V := V) (W := W) (a := ca k) (b := cb k) (lo := clo k) (hi := chi k) e.1
        rcases Nat.lt_succ_iff_lt_or_eq.mp hi with q | q
        · have := hcw.2.1 i q e he
          omega
        · subst q
          exact g.2 e he rfl
      · rcases stV_at (V := V) (W := W) (a := ca k) (b := cb k) (lo := clo k) (hi := chi k) y with q | ⟨e, he, e1, q⟩
        · rw [q]
          rcases hcw.2.2 y with q | ⟨i, hi, e, he, e1, q⟩
          · exact Or.inl q
          · exact Or.inr ⟨i, by omega, e, he, e1, q⟩
        · exact Or.inr ⟨k, by omega, e, he, e1, q⟩
  unfold w_X3_reachByOneTieMore
  refine ⟨nt + 1, L nt 0 _ V (by omega) ⟨rfl, fun j h1 h2 => ?_⟩ ?_ ?_ ⟨fun y => Int.le_refl _, fun k hk => absurd hk (Nat.not_lt_zero k), fun y => Or.inl rfl⟩⟩
  · show va_up σ.2 11 _ j = σ.2 j
    rw [va_up_ne _ _ h2]
  · rfl
  · intro x hx
    show va_up σ.2 11 (va_cpy (σ.2 10) (σ.2 11) (Int32.toNatClampNeg 0) (Int32.toNatClampNeg 0) (Int32.toNatClampNeg 8)) 11 x = _
    rw [up_at]
    rw [show va_cpy (σ.2 10) (σ.2 11) (Int32.toNatClampNeg 0) (Int32.toNatClampNeg 0) (Int32.toNatClampNeg 8) x = σ.2 10 x from sb_cpy0 hx]
    exact hV x hx
/-- the class's ties are the edges es, but for bounds that never bind -/
def Link (es : List Ed) (nt : Nat) (ca cb : Nat → Nat) (clo chi : Nat → Int) : Prop := (∀ e ∈ es, ∃ k, k < nt ∧ e ∈ ces (ca k) (cb k) (clo k) (chi k)) ∧ ∀ k, k < nt → ∀ e ∈ ces (ca k) (cb k) (clo k) (chi k), e.1 < 8 ∧ e.2.1 < 8 ∧ (e ∈ es ∨ 1000000 ≤ e.2.2)
theorem lay_next {es : List Ed} {nt : Nat} {ca cb : Nat → Nat} {clo chi : Nat → Int} (hok : EdOk es) (hl : Link es nt ca cb clo chi) {n d : Nat} (hd : d < 8) {V W : Nat → Int} (hV : ∀ x, x < 8 → V x = layL es n x d) (hcw : CW ca cb clo chi V W nt) {x : Nat} (hx : x < 8) : rbV W x = layL es (n + 1) x d := by
  have le1 : rbV W x ≤ layL es (n + 1) x d := by
    rcases layL_at es n x d with q | ⟨e, he, q⟩
    · have g1 := rbV_le W hx hx
      have g2 := fst0_closed.1 x hx
      have g3 := hcw.1 x
      have g4 := hV x hx
      omega
    · obtain ⟨k, hk, he2⟩ := hl.1 e he
      have ho := hok e he
      have g1 := rbV_le W hx ho.1
      have g2 := hcw.2.1 k hk e he2
      have g3 := hV e.2.1 ho.2
      omega
  have le2 : layL es (n + 1) x d ≤ rbV W x := by
    obtain ⟨y, hy, q⟩ := rbV_at W hx
    have g0 := (layL_le es n x d).1
    rcases hcw.2.2 y with r | ⟨k, hk, e, he, e1, r⟩
    · have g1 := layL_free hok n x y d hx hy hd
      have g2 := hV y hy
      omega
    · obtain ⟨o1, o2, o3⟩ := hl.2 k hk e he
      have g2 := hV e.2.1 o2
      rcases o3 with o3 | o3
      · have g1 := (layL_le es n x d).2 e o3
        rw [e1] at g1
        omega
      · have g1 := layL_free hok n x e.2.1 d hx o2 hd
        have g3 := (fst0_nn x e.2.1).2
        have g4 := (fst0_nn x y).1
        omega
  omega
theorem s_lim {post : Int32 → St → Prop} {σ : St} {nt : Nat} {ca cb : Nat → Nat} {clo chi : Nat → Int} {es : List Ed} {T : Mat} {x1 x2 : Nat} {lim : Int} (hn : σ.1 6 = nI nt) (hnt : nt ≤ 60) (hC : TiesC σ nt ca cb clo chi) (hok : EdOk es) (hl : Link es nt ca cb clo chi) (hT : Tight (EdOf es) T) (h1 : x1 < 8) (h2 : x2 < 8) (hlim : -1000000 ≤ lim ∧ lim ≤ 1000000)
    (hp : ∀ τ n, Same2 10 11 σ τ → n ≤ 8 → (∀ i, i < n → 0 ≤ layL es i x1 x2 + lim) → (n = 8 ∨ layL es n x1 x2 + lim < 0) → post (nI n) τ) : w_X3_fewestAgainstLimit σ (nI x1) (nI x2) (iI lim) post := by
  have lb : ∀ n x, x < 8 → -400000 ≤ layL es n x x2 ∧ layL es n x x2 ≤ 400000 := by
    intro n x hx
    have g1 := layL_ge hok hT n x x2 hx h2
    have g2 := tight_bd hT hx h2
    have g3 : layL es n x x2 ≤ fst0 x x2 := by
      induction n with
      | zero => exact Int.le_refl _
      | succ n ih =>
        have := (layL_le es n x x2).1
        have := ih (layL_ge hok hT n x x2 hx h2)
        omega
    have g4 := (fst0_nn x x2).2
    omega
  have L : ∀ (d n : Nat) (s : St), n + d = 8 → Same2 10 11 σ s → RV (s.2 10) (fun x => layL es n x x2) → (∀ i, i < n → 0 ≤ layL es i x1 x2 + lim) → w_X3_fewestAgainstLimit_L26 (nI x1) (iI lim) post (fun _ s => post 8 s) (d + 1) (nI n) s := by
    intro d
    induction d with
    | zero =>
      intro n s hnd hs hR hi
      have e : n = 8 := by omega
      subst e
      unfold w_X3_fewestAgainstLimit_L26
      exact ⟨fun _ => hp s 8 hs (by omega) hi (Or.inl rfl), fun q => absurd ((le8 8 (by omega)).mpr (Nat.le_refl 8)) q⟩
    | succ d ih =>
      intro n s hnd hs hR hi
      unfold w_X3_fewestAgainstLimit_L26
      refine ⟨fun q => absurd ((le8 n (by omega)).mp q) (by omega), fun _ => ⟨vp_in_nI h1 (by omega), ?_⟩⟩
      have hR1 : s.2 10 x1 = iI (layL es n x1 x2) := hR x1 h1
      rw [nI_clamp (show x1 < 2 ^ 31 by omega), hR1, iI_add]
      have b := lb n x1 h1
      refine ⟨fun q => ?_, fun q => ?_⟩
      · have q2 := (iI_le (a := 0) (by omega) (by omega) (by omega) (by omega)).mp q
        refine s_more (ca := ca) (cb := cb) (clo := clo) (chi := chi) (V := fun x => layL es n x x2) (by rw [hs.1]; exact hn) hnt (fun k hk => ?_) hR (fun x hx => ?_) (fun τ W hs2 hcw hR2 => ?_)
        · have g := hC k hk
          rw [← hs.2 6 (by decide) (by decide), ← hs.2 7 (by decide) (by decide), ← hs.2 8 (by decide) (by decide), ← hs.2 9 (by decide) (by decide)] at g
          exact g
        · have := lb n x hx
          show -1000000 ≤ layL es n x x2 ∧ layL es n x x2 ≤ 1000000
          omega
        · rw [nI_1]
          refine ih (n + 1) τ (by omega) (hs.trans hs2) (fun x hx => ?_) (fun i hi2 => ?_)
          · rw [hR2 x hx, lay_next hok hl h2 (fun x _ => rfl) hcw hx]
          · rcases Nat.lt_succ_iff_lt_or_eq.mp hi2 with r | r
            · exact hi i r
            · subst r; exact q2
      · have q2 : ¬ 0 ≤ layL es n x1 x2 + lim := fun z => q ((iI_le (a := 0) (by omega) (by omega) (by omega) (by omega)).mpr z)
        exact hp s n hs (by omega) hi (Or.inr (by omega))
  unfold w_X3_fewestAgainstLimit
  refine s_fill (fun u hu => ⟨vp_in_nI h2 (by omega), ?_⟩)
  rw [nI_clamp (show x2 < 2 ^ 31 by omega)]
  have hU : RV (upd u x2 0) (fun x => if x = x2 then 0 else 1000000) := by
    intro x hx
    show upd u x2 0 x = iI (if x = x2 then 0 else 1000000)
    by_cases q : x = x2
    · subst q
      rw [if_pos rfl, pk_us]
      rfl
    · rw [if_neg q, pk_un q, hu x hx]
      rfl
  refine s_rb hU (fun x hx => ?_) (fun w hw => ⟨9, L 8 0 _ (by omega) ⟨rfl, fun j j1 j2 => ?_⟩ (fun x hx => ?_) (fun i hi => absurd hi (Nat.not_lt_zero i))⟩)
  · show -100000000 ≤ (if x = x2 then (0 : Int) else 1000000) ∧ (if x = x2 then (0 : Int) else 1000000) ≤ 100000000
    split <;> omega
  · show va_up (va_up (va_up σ.2 10 u) 10 _) 10 w j = σ.2 j
    rw [va_up_ne _ _ j1, va_up_ne _ _ j1, va_up_ne _ _ j1]
  · show w x = iI (fst0 x x2)
    rw [hw x hx]
    show iI (rbV (fun x => if x = x2 then 0 else 1000000) x) = iI (fst0 x x2)
    have g1 := rbV_le (fun x => if x = x2 then 0 else 1000000) hx h2
    have g1' : rbV (fun x => if x = x2 then 0 else 1000000) x ≤ fst0 x x2 + (if x2 = x2 then 0 else 1000000) := g1
    rw [if_pos rfl] at g1'
    obtain ⟨y, hy, g2⟩ := rbV_at (fun x => if x = x2 then 0 else 1000000) hx
    have g2' : rbV (fun x => if x = x2 then 0 else 1000000) x = fst0 x y + (if y = x2 then 0 else 1000000) := g2
    have g3 := (fst0_nn x x2).2
    have g4 := (fst0_nn x y).1
    by_cases q : y = x2
    · subst q
      rw [if_pos rfl] at g2'
      rw [g2']
      congr 1
      omega
    · rw [if_neg q] at g2'
      exfalso
      omega
