/-! the reference's fewest -/
def SameS (σ τ : St) : Prop := τ.1 = σ.1 ∧ ∀ j, j ≠ 12 → j ≠ 13 → j ≠ 14 → j ≠ 15 → τ.2 j = σ.2 j
theorem SameS.refl (σ : St) : SameS σ σ := ⟨rfl, fun _ _ _ _ _ => rfl⟩
theorem SameS.trans {σ τ υ : St} (h1 : SameS σ τ) (h2 : SameS τ υ) : SameS σ υ := ⟨h2.1.trans h1.1, fun j a b c d => (h2.2 j a b c d).trans (h1.2 j a b c d)⟩
theorem Same.s {J : Nat} {σ τ : St} (hJ : J = 12 ∨ J = 13 ∨ J = 14 ∨ J = 15) (h : Same J σ τ) : SameS σ τ := ⟨h.1, fun j a b c d => h.2 j (by omega)⟩
def esAll (ess : Nat → List Ed) : Nat → List Ed
  | 0 => []
  | n + 1 => esAll ess n ++ ess n
theorem mem_esAll {ess : Nat → List Ed} {e : Ed} : ∀ n, e ∈ esAll ess n ↔ ∃ k, k < n ∧ e ∈ ess k := by
  intro n
  induction n with
  | zero => exact ⟨fun h => (List.not_mem_nil h).elim, fun ⟨k, hk, _⟩ => absurd hk (Nat.not_lt_zero k)⟩
  | succ n ih =>
    show e ∈ esAll ess n ++ ess n ↔ _
    rw [List.mem_append, ih]
    constructor
    · rintro (⟨k, hk, h⟩ | h)
      · exact ⟨k, by omega, h⟩
      · exact ⟨n, by omega, h⟩
    · rintro ⟨k, hk, h⟩
      rcases Nat.lt_succ_iff_lt_or_eq.mp hk with q | q
      · exact Or.inl ⟨k, q, h⟩
      · subst q; exact Or.inr h
/-- one step more of the walk, while it is being made -/
def StI (es : List Ed) (Wn Sg Lg : Mat) (a b c d : Nat) : Prop :=
  (∀ x y, x < 8 → y < 8 → Lg x y ≤ Wn x y) ∧ (∀ x y, x < 8 → y < 8 → Lg x y = Wn x y ∨ ∃ e ∈ es, Lg x y = Wn x e.1 + e.2.2 + fst0 e.2.1 y) ∧
  (∀ i j, i < 8 → j < 8 → (i < a ∨ (i = a ∧ j < b)) → Sg i j ≠ 100000000 → ∀ x y, x < 8 → y < 8 → Lg x y ≤ Wn x i + Sg i j + fst0 j y) ∧
  (∀ x y, x < 8 → y < 8 → (x < c ∨ (x = c ∧ y < d)) → Lg x y ≤ Wn x a + Sg a b + fst0 b y)
def Ctx (σ s : St) (Wn Sg : Mat) : Prop := SameS σ s ∧ RM (s.2 12) Sg ∧ RM (s.2 13) Wn ∧ RM (s.2 15) fst0
theorem s_few168 {post : Int32 → St → Prop} {K : Int32 → St → Prop} {σ : St} {es : List Ed} {Wn Sg : Mat} {z : Int32} {a b c : Nat} (ha : a < 8) (hb : b < 8) (hc : c < 8) (bW : Bd 400000 Wn) (bS : ∀ a b, a < 8 → b < 8 → -200001 ≤ Sg a b ∧ Sg a b ≤ 200000 ∨ Sg a b = 100000000) (hok : ∀ e ∈ es, e.1 < 8 ∧ e.2.1 < 8 ∧ -200001 ≤ e.2.2 ∧ e.2.2 ≤ 200000) (hin : (a, b, Sg a b) ∈ es) (hab : Sg a b ≠ 100000000) :
    ∀ (n d : Nat) (s : St) (Lg : Mat), d + n = 8 → Ctx σ s Wn Sg → RM (s.2 14) Lg → StI es Wn Sg Lg a b c d → (∀ s' Lg', Ctx σ s' Wn Sg → RM (s'.2 14) Lg' → StI es Wn Sg Lg' a b c 8 → K (nI 8) s') → w_X6_fewest_L168 z (nI a) (nI b) (nI c) post K (n + 1) (nI d) s := by
  intro n
  induction n with
  | zero =>
    intro d s Lg hd hs hL hI hK
    have e : d = 8 := by omega
    subst e
    unfold w_X6_fewest_L168
    exact ⟨fun _ => hK s Lg hs hL hI, fun q => absurd ((le8 8 (by omega)).mpr (Nat.le_refl 8)) q⟩
  | succ n ih =>
    intro d s Lg hd hs hL hI hK
    have hd8 : d < 8 := by omega
    have b1 := bW c a hc ha
    have b2 : -200001 ≤ Sg a b ∧ Sg a b ≤ 200000 := by
      rcases bS a b ha hb with q | q
      · exact q
      · exact absurd q hab
    have b3 := fst0_nn b d
    have b4 : -1000000 ≤ Lg c d ∧ Lg c d ≤ 400000 := by
      have g1 := hI.1 c d hc hd8
      have g2 := bW c d hc hd8
      rcases hI.2.1 c d hc hd8 with q | ⟨e, he, q⟩
      · omega
      · have o := hok e he
        have g3 := bW c e.1 hc o.1
        have g4 := fst0_nn e.2.1 d
        omega
    unfold w_X6_fewest_L168
    refine ⟨fun q => absurd ((le8 d (by omega)).mp q) (by omega), fun _ => ⟨ix8_in hc ha, ix8_in ha hb, ix8_in hb hd8, ?_⟩⟩
    rw [ix8_c hc ha, ix8_c ha hb, ix8_c hb hd8, hs.2.2.1 c a hc ha, hs.2.1 a b ha hb, hs.2.2.2 b d hb hd8, iI_add, iI_add]
    refine s_least hL hc hd8 rfl (by omega) (by omega) (fun f' h' => ?_)
    rw [nI_1]
    refine ih (d + 1) _ _ (by omega) ⟨hs.1.trans (Same.s (by omega) (Same.up 14 s f')), hs.2.1, hs.2.2.1, hs.2.2.2⟩ h' ?_ hK
    have up_le : ∀ x y, updM Lg c d (min (Lg c d) (Wn c a + Sg a b + fst0 b d)) x y ≤ Lg x y := by
      intro x y
      unfold updM
      split
      · next q => rw [q.1, q.2]; omega
      · exact Int.le_refl _
    refine ⟨fun x y hx hy => Int.le_trans (up_le x y) (hI.1 x y hx hy), fun x y hx hy => ?_, fun i j hi hj q hne x y hx hy => Int.le_trans (up_le x y) (hI.2.2.1 i j hi hj q hne x y hx hy), fun x y hx hy q => ?_⟩
    · unfold updM
      by_cases q : x = c ∧ y = d
      · rw [if_pos q, q.1, q.2]
        rcases Int.le_total (Lg c d) (Wn c a + Sg a b + fst0 b d) with r | r
        · rw [Int.min_eq_left r]
          exact hI.2.1 c d hc hd8
        · rw [Int.min_eq_right r]
          exact Or.inr ⟨_, hin, rfl⟩
      · rw [if_neg q]
        exact hI.2.1 x y hx hy
    · by_cases r : x = c ∧ y = d
      · unfold updM
        rw [if_pos r, r.1, r.2]
        omega
      · exact Int.le_trans (up_le x y) (hI.2.2.2 x y hx hy (by omega))
theorem s_few158 {post : Int32 → St → Prop} {K : Int32 → St → Prop} {σ : St} {es : List Ed} {Wn Sg : Mat} {z : Int32} {a b : Nat} (ha : a < 8) (hb : b < 8) (bW : Bd 400000 Wn) (bS : ∀ a b, a < 8 → b < 8 → -200001 ≤ Sg a b ∧ Sg a b ≤ 200000 ∨ Sg a b = 100000000) (hok : ∀ e ∈ es, e.1 < 8 ∧ e.2.1 < 8 ∧ -200001 ≤ e.2.2 ∧ e.2.2 ≤ 200000) (hin : (a, b, Sg a b) ∈ es) (hab : Sg a b ≠ 100000000) :
    ∀ (n c : Nat) (s : St) (Lg : Mat), c + n = 8 → Ctx σ s Wn Sg → RM (s.2 14) Lg → StI es Wn Sg Lg a b c 0 → (∀ s' Lg', Ctx σ s' Wn Sg → RM (s'.2 14) Lg' → StI es Wn Sg Lg' a b 8 0 → K (nI 8) s') → w_X6_fewest_L158 z (nI a) (nI b) post K (n + 1) (nI c) s := by
  intro n
  induction n with
  | zero =>
    intro c s Lg hd hs hL hI hK
    have e : c = 8 := by omega
    subst e
    unfold w_X6_fewest_L158
    exact ⟨fun _ => hK s Lg hs hL hI, fun q => absurd ((le8 8 (by omega)).mpr (Nat.le_refl 8)) q⟩
  | succ n ih =>
    intro c s Lg hd hs hL hI hK
    unfold w_X6_fewest_L158
    refine ⟨fun q => absurd ((le8 c (by omega)).mp q) (by omega), fun _ => ⟨9, ?_⟩⟩
    refine s_few168 ha hb (by omega) bW bS hok hin hab 8 0 s Lg (by omega) hs hL hI (fun s' Lg' hs' hL' hI' => ?_)
    rw [nI_1]
    exact ih (c + 1) s' Lg' (by omega) hs' hL' ⟨hI'.1, hI'.2.1, hI'.2.2.1, fun x y hx hy q => hI'.2.2.2 x y hx hy (by omega)⟩ hK
theorem s_few128 {post : Int32 → St → Prop} {K : Int32 → St → Prop} {σ : St} {es : List Ed} {Wn Sg : Mat} {z : Int32} {a : Nat} (ha : a < 8) (bW : Bd 400000 Wn) (bS : ∀ a b, a < 8 → b < 8 → -200001 ≤ Sg a b ∧ Sg a b ≤ 200000 ∨ Sg a b = 100000000) (hok : ∀ e ∈ es, e.1 < 8 ∧ e.2.1 < 8 ∧ -200001 ≤ e.2.2 ∧ e.2.2 ≤ 200000) (hin : ∀ a b, a < 8 → b < 8 → Sg a b ≠ 100000000 → (a, b, Sg a b) ∈ es) :
    ∀ (n b : Nat) (s : St) (Lg : Mat), b + n = 8 → Ctx σ s Wn Sg → RM (s.2 14) Lg → StI es Wn Sg Lg a b 0 0 → (∀ s' Lg', Ctx σ s' Wn Sg → RM (s'.2 14) Lg' → StI es Wn Sg Lg' a 8 0 0 → K (nI 8) s') → w_X6_fewest_L128 z (nI a) post K (n + 1) (nI b) s := by
  intro n
  induction n with
  | zero =>
    intro b s Lg hd hs hL hI hK
    have e : b = 8 := by omega
    subst e
    unfold w_X6_fewest_L128
    exact ⟨fun _ => hK s Lg hs hL hI, fun q => absurd ((le8 8 (by omega)).mpr (Nat.le_refl 8)) q⟩
  | succ n ih =>
    intro b s Lg hd hs hL hI hK
    have hb8 : b < 8 := by omega
    have bb := bS a b ha hb8
    unfold w_X6_fewest_L128
    refine ⟨fun q => absurd ((le8 b (by omega)).mp q) (by omega), fun _ => ⟨ix8_in ha hb8, ?_⟩⟩
    rw [ix8_c ha hb8, hs.2.1 a b ha hb8, show (100000000 : Int32) = iI 100000000 from rfl]
    refine ⟨fun q => ⟨9, ?_⟩, fun q => ?_⟩
    · have q2 : Sg a b ≠ 100000000 := fun z => q (by rw [z])
      refine s_few158 ha hb8 bW bS hok (hin a b ha hb8 q2) q2 8 0 s Lg (by omega) hs hL hI (fun s' Lg' hs' hL' hI' => ?_)
      rw [nI_1]
      refine ih (b + 1) s' Lg' (by omega) hs' hL' ⟨hI'.1, hI'.2.1, fun i j hi hj r hne x y hx hy => ?_, fun x y _ _ r => absurd r (by omega)⟩ hK
      by_cases r2 : i = a ∧ j = b
      · rw [r2.1, r2.2]
        exact hI'.2.2.2 x y hx hy (by omega)
      · exact hI'.2.2.1 i j hi hj (by omega) hne x y hx hy
    · have q2 : Sg a b = 100000000 := (iI_eq (by omega) (by omega) (by omega) (by omega)).mp q
      rw [nI_1]
      refine ih (b + 1) s Lg (by omega) hs hL ⟨hI.1, hI.2.1, fun i j hi hj r hne x y hx hy => ?_, fun x y _ _ r => absurd r (by omega)⟩ hK
      by_cases r2 : i = a ∧ j = b
      · rw [r2.1, r2.2] at hne
        exact absurd q2 hne
      · exact hI.2.2.1 i j hi hj (by omega) hne x y hx hy
theorem s_few119 {post : Int32 → St → Prop} {K : Int32 → St → Prop} {σ : St} {es : List Ed} {Wn Sg : Mat} {z : Int32} (bW : Bd 400000 Wn) (bS : ∀ a b, a < 8 → b < 8 → -200001 ≤ Sg a b ∧ Sg a b ≤ 200000 ∨ Sg a b = 100000000) (hok : ∀ e ∈ es, e.1 < 8 ∧ e.2.1 < 8 ∧ -200001 ≤ e.2.2 ∧ e.2.2 ≤ 200000) (hin : ∀ a b, a < 8 → b < 8 → Sg a b ≠ 100000000 → (a, b, Sg a b) ∈ es) :
    ∀ (n a : Nat) (s : St) (Lg : Mat), a + n = 8 → Ctx σ s Wn Sg → RM (s.2 14) Lg → StI es Wn Sg Lg a 0 0 0 → (∀ s' Lg', Ctx σ s' Wn Sg → RM (s'.2 14) Lg' → StI es Wn Sg Lg' 8 0 0 0 → K (nI 8) s') → w_X6_fewest_L119 z post K (n + 1) (nI a) s := by
  intro n
  induction n with
  | zero =>
    intro a s Lg hd hs hL hI hK
    have e : a = 8 := by omega
    subst e
    unfold w_X6_fewest_L119
    exact ⟨fun _ => hK s Lg hs hL hI, fun q => absurd ((le8 8 (by omega)).mpr (Nat.le_refl 8)) q⟩
  | succ n ih =>
    intro a s Lg hd hs hL hI hK
    unfold w_X6_fewest_L119
    refine ⟨fun q => absurd ((le8 a (by omega)).mp q) (by omega), fun _ => ⟨9, ?_⟩⟩
    refine s_few128 (by omega) bW bS hok hin 8 0 s Lg (by omega) hs hL hI (fun s' Lg' hs' hL' hI' => ?_)
    rw [nI_1]
    exact ih (a + 1) s' Lg' (by omega) hs' hL' ⟨hI'.1, hI'.2.1, fun i j hi hj q hne x y hx hy => hI'.2.2.1 i j hi hj (by omega) hne x y hx hy, fun x y _ _ r => absurd r (by omega)⟩ hK
/-- copies of one row of 64 to another -/
theorem s_few18 {post : Int32 → St → Prop} {K : Int32 → St → Prop} : ∀ (d k : Nat) (s : St) (σ : St), k + d = 64 → Same 13 σ s → (∀ i, i < k → s.2 13 i = s.2 15 i) → (∀ s', Same 13 σ s' → (∀ i, i < 64 → s'.2 13 i = s'.2 15 i) → K (nI 64) s') → w_X6_fewest_L18 post K (d + 1) (nI k) s := by
  intro d
  induction d with
  | zero =>
    intro k s σ hk hs h hK
    have e : k = 64 := by omega
    subst e
    unfold w_X6_fewest_L18
    exact ⟨fun _ => hK s hs h, fun q => absurd ((le64 64 (by omega)).mpr (Nat.le_refl 64)) q⟩
  | succ d ih =>
    intro k s σ hk hs h hK
    have hk6 : k < 64 := by omega
    unfold w_X6_fewest_L18
    refine ⟨fun q => absurd ((le64 k (by omega)).mp q) (by omega), fun _ => ⟨vp_in_nI hk6 (by omega), vp_in_nI hk6 (by omega), ?_⟩⟩
    rw [nI_clamp (by omega), nI_1]
    refine ih (k + 1) _ σ (by omega) (hs.trans (Same.up 13 s _)) (fun i hi => ?_) hK
    show upd (s.2 13) k (s.2 15 k) i = s.2 15 i
    by_cases q : i = k
    · subst q; exact pk_us
    · rw [pk_un q]; exact h i (by omega)
theorem s_few251 {post : Int32 → St → Prop} {K : Int32 → St → Prop} {z : Int32} : ∀ (d k : Nat) (s : St) (σ : St), k + d = 64 → Same 13 σ s → (∀ i, i < k → s.2 13 i = s.2 14 i) → (∀ s', Same 13 σ s' → (∀ i, i < 64 → s'.2 13 i = s'.2 14 i) → K (nI 64) s') → w_X6_fewest_L251 z post K (d + 1) (nI k) s := by
  intro d
  induction d with
  | zero =>
    intro k s σ hk hs h hK
    have e : k = 64 := by omega
    subst e
    unfold w_X6_fewest_L251
    exact ⟨fun _ => hK s hs h, fun q => absurd ((le64 64 (by omega)).mpr (Nat.le_refl 64)) q⟩
  | succ d ih =>
    intro k s σ hk hs h hK
    have hk6 : k < 64 := by omega
    unfold w_X6_fewest_L251
    refine ⟨fun q => absurd ((le64 k (by omega)).mp q) (by omega), fun _ => ⟨vp_in_nI hk6 (by omega), vp_in_nI hk6 (by omega), ?_⟩⟩
    rw [nI_clamp (by omega), nI_1]
    refine ih (k + 1) _ σ (by omega) (hs.trans (Same.up 13 s _)) (fun i hi => ?_) hK
    show upd (s.2 13) k (s.2 14 k) i = s.2 14 i
    by_cases q : i = k
    · subst q; exact pk_us
    · rw [pk_un q]; exact h i (by omega)
theorem s_few60 {post : Int32 → St → Prop} {K : Int32 → St → Prop} {z : Int32} : ∀ (d k : Nat) (s : St) (σ : St), k + d = 64 → (s.1 = σ.1 ∧ ∀ j, j ≠ 12 → j ≠ 14 → s.2 j = σ.2 j) → (∀ i, i < k → s.2 14 i = s.2 13 i ∧ s.2 12 i = 100000000) → (∀ s', (s'.1 = σ.1 ∧ ∀ j, j ≠ 12 → j ≠ 14 → s'.2 j = σ.2 j) → (∀ i, i < 64 → s'.2 14 i = s'.2 13 i ∧ s'.2 12 i = 100000000) → K (nI 64) s') → w_X6_fewest_L60 z post K (d + 1) (nI k) s := by
  intro d
  induction d with
  | zero =>
    intro k s σ hk hs h hK
    have e : k = 64 := by omega
    subst e
    unfold w_X6_fewest_L60
    exact ⟨fun _ => hK s hs h, fun q => absurd ((le64 64 (by omega)).mpr (Nat.le_refl 64)) q⟩
  | succ d ih =>
    intro k s σ hk hs h hK
    have hk6 : k < 64 := by omega
    unfold w_X6_fewest_L60
    refine ⟨fun q => absurd ((le64 k (by omega)).mp q) (by omega), fun _ => ⟨vp_in_nI hk6 (by omega), vp_in_nI hk6 (by omega), vp_in_nI hk6 (by omega), ?_⟩⟩
    rw [nI_clamp (by omega), nI_1]
    refine ih (k + 1) _ σ (by omega) ⟨hs.1, fun j j1 j2 => ?_⟩ (fun i hi => ⟨?_, ?_⟩) hK
    · show va_up (va_up s.2 14 (upd (s.2 14) k (s.2 13 k))) 12 (upd (s.2 12) k 100000000) j = σ.2 j
      rw [va_up_ne _ _ j1, va_up_ne _ _ j2]
      exact hs.2 j j1 j2
    · show upd (s.2 14) k (s.2 13 k) i = s.2 13 i
      by_cases q : i = k
      · subst q; exact pk_us
      · rw [pk_un q]; exact (h i (by omega)).1
    · show upd (s.2 12) k 100000000 i = 100000000
      by_cases q : i = k
      · subst q; exact pk_us
      · rw [pk_un q]; exact (h i (by omega)).2
/-- the single ties' matrix -/
def SgI (es : List Ed) (Sg : Mat) : Prop := (∀ e ∈ es, Sg e.1 e.2.1 ≤ e.2.2) ∧ ∀ a b, Sg a b = 100000000 ∨ (a, b, Sg a b) ∈ es
theorem s_few94 {post : Int32 → St → Prop} {K : Int32 → St → Prop} {z : Int32} {σ : St} {nt : Nat} {ess : Nat → List Ed} (hn : σ.1 5 = nI nt) (hnt : nt ≤ 60) (hess : ∀ k, k < nt → TieE (σ.2 6 k) (σ.2 7 k) (σ.2 8 k) (σ.2 9 k) (σ.2 1) (σ.2 2) (ess k)) : ∀ (d k : Nat) (s : St) (Sg : Mat), k + d = nt → Same 12 σ s → RM (s.2 12) Sg → SgI (esAll ess k) Sg → (∀ s' Sg', Same 12 σ s' → RM (s'.2 12) Sg' → SgI (esAll ess nt) Sg' → K (nI nt) s') → w_X6_fewest_L94 z post K (d + 1) (nI k) s := by
  intro d
  induction d with
  | zero =>
    intro k s Sg hk hs h hI hK
    have e : k = nt := by omega
    subst e
    unfold w_X6_fewest_L94
    exact ⟨fun _ => hK s Sg hs h hI, fun q => absurd (by rw [hs.1, hn]; exact nI_le (Nat.le_refl k) (by omega)) q⟩
  | succ d ih =>
    intro k s Sg hk hs h hI hK
    have hkn : k < nt := by omega
    have ht := hess k hkn
    rw [← hs.2 6 (by decide), ← hs.2 7 (by decide), ← hs.2 8 (by decide), ← hs.2 9 (by decide), ← hs.2 1 (by decide), ← hs.2 2 (by decide)] at ht
    unfold w_X6_fewest_L94
    refine ⟨fun q => absurd q (by rw [hs.1, hn]; exact nI_ge hkn (by omega)), fun _ => ?_⟩
    refine s_bounds_a12 (by omega) ht h (fun a b ha hb => ?_) (fun τ hs2 h2 => ?_)
    · rcases hI.2 a b with q | q
      · omega
      · obtain ⟨i, hi, hm⟩ := (mem_esAll k).mp q
        have := tieE_ok (hess i (by omega)) _ hm
        dsimp only at this
        omega
    · rw [nI_1]
      refine ih (k + 1) τ _ (by omega) (hs.trans hs2) h2 ⟨fun e he => ?_, fun a b => ?_⟩ hK
      · rcases List.mem_append.mp he with q | q
        · have := (lows_le (ess k) Sg e.1 e.2.1).1
          have := hI.1 e q
          omega
        · exact (lows_le (ess k) Sg e.1 e.2.1).2 e.2.2 q
      · rcases lows_at (ess k) Sg a b with q | q
        · rw [q]
          rcases hI.2 a b with r | r
          · exact Or.inl r
          · exact Or.inr (List.mem_append.mpr (Or.inl r))
        · exact Or.inr (List.mem_append.mpr (Or.inr q))
