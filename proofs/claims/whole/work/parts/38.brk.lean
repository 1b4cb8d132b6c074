/-! the reference's breaks: does the tie behind the last quarrel with a matrix? -/
def Brk (es : List Ed) (T : Mat) : Prop := ∃ e ∈ es, e.2.2 + T e.2.1 e.1 < 0
def farM : Mat := fun _ _ => 100000000
def BrP (Sg T : Mat) (i c : Nat) : Prop := Sg i c < 100000000 ∧ Sg i c + T c i < 0
def Fl (Sg T : Mat) (x : Int32) (a j : Nat) : Prop := (x = 0 ∧ ∀ i c, i < 8 → c < 8 → (i < a ∨ (i = a ∧ c < j)) → ¬ BrP Sg T i c) ∨ (x = 1 ∧ ∃ i c, i < 8 ∧ c < 8 ∧ BrP Sg T i c)
theorem brk_iff {es : List Ed} {T : Mat} (hok : ∀ e ∈ es, e.1 < 8 ∧ e.2.1 < 8 ∧ -200001 ≤ e.2.2 ∧ e.2.2 ≤ 200000) : (∃ i c, i < 8 ∧ c < 8 ∧ BrP (lows es farM) T i c) ↔ Brk es T := by
  constructor
  · rintro ⟨i, c, hi, hc, h1, h2⟩
    rcases lows_at es farM i c with q | q
    · rw [q] at h1
      exact absurd h1 (by unfold farM; omega)
    · exact ⟨_, q, h2⟩
  · rintro ⟨e, he, h⟩
    have ho := hok e he
    have h1 := (lows_le es farM e.1 e.2.1).2 e.2.2 he
    exact ⟨e.1, e.2.1, ho.1, ho.2.1, by omega, by omega⟩
theorem lows_far {es : List Ed} (hok : ∀ e ∈ es, e.1 < 8 ∧ e.2.1 < 8 ∧ -200001 ≤ e.2.2 ∧ e.2.2 ≤ 200000) (a b : Nat) : -200001 ≤ lows es farM a b ∧ lows es farM a b ≤ 100000000 := by
  rcases lows_at es farM a b with q | q
  · rw [q]; unfold farM; omega
  · have := hok _ q
    dsimp only at this
    omega
theorem s_br55_a10 {post : Int32 → St → Prop} {K : Int32 → Int32 → St → Prop} {a : Nat} {s : St} {Sg T : Mat} (hS : RM (s.2 12) Sg) (hT : RM (s.2 10) T) (bS : ∀ a b, a < 8 → b < 8 → -200001 ≤ Sg a b ∧ Sg a b ≤ 100000000) (bT : Bd 400000 T) (ha : a < 8) : ∀ (d j : Nat) (x : Int32), j + d = 8 → Fl Sg T x a j → (∀ x', Fl Sg T x' a 8 → K x' (nI 8) s) → w_X6_breaks_a10_L55 (nI a) post K (d + 1) x (nI j) s := by
  intro d
  induction d with
  | zero =>
    intro j x hj h hK
    have e : j = 8 := by omega
    subst e
    unfold w_X6_breaks_a10_L55
    exact ⟨fun _ => hK x h, fun q => absurd ((le8 8 (by omega)).mpr (Nat.le_refl 8)) q⟩
  | succ d ih =>
    intro j x hj h hK
    have hj8 : j < 8 := by omega
    have b1 := bS a j ha hj8
    have b2 := bT j a hj8 ha
    have step0 : x = 0 → ¬ BrP Sg T a j → Fl Sg T 0 a (j + 1) := by
      intro hx hn
      rcases h with ⟨-, h⟩ | ⟨e, -⟩
      · refine Or.inl ⟨rfl, fun i c hi hc q => ?_⟩
        by_cases q2 : i = a ∧ c = j
        · rw [q2.1, q2.2]; exact hn
        · exact h i c hi hc (by omega)
      · exact absurd (hx.symm.trans e) (by decide)
    unfold w_X6_breaks_a10_L55
    refine ⟨fun q => absurd ((le8 j (by omega)).mp q) (by omega), fun _ => ⟨fun hx => ?_, fun hx => ⟨ix8_in ha hj8, ?_, ?_⟩⟩⟩
    · rw [nI_1]
      refine ih (j + 1) 1 (by omega) ?_ hK
      rcases h with ⟨e, -⟩ | ⟨-, h⟩
      · exact absurd e hx
      · exact Or.inr ⟨rfl, h⟩
    · rw [ix8_c ha hj8, hS a j ha hj8, show (100000000 : Int32) = iI 100000000 from rfl]
      intro q
      have q2 := (iI_le (by omega) (by omega) (by omega) (by omega)).mp q
      rw [nI_1]
      exact ih (j + 1) 0 (by omega) (step0 hx (fun z => by have := z.1; omega)) hK
    · rw [ix8_c ha hj8, ix8_c hj8 ha, hS a j ha hj8, hT j a hj8 ha, show (100000000 : Int32) = iI 100000000 from rfl, iI_add]
      intro q
      have q2 : ¬ 100000000 ≤ Sg a j := fun z => q ((iI_le (by omega) (by omega) (by omega) (by omega)).mpr z)
      refine ⟨ix8_in ha hj8, ix8_in hj8 ha, fun r => ?_, fun r => ?_⟩
      · have r2 := (iI_le (a := 0) (by omega) (by omega) (by omega) (by omega)).mp r
        rw [nI_1]
        exact ih (j + 1) 0 (by omega) (step0 hx (fun z => by have := z.2; omega)) hK
      · have r2 : ¬ 0 ≤ Sg a j + T j a := fun z => r ((iI_le (a := 0) (by omega) (by omega) (by omega) (by omega)).mpr z)
        rw [nI_1]
        exact ih (j + 1) 1 (by omega) (Or.inr ⟨rfl, a, j, ha, hj8, by omega, by omega⟩) hK
theorem s_breaks_a10 {post : Int32 → St → Prop} {σ : St} {nt : Nat} {es : List Ed} {T : Mat} (hn : σ.1 5 = nI nt) (hnt : nt < 61) (ht : TieE (σ.2 6 nt) (σ.2 7 nt) (σ.2 8 nt) (σ.2 9 nt) (σ.2 1) (σ.2 2) es) (hT : RM (σ.2 10) T) (bT : Bd 400000 T)
    (hy : Brk es T → ∀ τ, Same 12 σ τ → post 1 τ) (hz : ¬ Brk es T → ∀ τ, Same 12 σ τ → post 0 τ) : w_X6_breaks_a10 σ post := by
  have hok := tieE_ok ht
  have hfin : ∀ (τ : St) (x : Int32), Same 12 σ τ → Fl (lows es farM) T x 8 0 → (narrow .boolean (.int x) = .int x ∧ post x τ) := by
    intro τ x hs h
    rcases h with ⟨rfl, h⟩ | ⟨rfl, h⟩
    · refine ⟨rfl, hz (fun hb => ?_) τ hs⟩
      obtain ⟨i, c, hi, hc, q⟩ := (brk_iff hok).mpr hb
      exact h i c hi hc (by omega) q
    · exact ⟨rfl, hy ((brk_iff hok).mp h) τ hs⟩
  have L46 : ∀ (s : St), Same 12 σ s → RM (s.2 12) (lows es farM) → ∀ (d a : Nat) (x : Int32), a + d = 8 → Fl (lows es farM) T x a 0 → w_X6_breaks_a10_L46 post (fun x2 _ s => (narrow .boolean (.int x2) = .int x2 ∧ post x2 s)) (d + 1) x (nI a) s := by
    intro s hs hS d
    induction d with
    | zero =>
      intro a x ha h
      have e : a = 8 := by omega
      subst e
      unfold w_X6_breaks_a10_L46
      exact ⟨fun _ => hfin s x hs h, fun q => absurd ((le8 8 (by omega)).mpr (Nat.le_refl 8)) q⟩
    | succ d ih =>
      intro a x ha h
      unfold w_X6_breaks_a10_L46
      refine ⟨fun q => absurd ((le8 a (by omega)).mp q) (by omega), fun _ => ⟨9, ?_⟩⟩
      refine s_br55_a10 hS (by rw [hs.2 10 (by decide)]; exact hT) (fun a b _ _ => lows_far hok a b) bT (by omega) 8 0 x (by omega) h (fun x' h' => ?_)
      rw [nI_1]
      refine ih (a + 1) x' (by omega) ?_
      rcases h' with ⟨e, h'⟩ | h'
      · exact Or.inl ⟨e, fun i c hi hc q => h' i c hi hc (by omega)⟩
      · exact Or.inr h'
  have L10 : ∀ (d k : Nat) (s : St), k + d = 64 → Same 12 σ s → (∀ i, i < k → s.2 12 i = 100000000) → w_X6_breaks_a10_L10 post (fun _ s => w_X6_bounds_a12 s (s.1 5) (fun u => (∃ n, w_X6_breaks_a10_L46 post (fun x2 _ s => (narrow .boolean (.int x2) = .int x2 ∧ post x2 s)) n 0 0 u))) (d + 1) (nI k) s := by
    intro d
    induction d with
    | zero =>
      intro k s hk hs h
      have e : k = 64 := by omega
      subst e
      unfold w_X6_breaks_a10_L10
      refine ⟨fun _ => ?_, fun q => absurd ((le64 64 (by omega)).mpr (Nat.le_refl 64)) q⟩
      rw [hs.1, hn]
      have ht2 := ht
      rw [← hs.2 6 (by decide), ← hs.2 7 (by decide), ← hs.2 8 (by decide), ← hs.2 9 (by decide), ← hs.2 1 (by decide), ← hs.2 2 (by decide)] at ht2
      refine s_bounds_a12 (T := farM) hnt ht2 (fun a b ha hb => ?_) (fun a b _ _ => ?_) (fun τ hs2 h2 => ⟨9, ?_⟩)
      · rw [h (8 * a + b) (by omega)]
        rfl
      · unfold farM
        omega
      · exact L46 τ (hs.trans hs2) h2 8 0 0 (by omega) (Or.inl ⟨rfl, fun i c _ _ q => absurd q (by omega)⟩)
    | succ d ih =>
      intro k s hk hs h
      have hk6 : k < 64 := by omega
      unfold w_X6_breaks_a10_L10
      refine ⟨fun q => absurd ((le64 k (by omega)).mp q) (by omega), fun _ => ⟨vp_in_nI hk6 (by omega), ?_⟩⟩
      rw [nI_clamp (by omega), nI_1]
      refine ih (k + 1) _ (by omega) (hs.trans (Same.up 12 s _)) (fun i hi => ?_)
      show upd (s.2 12) k 100000000 i = 100000000
      by_cases q : i = k
      · subst q; exact pk_us
      · rw [pk_un q]; exact h i (by omega)
  unfold w_X6_breaks_a10
  exact s_first_a12 (fun τ hs _ => ⟨65, L10 64 0 τ (by omega) hs (fun i q => absurd q (Nat.not_lt_zero i))⟩)
theorem s_br55_a13 {post : Int32 → St → Prop} {K : Int32 → Int32 → St → Prop} {a : Nat} {s : St} {Sg T : Mat} (hS : RM (s.2 12) Sg) (hT : RM (s.2 13) T) (bS : ∀ a b, a < 8 → b < 8 → -200001 ≤ Sg a b ∧ Sg a b ≤ 100000000) (bT : Bd 400000 T) (ha : a < 8) : ∀ (d j : Nat) (x : Int32), j + d = 8 → Fl Sg T x a j → (∀ x', Fl Sg T x' a 8 → K x' (nI 8) s) → w_X6_breaks_a13_L55 (nI a) post K (d + 1) x (nI j) s := by
  intro d
  induction d with
  | zero =>
    intro j x hj h hK
    have e : j = 8 := by omega
    subst e
    unfold w_X6_breaks_a13_L55
    exact ⟨fun _ => hK x h, fun q => absurd ((le8 8 (by omega)).mpr (Nat.le_refl 8)) q⟩
  | succ d ih =>
    intro j x hj h hK
    have hj8 : j < 8 := by omega
    have b1 := bS a j ha hj8
    have b2 := bT j a hj8 ha
    have step0 : x = 0 → ¬ BrP Sg T a j → Fl Sg T 0 a (j + 1) := by
      intro hx hn
      rcases h with ⟨-, h⟩ | ⟨e, -⟩
      · refine Or.inl ⟨rfl, fun i c hi hc q => ?_⟩
        by_cases q2 : i = a ∧ c = j
        · rw [q2.1, q2.2]; exact hn
        · exact h i c hi hc (by omega)
      · exact absurd (hx.symm.trans e) (by decide)
    unfold w_X6_breaks_a13_L55
    refine ⟨fun q => absurd ((le8 j (by omega)).mp q) (by omega), fun _ => ⟨fun hx => ?_, fun hx => ⟨ix8_in ha hj8, ?_, ?_⟩⟩⟩
    · rw [nI_1]
      refine ih (j + 1) 1 (by omega) ?_ hK
      rcases h with ⟨e, -⟩ | ⟨-, h⟩
      · exact absurd e hx
      · exact Or.inr ⟨rfl, h⟩
    · rw [ix8_c ha hj8, hS a j ha hj8, show (100000000 : Int32) = iI 100000000 from rfl]
      intro q
      have q2 := (iI_le (by omega) (by omega) (by omega) (by omega)).mp q
      rw [nI_1]
      exact ih (j + 1) 0 (by omega) (step0 hx (fun z => by have := z.1; omega)) hK
    · rw [ix8_c ha hj8, ix8_c hj8 ha, hS a j ha hj8, hT j a hj8 ha, show (100000000 : Int32) = iI 100000000 from rfl, iI_add]
      intro q
      have q2 : ¬ 100000000 ≤ Sg a j := fun z => q ((iI_le (by omega) (by omega) (by omega) (by omega)).mpr z)
      refine ⟨ix8_in ha hj8, ix8_in hj8 ha, fun r => ?_, fun r => ?_⟩
      · have r2 := (iI_le (a := 0) (by omega) (by omega) (by omega) (by omega)).mp r
        rw [nI_1]
        exact ih (j + 1) 0 (by omega) (step0 hx (fun z => by have := z.2; omega)) hK
      · have r2 : ¬ 0 ≤ Sg a j + T j a := fun z => r ((iI_le (a := 0) (by omega) (by omega) (by omega) (by omega)).mpr z)
        rw [nI_1]
        exact ih (j + 1) 1 (by omega) (Or.inr ⟨rfl, a, j, ha, hj8, by omega, by omega⟩) hK
theorem s_breaks_a13 {post : Int32 → St → Prop} {σ : St} {nt : Nat} {es : List Ed} {T : Mat} (hn : σ.1 5 = nI nt) (hnt : nt < 61) (ht : TieE (σ.2 6 nt) (σ.2 7 nt) (σ.2 8 nt) (σ.2 9 nt) (σ.2 1) (σ.2 2) es) (hT : RM (σ.2 13) T) (bT : Bd 400000 T)
    (hy : Brk es T → ∀ τ, Same 12 σ τ → post 1 τ) (hz : ¬ Brk es T → ∀ τ, Same 12 σ τ → post 0 τ) : w_X6_breaks_a13 σ post := by
  have hok := tieE_ok ht
  have hfin : ∀ (τ : St) (x : Int32), Same 12 σ τ → Fl (lows es farM) T x 8 0 → (narrow .boolean (.int x) = .int x ∧ post x τ) := by
    intro τ x hs h
    rcases h with ⟨rfl, h⟩ | ⟨rfl, h⟩
    · refine ⟨rfl, hz (fun hb => ?_) τ hs⟩
      obtain ⟨i, c, hi, hc, q⟩ := (brk_iff hok).mpr hb
      exact h i c hi hc (by omega) q
    · exact ⟨rfl, hy ((brk_iff hok).mp h) τ hs⟩
  have L46 : ∀ (s : St), Same 12 σ s → RM (s.2 12) (lows es farM) → ∀ (d a : Nat) (x : Int32), a + d = 8 → Fl (lows es farM) T x a 0 → w_X6_breaks_a13_L46 post (fun x2 _ s => (narrow .boolean (.int x2) = .int x2 ∧ post x2 s)) (d + 1) x (nI a) s := by
    intro s hs hS d
    induction d with
    | zero =>
      intro a x ha h
      have e : a = 8 := by omega
      subst e
      unfold w_X6_breaks_a13_L46
      exact ⟨fun _ => hfin s x hs h, fun q => absurd ((le8 8 (by omega)).mpr (Nat.le_refl 8)) q⟩
    | succ d ih =>
      intro a x ha h
      unfold w_X6_breaks_a13_L46
      refine ⟨fun q => absurd ((le8 a (by omega)).mp q) (by omega), fun _ => ⟨9, ?_⟩⟩
      refine s_br55_a13 hS (by rw [hs.2 13 (by decide)]; exact hT) (fun a b _ _ => lows_far hok a b) bT (by omega) 8 0 x (by omega) h (fun x' h' => ?_)
      rw [nI_1]
      refine ih (a + 1) x' (by omega) ?_
      rcases h' with ⟨e, h'⟩ | h'
      · exact Or.inl ⟨e, fun i c hi hc q => h' i c hi hc (by omega)⟩
      · exact Or.inr h'
  have L10 : ∀ (d k : Nat) (s : St), k + d = 64 → Same 12 σ s → (∀ i, i < k → s.2 12 i = 100000000) → w_X6_breaks_a13_L10 post (fun _ s => w_X6_bounds_a12 s (s.1 5) (fun u => (∃ n, w_X6_breaks_a13_L46 post (fun x2 _ s => (narrow .boolean (.int x2) = .int x2 ∧ post x2 s)) n 0 0 u))) (d + 1) (nI k) s := by
    intro d
    induction d with
    | zero =>
      intro k s hk hs h
      have e : k = 64 := by omega
      subst e
      unfold w_X6_breaks_a13_L10
      refine ⟨fun _ => ?_, fun q => absurd ((le64 64 (by omega)).mpr (Nat.le_refl 64)) q⟩
      rw [hs.1, hn]
      have ht2 := ht
      rw [← hs.2 6 (by decide), ← hs.2 7 (by decide), ← hs.2 8 (by decide), ← hs.2 9 (by decide), ← hs.2 1 (by decide), ← hs.2 2 (by decide)] at ht2
      refine s_bounds_a12 (T := farM) hnt ht2 (fun a b ha hb => ?_) (fun a b _ _ => ?_) (fun τ hs2 h2 => ⟨9, ?_⟩)
      · rw [h (8 * a + b) (by omega)]
        rfl
      · unfold farM
        omega
      · exact L46 τ (hs.trans hs2) h2 8 0 0 (by omega) (Or.inl ⟨rfl, fun i c _ _ q => absurd q (by omega)⟩)
    | succ d ih =>
      intro k s hk hs h
      have hk6 : k < 64 := by omega
      unfold w_X6_breaks_a13_L10
      refine ⟨fun q => absurd ((le64 k (by omega)).mp q) (by omega), fun _ => ⟨vp_in_nI hk6 (by omega), ?_⟩⟩
      rw [nI_clamp (by omega), nI_1]
      refine ih (k + 1) _ (by omega) (hs.trans (Same.up 12 s _)) (fun i hi => ?_)
      show upd (s.2 12) k 100000000 i = 100000000
      by_cases q : i = k
      · subst q; exact pk_us
      · rw [pk_un q]; exact h i (by omega)
  unfold w_X6_breaks_a13
  exact s_first_a12 (fun τ hs _ => ⟨65, L10 64 0 τ (by omega) hs (fun i q => absurd q (Nat.not_lt_zero i))⟩)
