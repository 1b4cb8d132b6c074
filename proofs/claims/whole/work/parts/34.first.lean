/-! the reference's own rows: first, bounds, closed -/
def Same (J : Nat) (σ τ : St) : Prop := τ.1 = σ.1 ∧ ∀ j, j ≠ J → τ.2 j = σ.2 j
theorem Same.refl (J : Nat) (σ : St) : Same J σ σ := ⟨rfl, fun _ _ => rfl⟩
theorem Same.trans {J : Nat} {σ τ υ : St} (h1 : Same J σ τ) (h2 : Same J τ υ) : Same J σ υ := ⟨h2.1.trans h1.1, fun j hj => (h2.2 j hj).trans (h1.2 j hj)⟩
theorem Same.up (J : Nat) (σ : St) (f : Nat → Int32) : Same J σ (σ.1, va_up σ.2 J f) := ⟨rfl, fun j hj => va_up_ne _ _ hj⟩
theorem Same.up2 (J : Nat) (σ : St) (f g : Nat → Int32) : Same J σ (σ.1, va_up (va_up σ.2 J f) J g) := ⟨rfl, fun j hj => by show va_up (va_up σ.2 J f) J g j = σ.2 j; rw [va_up_ne _ _ hj, va_up_ne _ _ hj]⟩
theorem up_at (f : Nat → Nat → Int32) (J : Nat) (g : Nat → Int32) : va_up f J g J = g := va_up_self f J g
/-- the bounds that a tie is: kind, one, two, three, over cameras and clocks of the pictures -/
def TieE (kind one two three : Int32) (cam clk : Nat → Int32) (es : List Ed) : Prop :=
  (kind = 0 ∧ ∃ p q c d : Nat, ∃ x y m : Int, p < 120 ∧ q < 120 ∧ c < 8 ∧ d < 8 ∧ one = nI p ∧ two = nI q ∧ cam p = nI c ∧ cam q = nI d ∧ clk p = iI x ∧ clk q = iI y ∧ 0 ≤ x ∧ x ≤ 100000 ∧ 0 ≤ y ∧ y ≤ 100000 ∧ three = iI m ∧ 0 ≤ m ∧ m ≤ 10000 ∧ es = [(c, d, m + (y - x)), (d, c, m - (y - x))]) ∨
  (kind = 1 ∧ ∃ p q c d : Nat, ∃ x y : Int, p < 120 ∧ q < 120 ∧ c < 8 ∧ d < 8 ∧ one = nI p ∧ two = nI q ∧ cam p = nI c ∧ cam q = nI d ∧ clk p = iI x ∧ clk q = iI y ∧ 0 ≤ x ∧ x ≤ 100000 ∧ 0 ≤ y ∧ y ≤ 100000 ∧ es = [(c, d, y - x - 1)]) ∨
  (kind = 2 ∧ ∃ c : Nat, ∃ lo hi : Int, c < 8 ∧ one = nI c ∧ two = iI lo ∧ three = iI hi ∧ -200000 ≤ lo ∧ lo ≤ hi ∧ hi ≤ 200000 ∧ es = [(c, 0, hi), (0, c, -lo)])
def lows (es : List Ed) (T : Mat) : Mat := es.foldl (fun T e => updM T e.1 e.2.1 (min (T e.1 e.2.1) e.2.2)) T
theorem tieE_ok {kind one two three : Int32} {cam clk : Nat → Int32} {es : List Ed} (h : TieE kind one two three cam clk es) : ∀ e ∈ es, e.1 < 8 ∧ e.2.1 < 8 ∧ -200001 ≤ e.2.2 ∧ e.2.2 ≤ 200000 := by
  intro e he
  rcases h with ⟨-, p, q, c, d, x, y, m, h⟩ | ⟨-, p, q, c, d, x, y, h⟩ | ⟨-, c, lo, hi, h⟩
  · obtain ⟨-, -, hc, hd, -, -, -, -, -, -, h1, h2, h3, h4, -, h5, h6, rfl⟩ := h
    rcases List.mem_cons.mp he with h | h
    · subst h; refine ⟨hc, hd, ?_, ?_⟩ <;> show _ ≤ _ <;> dsimp only <;> omega
    · rw [List.mem_singleton] at h
      subst h; refine ⟨hd, hc, ?_, ?_⟩ <;> show _ ≤ _ <;> dsimp only <;> omega
  · obtain ⟨-, -, hc, hd, -, -, -, -, -, -, h1, h2, h3, h4, rfl⟩ := h
    rw [List.mem_singleton] at he
    subst he; refine ⟨hc, hd, ?_, ?_⟩ <;> show _ ≤ _ <;> dsimp only <;> omega
  · obtain ⟨hc, -, -, -, h1, h2, h3, rfl⟩ := h
    rcases List.mem_cons.mp he with h | h
    · subst h; refine ⟨hc, by show 0 < 8; omega, ?_, ?_⟩ <;> show _ ≤ _ <;> dsimp only <;> omega
    · rw [List.mem_singleton] at h
      subst h; refine ⟨by show 0 < 8; omega, hc, ?_, ?_⟩ <;> show _ ≤ _ <;> dsimp only <;> omega
theorem lows_le (es : List Ed) : ∀ (T : Mat) (a b : Nat), lows es T a b ≤ T a b ∧ ∀ w, (a, b, w) ∈ es → lows es T a b ≤ w := by
  induction es with
  | nil => exact fun T a b => ⟨Int.le_refl _, fun w h => nomatch h⟩
  | cons e es ih =>
    intro T a b
    obtain ⟨h1, h2⟩ := ih (updM T e.1 e.2.1 (min (T e.1 e.2.1) e.2.2)) a b
    have h3 : lows (e :: es) T = lows es (updM T e.1 e.2.1 (min (T e.1 e.2.1) e.2.2)) := rfl
    rw [h3]
    have h4 : updM T e.1 e.2.1 (min (T e.1 e.2.1) e.2.2) a b ≤ T a b := by
      unfold updM
      split
      · next q => rw [q.1, q.2]; omega
      · exact Int.le_refl _
    refine ⟨by omega, fun w hw => ?_⟩
    rcases List.mem_cons.mp hw with h | h
    · subst h
      have h5 : updM T a b (min (T a b) w) a b ≤ w := by
        unfold updM
        rw [if_pos ⟨rfl, rfl⟩]
        omega
      exact Int.le_trans h1 h5
    · exact h2 w h
theorem lows_at (es : List Ed) : ∀ (T : Mat) (a b : Nat), lows es T a b = T a b ∨ (a, b, lows es T a b) ∈ es := by
  induction es with
  | nil => exact fun T a b => Or.inl rfl
  | cons e es ih =>
    intro T a b
    have h3 : lows (e :: es) T = lows es (updM T e.1 e.2.1 (min (T e.1 e.2.1) e.2.2)) := rfl
    rw [h3]
    rcases ih (updM T e.1 e.2.1 (min (T e.1 e.2.1) e.2.2)) a b with h | h
    · rw [h]
      unfold updM
      by_cases q : a = e.1 ∧ b = e.2.1
      · rw [if_pos q]
        rcases Int.le_total (T e.1 e.2.1) e.2.2 with g | g
        · rw [Int.min_eq_left g, q.1, q.2]
          exact Or.inl rfl
        · rw [Int.min_eq_right g, q.1, q.2]
          exact Or.inr List.mem_cons_self
      · rw [if_neg q]
        exact Or.inl rfl
    · exact Or.inr (List.mem_cons_of_mem _ h)
/-- a matrix that is the bounds of the offsets and of some ties, not yet closed -/
def Cov (E : Edg) (T : Mat) : Prop := (∀ a b, a < 8 → b < 8 → T a b ≤ fst0 a b) ∧ (∀ a b w, a < 8 → b < 8 → E a b w → T a b ≤ w) ∧ ∀ a b, a < 8 → b < 8 → T a b = fst0 a b ∨ E a b (T a b)
theorem cov_sound {E : Edg} {T : Mat} (h : Cov E T) : Sound E T := by
  intro v hv a b ha hb
  rcases h.2.2 a b ha hb with e | e
  · rw [e]
    exact fst0_tight.1 v ⟨hv.1, hv.2.1, fun _ _ _ _ _ q => q.elim⟩ a b ha hb
  · exact hv.2.2 a b _ ha hb e
theorem cov_fw {E : Edg} {T : Mat} (h : Cov E T) (hf : ∃ v, Feas E v) : (∀ k, k ≤ 8 → ∀ a, a < 8 → fws k T a a = 0) ∧ (∀ k, k ≤ 8 → Bd 400000 (fws k T)) ∧ Tight E (fws 8 T) := by
  have hS := cov_sound h
  obtain ⟨v, hv⟩ := id hf
  have hd : ∀ a, a < 8 → T a a = 0 := by
    intro a ha
    have h1 := hS v hv a a ha ha
    have h2 := h.1 a a ha ha
    have h3 := fst0_closed.1 a ha
    omega
  have hb : ∀ a b, a < 8 → b < 8 → fst0 a b ≤ 400000 := fun a b ha hb => (tight_bd fst0_tight ha hb).2
  refine ⟨fun k hk => (fws_inv hd (hS v hv) k hk).2.2.1, fun k hk a b ha hb' => ?_, fw_tight hd hS h.2.1 (fun a ha => ?_) hf⟩
  · obtain ⟨i1, i2, -, -⟩ := fws_inv hd (hS v hv) k hk
    have g1 := i1 v (hS v hv) a b ha hb'
    have g2 := i2 a b
    have g3 := h.1 a b ha hb'
    have g4 := hb a b ha hb'
    have g5 := hv.2.1 a ha
    have g6 := hv.2.1 b hb'
    omega
  · have g1 := h.1 a 0 ha (by omega)
    have g2 := h.1 0 a (by omega) ha
    have g3 := tight_bd0 fst0_tight ha
    omega
theorem s_first_L10_a10 {post : St → Prop} {K : Int32 → St → Prop} {σ : St} {a : Nat} (ha : a < 8) : ∀ (d j : Nat) (s : St), j + d = 8 → Same 10 σ s → (∀ i c, i < 8 → c < 8 → (i < a ∨ (i = a ∧ c < j)) → s.2 10 (8 * i + c) = iI (fst0 i c)) → (∀ s', Same 10 σ s' → (∀ i c, i < 8 → c < 8 → i < a + 1 → s'.2 10 (8 * i + c) = iI (fst0 i c)) → K (nI 8) s') → w_X6_first_a10_L10 (nI a) post K (d + 1) (nI j) s := by
  intro d
  induction d with
  | zero =>
    intro j s hj hs h hK
    have e : j = 8 := by omega
    subst e
    unfold w_X6_first_a10_L10
    exact ⟨fun _ => hK s hs (fun i c hi hc q => h i c hi hc (by omega)), fun q => absurd ((le8 8 (by omega)).mpr (Nat.le_refl 8)) q⟩
  | succ d ih =>
    intro j s hj hs h hK
    have hj8 : j < 8 := by omega
    have go : ∀ z : Int32, z = iI (fst0 a j) → (vp_in ((8 * nI a) + nI j) 64 ∧ w_X6_first_a10_L10 (nI a) post K (d + 1) (nI j + 1) (s.1, (va_up s.2 10 (upd (s.2 10) (Int32.toNatClampNeg ((8 * nI a) + nI j)) z)))) := by
      intro z hz
      refine ⟨ix8_in ha hj8, ?_⟩
      rw [ix8_c ha hj8, nI_1, hz]
      refine ih (j + 1) _ (by omega) (hs.trans (Same.up 10 s _)) (fun i c hi hc q => ?_) hK
      show va_up s.2 10 (upd (s.2 10) (8 * a + j) (iI (fst0 a j))) 10 (8 * i + c) = iI (fst0 i c)
      rw [up_at]
      by_cases q2 : i = a ∧ c = j
      · rw [q2.1, q2.2]
        exact pk_us
      · rw [pk_un (fun e => q2 (by omega))]
        exact h i c hi hc (by omega)
    unfold w_X6_first_a10_L10
    refine ⟨fun q => absurd ((le8 j (by omega)).mp q) (by omega), fun _ => ⟨fun n1 => ⟨fun e => ?_, fun n2 => ⟨fun n3 => ?_, fun e => ?_⟩⟩, fun e => ?_⟩⟩
    · refine go _ ?_
      have e1 : a = 0 := (nI_eq (by omega) (by omega)).mp (e.trans nI_0.symm)
      have e2 : a ≠ j := fun q => n1 (by rw [q])
      subst e1
      have e3 : ¬ 0 = j := e2
      simp only [fst0, e3, if_false, true_or, if_true]
      rfl
    · refine go _ ?_
      have e1 : a ≠ 0 := fun q => n2 (by rw [q]; rfl)
      have e2 : a ≠ j := fun q => n1 (by rw [q])
      have e3 : j ≠ 0 := fun q => n3 (by rw [q]; rfl)
      simp only [fst0, e1, e2, e3, if_false, or_self]
      rfl
    · refine go _ ?_
      have e1 : j = 0 := (nI_eq (by omega) (by omega)).mp (e.trans nI_0.symm)
      have e2 : a ≠ j := fun q => n1 (by rw [q])
      subst e1
      simp only [fst0, e2, if_false, or_true, if_true]
      rfl
    · refine go _ ?_
      have e1 : a = j := (nI_eq (by omega) (by omega)).mp e
      subst e1
      simp only [fst0, if_true]
      rfl
theorem s_first_a10 {post : St → Prop} {σ : St} (hp : ∀ τ, Same 10 σ τ → RM (τ.2 10) fst0 → post τ) : w_X6_first_a10 σ post := by
  have L : ∀ (d a : Nat) (s : St), a + d = 8 → Same 10 σ s → (∀ i c, i < 8 → c < 8 → i < a → s.2 10 (8 * i + c) = iI (fst0 i c)) → w_X6_first_a10_L2 post (fun _ s => post s) (d + 1) (nI a) s := by
    intro d
    induction d with
    | zero =>
      intro a s ha hs h
      have e : a = 8 := by omega
      subst e
      unfold w_X6_first_a10_L2
      exact ⟨fun _ => hp s hs (fun i c hi hc => h i c hi hc hi), fun q => absurd ((le8 8 (by omega)).mpr (Nat.le_refl 8)) q⟩
    | succ d ih =>
      intro a s ha hs h
      unfold w_X6_first_a10_L2
      refine ⟨fun q => absurd ((le8 a (by omega)).mp q) (by omega), fun _ => ⟨9, ?_⟩⟩
      refine s_first_L10_a10 (by omega) 8 0 s (by omega) hs (fun i c hi hc q => h i c hi hc (by omega)) (fun s' hs' h' => ?_)
      rw [nI_1]
      exact ih (a + 1) s' (by omega) hs' h'
  unfold w_X6_first_a10
  exact ⟨9, L 8 0 σ (by omega) (Same.refl _ _) (fun i c _ _ q => absurd q (Nat.not_lt_zero i))⟩
theorem s_first_L10_a11 {post : St → Prop} {K : Int32 → St → Prop} {σ : St} {a : Nat} (ha : a < 8) : ∀ (d j : Nat) (s : St), j + d = 8 → Same 11 σ s → (∀ i c, i < 8 → c < 8 → (i < a ∨ (i = a ∧ c < j)) → s.2 11 (8 * i + c) = iI (fst0 i c)) → (∀ s', Same 11 σ s' → (∀ i c, i < 8 → c < 8 → i < a + 1 → s'.2 11 (8 * i + c) = iI (fst0 i c)) → K (nI 8) s') → w_X6_first_a11_L10 (nI a) post K (d + 1) (nI j) s := by
  intro d
  induction d with
  | zero =>
    intro j s hj hs h hK
    have e : j = 8 := by omega
    subst e
    unfold w_X6_first_a11_L10
    exact ⟨fun _ => hK s hs (fun i c hi hc q => h i c hi hc (by omega)), fun q => absurd ((le8 8 (by omega)).mpr (Nat.le_refl 8)) q⟩
  | succ d ih =>
    intro j s hj hs h hK
    have hj8 : j < 8 := by omega
    have go : ∀ z : Int32, z = iI (fst0 a j) → (vp_in ((8 * nI a) + nI j) 64 ∧ w_X6_first_a11_L10 (nI a) post K (d + 1) (nI j + 1) (s.1, (va_up s.2 11 (upd (s.2 11) (Int32.toNatClampNeg ((8 * nI a) + nI j)) z)))) := by
      intro z hz
      refine ⟨ix8_in ha hj8, ?_⟩
      rw [ix8_c ha hj8, nI_1, hz]
      refine ih (j + 1) _ (by omega) (hs.trans (Same.up 11 s _)) (fun i c hi hc q => ?_) hK
      show va_up s.2 11 (upd (s.2 11) (8 * a + j) (iI (fst0 a j))) 11 (8 * i + c) = iI (fst0 i c)
      rw [up_at]
      by_cases q2 : i = a ∧ c = j
      · rw [q2.1, q2.2]
        exact pk_us
      · rw [pk_un (fun e => q2 (by omega))]
        exact h i c hi hc (by omega)
    unfold w_X6_first_a11_L10
    refine ⟨fun q => absurd ((le8 j (by omega)).mp q) (by omega), fun _ => ⟨fun n1 => ⟨fun e => ?_, fun n2 => ⟨fun n3 => ?_, fun e => ?_⟩⟩, fun e => ?_⟩⟩
    · refine go _ ?_
      have e1 : a = 0 := (nI_eq (by omega) (by omega)).mp (e.trans nI_0.symm)
      have e2 : a ≠ j := fun q => n1 (by rw [q])
      subst e1
      have e3 : ¬ 0 = j := e2
      simp only [fst0, e3, if_false, true_or, if_true]
      rfl
    · refine go _ ?_
      have e1 : a ≠ 0 := fun q => n2 (by rw [q]; rfl)
      have e2 : a ≠ j := fun q => n1 (by rw [q])
      have e3 : j ≠ 0 := fun q => n3 (by rw [q]; rfl)
      simp only [fst0, e1, e2, e3, if_false, or_self]
      rfl
    · refine go _ ?_
      have e1 : j = 0 := (nI_eq (by omega) (by omega)).mp (e.trans nI_0.symm)
      have e2 : a ≠ j := fun q => n1 (by rw [q])
      subst e1
      simp only [fst0, e2, if_false, or_true, if_true]
      rfl
    · refine go _ ?_
      have e1 : a = j := (nI_eq (by omega) (by omega)).mp e
      subst e1
      simp only [fst0, if_true]
      rfl
theorem s_first_a11 {post : St → Prop} {σ : St} (hp : ∀ τ, Same 11 σ τ → RM (τ.2 11) fst0 → post τ) : w_X6_first_a11 σ post := by
  have L : ∀ (d a : Nat) (s : St), a + d = 8 → Same 11 σ s → (∀ i c, i < 8 → c < 8 → i < a → s.2 11 (8 * i + c) = iI (fst0 i c)) → w_X6_first_a11_L2 post (fun _ s => post s) (d + 1) (nI a) s := by
    intro d
    induction d with
    | zero =>
      intro a s ha hs h
      have e : a = 8 := by omega
      subst e
      unfold w_X6_first_a11_L2
      exact ⟨fun _ => hp s hs (fun i c hi hc => h i c hi hc hi), fun q => absurd ((le8 8 (by omega)).mpr (Nat.le_refl 8)) q⟩
    | succ d ih =>
      intro a s ha hs h
      unfold w_X6_first_a11_L2
      refine ⟨fun q => absurd ((le8 a (by omega)).mp q) (by omega), fun _ => ⟨9, ?_⟩⟩
      refine s_first_L10_a11 (by omega) 8 0 s (by omega) hs (fun i c hi hc q => h i c hi hc (by omega)) (fun s' hs' h' => ?_)
      rw [nI_1]
      exact ih (a + 1) s' (by omega) hs' h'
  unfold w_X6_first_a11
  exact ⟨9, L 8 0 σ (by omega) (Same.refl _ _) (fun i c _ _ q => absurd q (Nat.not_lt_zero i))⟩
theorem s_first_L10_a12 {post : St → Prop} {K : Int32 → St → Prop} {σ : St} {a : Nat} (ha : a < 8) : ∀ (d j : Nat) (s : St), j + d = 8 → Same 12 σ s → (∀ i c, i < 8 → c < 8 → (i < a ∨ (i = a ∧ c < j)) → s.2 12 (8 * i + c) = iI (fst0 i c)) → (∀ s', Same 12 σ s' → (∀ i c, i < 8 → c < 8 → i < a + 1 → s'.2 12 (8 * i + c) = iI (fst0 i c)) → K (nI 8) s') → w_X6_first_a12_L10 (nI a) post K (d + 1) (nI j) s := by
  intro d
  induction d with
  | zero =>
    intro j s hj hs h hK
    have e : j = 8 := by omega
    subst e
    unfold w_X6_first_a12_L10
    exact ⟨fun _ => hK s hs (fun i c hi hc q => h i c hi hc (by omega)), fun q => absurd ((le8 8 (by omega)).mpr (Nat.le_refl 8)) q⟩
  | succ d ih =>
    intro j s hj hs h hK
    have hj8 : j < 8 := by omega
    have go : ∀ z : Int32, z = iI (fst0 a j) → (vp_in ((8 * nI a) + nI j) 64 ∧ w_X6_first_a12_L10 (nI a) post K (d + 1) (nI j + 1) (s.1, (va_up s.2 12 (upd (s.2 12) (Int32.toNatClampNeg ((8 * nI a) + nI j)) z)))) := by
      intro z hz
      refine ⟨ix8_in ha hj8, ?_⟩
      rw [ix8_c ha hj8, nI_1, hz]
      refine ih (j + 1) _ (by omega) (hs.trans (Same.up 12 s _)) (fun i c hi hc q => ?_) hK
      show va_up s.2 12 (upd (s.2 12) (8 * a + j) (iI (fst0 a j))) 12 (8 * i + c) = iI (fst0 i c)
      rw [up_at]
      by_cases q2 : i = a ∧ c = j
      · rw [q2.1, q2.2]
        exact pk_us
      · rw [pk_un (fun e => q2 (by omega))]
        exact h i c hi hc (by omega)
    unfold w_X6_first_a12_L10
    refine ⟨fun q => absurd ((le8 j (by omega)).mp q) (by omega), fun _ => ⟨fun n1 => ⟨fun e => ?_, fun n2 => ⟨fun n3 => ?_, fun e => ?_⟩⟩, fun e => ?_⟩⟩
    · refine go _ ?_
      have e1 : a = 0 := (nI_eq (by omega) (by omega)).mp (e.trans nI_0.symm)
      have e2 : a ≠ j := fun q => n1 (by rw [q])
      subst e1
      have e3 : ¬ 0 = j := e2
      simp only [fst0, e3, if_false, true_or, if_true]
      rfl
    · refine go _ ?_
      have e1 : a ≠ 0 := fun q => n2 (by rw [q]; rfl)
      have e2 : a ≠ j := fun q => n1 (by rw [q])
      have e3 : j ≠ 0 := fun q => n3 (by rw [q]; rfl)
      simp only [fst0, e1, e2, e3, if_false, or_self]
      rfl
    · refine go _ ?_
      have e1 : j = 0 := (nI_eq (by omega) (by omega)).mp (e.trans nI_0.symm)
      have e2 : a ≠ j := fun q => n1 (by rw [q])
      subst e1
      simp only [fst0, e2, if_false, or_true, if_true]
      rfl
    · refine go _ ?_
      have e1 : a = j := (nI_eq (by omega) (by omega)).mp e
      subst e1
      simp only [fst0, if_true]
      rfl
theorem s_first_a12 {post : St → Prop} {σ : St} (hp : ∀ τ, Same 12 σ τ → RM (τ.2 12) fst0 → post τ) : w_X6_first_a12 σ post := by
  have L : ∀ (d a : Nat) (s : St), a + d = 8 → Same 12 σ s → (∀ i c, i < 8 → c < 8 → i < a → s.2 12 (8 * i + c) = iI (fst0 i c)) → w_X6_first_a12_L2 post (fun _ s => post s) (d + 1) (nI a) s := by
    intro d
    induction d with
    | zero =>
      intro a s ha hs h
      have e : a = 8 := by omega
      subst e
      unfold w_X6_first_a12_L2
      exact ⟨fun _ => hp s hs (fun i c hi hc => h i c hi hc hi), fun q => absurd ((le8 8 (by omega)).mpr (Nat.le_refl 8)) q⟩
    | succ d ih =>
      intro a s ha hs h
      unfold w_X6_first_a12_L2
      refine ⟨fun q => absurd ((le8 a (by omega)).mp q) (by omega), fun _ => ⟨9, ?_⟩⟩
      refine s_first_L10_a12 (by omega) 8 0 s (by omega) hs (fun i c hi hc q => h i c hi hc (by omega)) (fun s' hs' h' => ?_)
      rw [nI_1]
      exact ih (a + 1) s' (by omega) hs' h'
  unfold w_X6_first_a12
  exact ⟨9, L 8 0 σ (by omega) (Same.refl _ _) (fun i c _ _ q => absurd q (Nat.not_lt_zero i))⟩
theorem s_first_L10_a15 {post : St → Prop} {K : Int32 → St → Prop} {σ : St} {a : Nat} (ha : a < 8) : ∀ (d j : Nat) (s : St), j + d = 8 → Same 15 σ s → (∀ i c, i < 8 → c < 8 → (i < a ∨ (i = a ∧ c < j)) → s.2 15 (8 * i + c) = iI (fst0 i c)) → (∀ s', Same 15 σ s' → (∀ i c, i < 8 → c < 8 → i < a + 1 → s'.2 15 (8 * i + c) = iI (fst0 i c)) → K (nI 8) s') → w_X6_first_a15_L10 (nI a) post K (d + 1) (nI j) s := by
  intro d
  induction d with
  | zero =>
    intro j s hj hs h hK
    have e : j = 8 := by omega
    subst e
    unfold w_X6_first_a15_L10
    exact ⟨fun _ => hK s hs (fun i c hi hc q => h i c hi hc (by omega)), fun q => absurd ((le8 8 (by omega)).mpr (Nat.le_refl 8)) q⟩
  | succ d ih =>
    intro j s hj hs h hK
    have hj8 : j < 8 := by omega
    have go : ∀ z : Int32, z = iI (fst0 a j) → (vp_in ((8 * nI a) + nI j) 64 ∧ w_X6_first_a15_L10 (nI a) post K (d + 1) (nI j + 1) (s.1, (va_up s.2 15 (upd (s.2 15) (Int32.toNatClampNeg ((8 * nI a) + nI j)) z)))) := by
      intro z hz
      refine ⟨ix8_in ha hj8, ?_⟩
      rw [ix8_c ha hj8, nI_1, hz]
      refine ih (j + 1) _ (by omega) (hs.trans (Same.up 15 s _)) (fun i c hi hc q => ?_) hK
      show va_up s.2 15 (upd (s.2 15) (8 * a + j) (iI (fst0 a j))) 15 (8 * i + c) = iI (fst0 i c)
      rw [up_at]
      by_cases q2 : i = a ∧ c = j
      · rw [q2.1, q2.2]
        exact pk_us
      · rw [pk_un (fun e => q2 (by omega))]
        exact h i c hi hc (by omega)
    unfold w_X6_first_a15_L10
    refine ⟨fun q => absurd ((le8 j (by omega)).mp q) (by omega), fun _ => ⟨fun n1 => ⟨fun e => ?_, fun n2 => ⟨fun n3 => ?_, fun e => ?_⟩⟩, fun e => ?_⟩⟩
    · refine go _ ?_
      have e1 : a = 0 := (nI_eq (by omega) (by omega)).mp (e.trans nI_0.symm)
      have e2 : a ≠ j := fun q => n1 (by rw [q])
      subst e1
      have e3 : ¬ 0 = j := e2
      simp only [fst0, e3, if_false, true_or, if_true]
      rfl
    · refine go _ ?_
      have e1 : a ≠ 0 := fun q => n2 (by rw [q]; rfl)
      have e2 : a ≠ j := fun q => n1 (by rw [q])
      have e3 : j ≠ 0 := fun q => n3 (by rw [q]; rfl)
      simp only [fst0, e1, e2, e3, if_false, or_self]
      rfl
    · refine go _ ?_
      have e1 : j = 0 := (nI_eq (by omega) (by omega)).mp (e.trans nI_0.symm)
      have e2 : a ≠ j := fun q => n1 (by rw [q])
      subst e1
      simp only [fst0, e2, if_false, or_true, if_true]
      rfl
    · refine go _ ?_
      have e1 : a = j := (nI_eq (by omega) (by omega)).mp e
      subst e1
      simp only [fst0, if_true]
      rfl
theorem s_first_a15 {post : St → Prop} {σ : St} (hp : ∀ τ, Same 15 σ τ → RM (τ.2 15) fst0 → post τ) : w_X6_first_a15 σ post := by
  have L : ∀ (d a : Nat) (s : St), a + d = 8 → Same 15 σ s → (∀ i c, i < 8 → c < 8 → i < a → s.2 15 (8 * i + c) = iI (fst0 i c)) → w_X6_first_a15_L2 post (fun _ s => post s) (d + 1) (nI a) s := by
    intro d
    induction d with
    | zero =>
      intro a s ha hs h
      have e : a = 8 := by omega
      subst e
      unfold w_X6_first_a15_L2
      exact ⟨fun _ => hp s hs (fun i c hi hc => h i c hi hc hi), fun q => absurd ((le8 8 (by omega)).mpr (Nat.le_refl 8)) q⟩
    | succ d ih =>
      intro a s ha hs h
      unfold w_X6_first_a15_L2
      refine ⟨fun q => absurd ((le8 a (by omega)).mp q) (by omega), fun _ => ⟨9, ?_⟩⟩
      refine s_first_L10_a15 (by omega) 8 0 s (by omega) hs (fun i c hi hc q => h i c hi hc (by omega)) (fun s' hs' h' => ?_)
      rw [nI_1]
      exact ih (a + 1) s' (by omega) hs' h'
  unfold w_X6_first_a15
  exact ⟨9, L 8 0 σ (by omega) (Same.refl _ _) (fun i c _ _ q => absurd q (Nat.not_lt_zero i))⟩
set_option maxHeartbeats 1000000 in
theorem s_bounds_a10 {post : St → Prop} {σ : St} {k : Nat} {es : List Ed} {T : Mat} (hk : k < 61) (ht : TieE (σ.2 6 k) (σ.2 7 k) (σ.2 8 k) (σ.2 9 k) (σ.2 1) (σ.2 2) es) (h : RM (σ.2 10) T) (hB : Bd 100000000 T) (hp : ∀ τ, Same 10 σ τ → RM (τ.2 10) (lows es T) → post τ) : w_X6_bounds_a10 σ (nI k) post := by
  have hin : vp_in (nI k) 61 := vp_in_nI hk (by omega)
  have hc : Int32.toNatClampNeg (nI k) = k := nI_clamp (by omega)
  have hB2 : ∀ i j y, -100000000 ≤ y → y ≤ 100000000 → Bd 100000000 (updM T i j y) := by
    intro i j y h1 h2 a b ha hb
    unfold updM
    split
    · exact ⟨h1, h2⟩
    · exact hB a b ha hb
  unfold w_X6_bounds_a10
  rw [hc]
  refine ⟨hin, ?_, ?_, ?_⟩
  · intro hk0
    rcases ht with ⟨-, p, q, c, d, x, y, m, hp1, hq1, hc8, hd8, eo, et, ecp, ecq, ekp, ekq, x0, x1, y0, y1, e3, m0, m1, rfl⟩ | ⟨e, -⟩ | ⟨e, -⟩
    · rw [eo, et, e3]
      rw [nI_clamp (show p < 2 ^ 31 by omega), nI_clamp (show q < 2 ^ 31 by omega), ecp, ecq, ekp, ekq]
      have hip : vp_in (nI p) 120 := vp_in_nI hp1 (by omega)
      have hiq : vp_in (nI q) 120 := vp_in_nI hq1 (by omega)
      refine ⟨hin, hip, hin, hiq, hin, hiq, hin, hip, hin, ?_⟩
      have b1 := hB c d hc8 hd8
      have b2 := hB d c hd8 hc8
      refine s_least (x := m + (y - x)) h hc8 hd8 (by rw [iI_sub, iI_add]) (by omega) (by omega) (fun f1 h1 => ⟨hin, ?_⟩)
      have hB3 := hB2 c d (min (T c d) (m + (y - x))) (by omega) (by omega) d c hd8 hc8
      refine s_least (x := m - (y - x)) h1 hd8 hc8 (by rw [iI_sub, iI_sub]) (by omega) (by omega) (fun f2 h2 => ?_)
      refine hp _ (Same.up2 10 σ f1 f2) ?_
      show RM (va_up (va_up σ.2 10 f1) 10 f2 10) _
      rw [up_at]
      exact h2
    · exact absurd (hk0.symm.trans e) (by decide)
    · exact absurd (hk0.symm.trans e) (by decide)
  · intro hk1
    rcases ht with ⟨e, -⟩ | ⟨-, p, q, c, d, x, y, hp1, hq1, hc8, hd8, eo, et, ecp, ecq, ekp, ekq, x0, x1, y0, y1, rfl⟩ | ⟨e, -⟩
    · exact absurd (hk1.symm.trans e) (by decide)
    · rw [eo, et]
      rw [nI_clamp (show p < 2 ^ 31 by omega), nI_clamp (show q < 2 ^ 31 by omega), ecp, ecq, ekp, ekq]
      have hip : vp_in (nI p) 120 := vp_in_nI hp1 (by omega)
      have hiq : vp_in (nI q) 120 := vp_in_nI hq1 (by omega)
      refine ⟨hin, hip, hin, hiq, hin, hiq, hin, hip, ?_⟩
      have b1 := hB c d hc8 hd8
      refine s_least (x := y - x - 1) h hc8 hd8 (by rw [iI_sub, show (1 : Int32) = iI 1 from rfl, iI_sub]) (by omega) (by omega) (fun f1 h1 => ?_)
      refine hp _ (Same.up 10 σ f1) ?_
      show RM (va_up σ.2 10 f1 10) _
      rw [up_at]
      exact h1
    · exact absurd (hk1.symm.trans e) (by decide)
  · intro hk2
    rcases ht with ⟨e, -⟩ | ⟨e, -⟩ | ⟨-, c, lo, hi, hc8, eo, et, e3, l0, l1, l2, rfl⟩
    · exact absurd e hk2.1
    · exact absurd e hk2.2
    · rw [eo, et, e3]
      have b1 := hB c 0 hc8 (by omega)
      have b2 := hB 0 c (by omega) hc8
      refine ⟨hin, hin, ?_⟩
      refine s_least (a := c) (b := 0) (x := hi) h hc8 (by omega) rfl (by omega) (by omega) (fun f1 h1 => ⟨hin, hin, ?_⟩)
      have hB3 := hB2 c 0 (min (T c 0) hi) (by omega) (by omega) 0 c (by omega) hc8
      refine s_least (a := 0) (b := c) (x := -lo) h1 (by omega) hc8 (by rw [iI_neg]) (by omega) (by omega) (fun f2 h2 => ?_)
      refine hp _ (Same.up2 10 σ f1 f2) ?_
      show RM (va_up (va_up σ.2 10 f1) 10 f2 10) _
      rw [up_at]
      exact h2
set_option maxHeartbeats 1000000 in
theorem s_bounds_a11 {post : St → Prop} {σ : St} {k : Nat} {es : List Ed} {T : Mat} (hk : k < 61) (ht : TieE (σ.2 6 k) (σ.2 7 k) (σ.2 8 k) (σ.2 9 k) (σ.2 1) (σ.2 2) es) (h : RM (σ.2 11) T) (hB : Bd 100000000 T) (hp : ∀ τ, Same 11 σ τ → RM (τ.2 11) (lows es T) → post τ) : w_X6_bounds_a11 σ (nI k) post := by
  have hin : vp_in (nI k) 61 := vp_in_nI hk (by omega)
  have hc : Int32.toNatClampNeg (nI k) = k := nI_clamp (by omega)
  have hB2 : ∀ i j y, -100000000 ≤ y → y ≤ 100000000 → Bd 100000000 (updM T i j y) := by
    intro i j y h1 h2 a b ha hb
    unfold updM
    split
    · exact ⟨h1, h2⟩
    · exact hB a b ha hb
  unfold w_X6_bounds_a11
  rw [hc]
  refine ⟨hin, ?_, ?_, ?_⟩
  · intro hk0
    rcases ht with ⟨-, p, q, c, d, x, y, m, hp1, hq1, hc8, hd8, eo, et, ecp, ecq, ekp, ekq, x0, x1, y0, y1, e3, m0, m1, rfl⟩ | ⟨e, -⟩ | ⟨e, -⟩
    · rw [eo, et, e3]
      rw [nI_clamp (show p < 2 ^ 31 by omega), nI_clamp (show q < 2 ^ 31 by omega), ecp, ecq, ekp, ekq]
      have hip : vp_in (nI p) 120 := vp_in_nI hp1 (by omega)
      have hiq : vp_in (nI q) 120 := vp_in_nI hq1 (by omega)
      refine ⟨hin, hip, hin, hiq, hin, hiq, hin, hip, hin, ?_⟩
      have b1 := hB c d hc8 hd8
      have b2 := hB d c hd8 hc8
      refine s_least (x := m + (y - x)) h hc8 hd8 (by rw [iI_sub, iI_add]) (by omega) (by omega) (fun f1 h1 => ⟨hin, ?_⟩)
      have hB3 := hB2 c d (min (T c d) (m + (y - x))) (by omega) (by omega) d c hd8 hc8
      refine s_least (x := m - (y - x)) h1 hd8 hc8 (by rw [iI_sub, iI_sub]) (by omega) (by omega) (fun f2 h2 => ?_)
      refine hp _ (Same.up2 11 σ f1 f2) ?_
      show RM (va_up (va_up σ.2 11 f1) 11 f2 11) _
      rw [up_at]
      exact h2
    · exact absurd (hk0.symm.trans e) (by decide)
    · exact absurd (hk0.symm.trans e) (by decide)
  · intro hk1
    rcases ht with ⟨e, -⟩ | ⟨-, p, q, c, d, x, y, hp1, hq1, hc8, hd8, eo, et, ecp, ecq, ekp, ekq, x0, x1, y0, y1, rfl⟩ | ⟨e, -⟩
    · exact absurd (hk1.symm.trans e) (by decide)
    · rw [eo, et]
      rw [nI_clamp (show p < 2 ^ 31 by omega), nI_clamp (show q < 2 ^ 31 by omega), ecp, ecq, ekp, ekq]
      have hip : vp_in (nI p) 120 := vp_in_nI hp1 (by omega)
      have hiq : vp_in (nI q) 120 := vp_in_nI hq1 (by omega)
      refine ⟨hin, hip, hin, hiq, hin, hiq, hin, hip, ?_⟩
      have b1 := hB c d hc8 hd8
      refine s_least (x := y - x - 1) h hc8 hd8 (by rw [iI_sub, show (1 : Int32) = iI 1 from rfl, iI_sub]) (by omega) (by omega) (fun f1 h1 => ?_)
      refine hp _ (Same.up 11 σ f1) ?_
      show RM (va_up σ.2 11 f1 11) _
      rw [up_at]
      exact h1
    · exact absurd (hk1.symm.trans e) (by decide)
  · intro hk2
    rcases ht with ⟨e, -⟩ | ⟨e, -⟩ | ⟨-, c, lo, hi, hc8, eo, et, e3, l0, l1, l2, rfl⟩
    · exact absurd e hk2.1
    · exact absurd e hk2.2
    · rw [eo, et, e3]
      have b1 := hB c 0 hc8 (by omega)
      have b2 := hB 0 c (by omega) hc8
      refine ⟨hin, hin, ?_⟩
      refine s_least (a := c) (b := 0) (x := hi) h hc8 (by omega) rfl (by omega) (by omega) (fun f1 h1 => ⟨hin, hin, ?_⟩)
      have hB3 := hB2 c 0 (min (T c 0) hi) (by omega) (by omega) 0 c (by omega) hc8
      refine s_least (a := 0) (b := c) (x := -lo) h1 (by omega) hc8 (by rw [iI_neg]) (by omega) (by omega) (fun f2 h2 => ?_)
      refine hp _ (Same.up2 11 σ f1 f2) ?_
      show RM (va_up (va_up σ.2 11 f1) 11 f2 11) _
      rw [up_at]
      exact h2
set_option maxHeartbeats 1000000 in
theorem s_bounds_a12 {post : St → Prop} {σ : St} {k : Nat} {es : List Ed} {T : Mat} (hk : k < 61) (ht : TieE (σ.2 6 k) (σ.2 7 k) (σ.2 8 k) (σ.2 9 k) (σ.2 1) (σ.2 2) es) (h : RM (σ.2 12) T) (hB : Bd 100000000 T) (hp : ∀ τ, Same 12 σ τ → RM (τ.2 12) (lows es T) → post τ) : w_X6_bounds_a12 σ (nI k) post := by
  have hin : vp_in (nI k) 61 := vp_in_nI hk (by omega)
  have hc : Int32.toNatClampNeg (nI k) = k := nI_clamp (by omega)
  have hB2 : ∀ i j y, -100000000 ≤ y → y ≤ 100000000 → Bd 100000000 (updM T i j y) := by
    intro i j y h1 h2 a b ha hb
    unfold updM
    split
    · exact ⟨h1, h2⟩
    · exact hB a b ha hb
  unfold w_X6_bounds_a12
  rw [hc]
  refine ⟨hin, ?_, ?_, ?_⟩
  · intro hk0
    rcases ht with ⟨-, p, q, c, d, x, y, m, hp1, hq1, hc8, hd8, eo, et, ecp, ecq, ekp, ekq, x0, x1, y0, y1, e3, m0, m1, rfl⟩ | ⟨e, -⟩ | ⟨e, -⟩
    · rw [eo, et, e3]
      rw [nI_clamp (show p < 2 ^ 31 by omega), nI_clamp (show q < 2 ^ 31 by omega), ecp, ecq, ekp, ekq]
      have hip : vp_in (nI p) 120 := vp_in_nI hp1 (by omega)
      have hiq : vp_in (nI q) 120 := vp_in_nI hq1 (by omega)
      refine ⟨hin, hip, hin, hiq, hin, hiq, hin, hip, hin, ?_⟩
      have b1 := hB c d hc8 hd8
      have b2 := hB d c hd8 hc8
      refine s_least (x := m + (y - x)) h hc8 hd8 (by rw [iI_sub, iI_add]) (by omega) (by omega) (fun f1 h1 => ⟨hin, ?_⟩)
      have hB3 := hB2 c d (min (T c d) (m + (y - x))) (by omega) (by omega) d c hd8 hc8
      refine s_least (x := m - (y - x)) h1 hd8 hc8 (by rw [iI_sub, iI_sub]) (by omega) (by omega) (fun f2 h2 => ?_)
      refine hp _ (Same.up2 12 σ f1 f2) ?_
      show RM (va_up (va_up σ.2 12 f1) 12 f2 12) _
      rw [up_at]
      exact h2
    · exact absurd (hk0.symm.trans e) (by decide)
    · exact absurd (hk0.symm.trans e) (by decide)
  · intro hk1
    rcases ht with ⟨e, -⟩ | ⟨-, p, q, c, d, x, y, hp1, hq1, hc8, hd8, eo, et, ecp, ecq, ekp, ekq, x0, x1, y0, y1, rfl⟩ | ⟨e, -⟩
    · exact absurd (hk1.symm.trans e) (by decide)
    · rw [eo, et]
      rw [nI_clamp (show p < 2 ^ 31 by omega), nI_clamp (show q < 2 ^ 31 by omega), ecp, ecq, ekp, ekq]
      have hip : vp_in (nI p) 120 := vp_in_nI hp1 (by omega)
      have hiq : vp_in (nI q) 120 := vp_in_nI hq1 (by omega)
      refine ⟨hin, hip, hin, hiq, hin, hiq, hin, hip, ?_⟩
      have b1 := hB c d hc8 hd8
      refine s_least (x := y - x - 1) h hc8 hd8 (by rw [iI_sub, show (1 : Int32) = iI 1 from rfl, iI_sub]) (by omega) (by omega) (fun f1 h1 => ?_)
      refine hp _ (Same.up 12 σ f1) ?_
      show RM (va_up σ.2 12 f1 12) _
      rw [up_at]
      exact h1
    · exact absurd (hk1.symm.trans e) (by decide)
  · intro hk2
    rcases ht with ⟨e, -⟩ | ⟨e, -⟩ | ⟨-, c, lo, hi, hc8, eo, et, e3, l0, l1, l2, rfl⟩
    · exact absurd e hk2.1
    · exact absurd e hk2.2
    · rw [eo, et, e3]
      have b1 := hB c 0 hc8 (by omega)
      have b2 := hB 0 c (by omega) hc8
      refine ⟨hin, hin, ?_⟩
      refine s_least (a := c) (b := 0) (x := hi) h hc8 (by omega) rfl (by omega) (by omega) (fun f1 h1 => ⟨hin, hin, ?_⟩)
      have hB3 := hB2 c 0 (min (T c 0) hi) (by omega) (by omega) 0 c (by omega) hc8
      refine s_least (a := 0) (b := c) (x := -lo) h1 (by omega) hc8 (by rw [iI_neg]) (by omega) (by omega) (fun f2 h2 => ?_)
      refine hp _ (Same.up2 12 σ f1 f2) ?_
      show RM (va_up (va_up σ.2 12 f1) 12 f2 12) _
      rw [up_at]
      exact h2
def ClE (ess : Nat → List Ed) (nt : Nat) (w : Int32) : Edg := fun a b x => ∃ k, k < nt ∧ nI k ≠ w ∧ (a, b, x) ∈ ess k
theorem s_closed_a10 {post : Int32 → St → Prop} {σ : St} {nt : Nat} {w : Int32} {ess : Nat → List Ed} (hn : σ.1 5 = nI nt) (hnt : nt ≤ 60) (hess : ∀ k, k < nt → TieE (σ.2 6 k) (σ.2 7 k) (σ.2 8 k) (σ.2 9 k) (σ.2 1) (σ.2 2) (ess k)) (hf : ∃ v, Feas (ClE ess nt w) v)
    (hp : ∀ τ U, Same 10 σ τ → RM (τ.2 10) U → Tight (ClE ess nt w) U → post 1 τ) : w_X6_closed_a10 σ w post := by
  unfold w_X6_closed_a10
  refine s_first_a10 (fun τ0 hs0 h0 => ⟨nt + 1, ?_⟩)
  have L : ∀ (d k : Nat) (s : St) (T : Mat), k + d = nt → Same 10 σ s → RM (s.2 10) T → Cov (ClE ess k w) T → w_X6_closed_a10_L7 w post (fun x3 s => w_X6_closes (s.2 10) (fun r u => (narrow .boolean (.int r) = .int r ∧ post r (s.1, (va_up s.2 10 u))))) (d + 1) (nI k) s := by
    intro d
    induction d with
    | zero =>
      intro k s T hk hs h hC
      have e : k = nt := by omega
      subst e
      unfold w_X6_closed_a10_L7
      refine ⟨fun _ => ?_, fun q => absurd (by rw [hs.1, hn]; exact nI_le (Nat.le_refl k) (by omega)) q⟩
      obtain ⟨g1, g2, g3⟩ := cov_fw hC hf
      refine s_closes h g1 g2 (fun f' h' => ⟨rfl, hp _ _ (hs.trans (Same.up 10 s f')) ?_ g3⟩)
      show RM (va_up s.2 10 f' 10) _
      rw [up_at]
      exact h'
    | succ d ih =>
      intro k s T hk hs h hC
      have hkn : k < nt := by omega
      unfold w_X6_closed_a10_L7
      refine ⟨fun q => absurd q (by rw [hs.1, hn]; exact nI_ge hkn (by omega)), fun _ => ⟨fun e => ?_, fun ne => ?_⟩⟩
      · rw [nI_1]
        refine ih (k + 1) s T (by omega) hs h ⟨hC.1, fun a b x ha hb he => ?_, fun a b ha hb => ?_⟩
        · obtain ⟨i, hi, hw, hm⟩ := he
          rcases Nat.lt_succ_iff_lt_or_eq.mp hi with q | q
          · exact hC.2.1 a b x ha hb ⟨i, q, hw, hm⟩
          · subst q; exact absurd e hw
        · rcases hC.2.2 a b ha hb with q | ⟨i, hi, hw, hm⟩
          · exact Or.inl q
          · exact Or.inr ⟨i, by omega, hw, hm⟩
      · have ht := hess k hkn
        rw [← hs.2 6 (by decide), ← hs.2 7 (by decide), ← hs.2 8 (by decide), ← hs.2 9 (by decide), ← hs.2 1 (by decide), ← hs.2 2 (by decide)] at ht
        have hok := tieE_ok ht
        refine s_bounds_a10 (by omega) ht h (fun a b ha hb => ?_) (fun τ hs2 h2 => ?_)
        · have g1 := hC.1 a b ha hb
          have g2 := tight_bd fst0_tight ha hb
          rcases hC.2.2 a b ha hb with q | ⟨i, hi, hw, hm⟩
          · omega
          · have := tieE_ok (hess i (by omega)) _ hm
            dsimp only at this
            omega
        · rw [nI_1]
          refine ih (k + 1) τ _ (by omega) (hs.trans hs2) h2 ⟨fun a b ha hb => ?_, fun a b x ha hb he => ?_, fun a b ha hb => ?_⟩
          · have := (lows_le (ess k) T a b).1
            have := hC.1 a b ha hb
            omega
          · obtain ⟨i, hi, hw, hm⟩ := he
            rcases Nat.lt_succ_iff_lt_or_eq.mp hi with q | q
            · have := (lows_le (ess k) T a b).1
              have := hC.2.1 a b x ha hb ⟨i, q, hw, hm⟩
              omega
            · subst q
              exact (lows_le (ess i) T a b).2 x hm
          · rcases lows_at (ess k) T a b with q | q
            · rw [q]
              rcases hC.2.2 a b ha hb with q | ⟨i, hi, hw, hm⟩
              · exact Or.inl q
              · exact Or.inr ⟨i, by omega, hw, hm⟩
            · exact Or.inr ⟨k, by omega, ne, q⟩
  refine L nt 0 τ0 fst0 (by omega) hs0 h0 ⟨fun a b _ _ => Int.le_refl _, fun a b x _ _ he => ?_, fun a b _ _ => Or.inl rfl⟩
  obtain ⟨i, hi, -⟩ := he
  exact absurd hi (Nat.not_lt_zero i)
theorem s_closed_a11 {post : Int32 → St → Prop} {σ : St} {nt : Nat} {w : Int32} {ess : Nat → List Ed} (hn : σ.1 5 = nI nt) (hnt : nt ≤ 60) (hess : ∀ k, k < nt → TieE (σ.2 6 k) (σ.2 7 k) (σ.2 8 k) (σ.2 9 k) (σ.2 1) (σ.2 2) (ess k)) (hf : ∃ v, Feas (ClE ess nt w) v)
    (hp : ∀ τ U, Same 11 σ τ → RM (τ.2 11) U → Tight (ClE ess nt w) U → post 1 τ) : w_X6_closed_a11 σ w post := by
  unfold w_X6_closed_a11
  refine s_first_a11 (fun τ0 hs0 h0 => ⟨nt + 1, ?_⟩)
  have L : ∀ (d k : Nat) (s : St) (T : Mat), k + d = nt → Same 11 σ s → RM (s.2 11) T → Cov (ClE ess k w) T → w_X6_closed_a11_L7 w post (fun x3 s => w_X6_closes (s.2 11) (fun r u => (narrow .boolean (.int r) = .int r ∧ post r (s.1, (va_up s.2 11 u))))) (d + 1) (nI k) s := by
    intro d
    induction d with
    | zero =>
      intro k s T hk hs h hC
      have e : k = nt := by omega
      subst e
      unfold w_X6_closed_a11_L7
      refine ⟨fun _ => ?_, fun q => absurd (by rw [hs.1, hn]; exact nI_le (Nat.le_refl k) (by omega)) q⟩
      obtain ⟨g1, g2, g3⟩ := cov_fw hC hf
      refine s_closes h g1 g2 (fun f' h' => ⟨rfl, hp _ _ (hs.trans (Same.up 11 s f')) ?_ g3⟩)
      show RM (va_up s.2 11 f' 11) _
      rw [up_at]
      exact h'
    | succ d ih =>
      intro k s T hk hs h hC
      have hkn : k < nt := by omega
      unfold w_X6_closed_a11_L7
      refine ⟨fun q => absurd q (by rw [hs.1, hn]; exact nI_ge hkn (by omega)), fun _ => ⟨fun e => ?_, fun ne => ?_⟩⟩
      · rw [nI_1]
        refine ih (k + 1) s T (by omega) hs h ⟨hC.1, fun a b x ha hb he => ?_, fun a b ha hb => ?_⟩
        · obtain ⟨i, hi, hw, hm⟩ := he
          rcases Nat.lt_succ_iff_lt_or_eq.mp hi with q | q
          · exact hC.2.1 a b x ha hb ⟨i, q, hw, hm⟩
          · subst q; exact absurd e hw
        · rcases hC.2.2 a b ha hb with q | ⟨i, hi, hw, hm⟩
          · exact Or.inl q
          · exact Or.inr ⟨i, by omega, hw, hm⟩
      · have ht := hess k hkn
        rw [← hs.2 6 (by decide), ← hs.2 7 (by decide), ← hs.2 8 (by decide), ← hs.2 9 (by decide), ← hs.2 1 (by decide), ← hs.2 2 (by decide)] at ht
        have hok := tieE_ok ht
        refine s_bounds_a11 (by omega) ht h (fun a b ha hb => ?_) (fun τ hs2 h2 => ?_)
        · have g1 := hC.1 a b ha hb
          have g2 := tight_bd fst0_tight ha hb
          rcases hC.2.2 a b ha hb with q | ⟨i, hi, hw, hm⟩
          · omega
          · have := tieE_ok (hess i (by omega)) _ hm
            dsimp only at this
            omega
        · rw [nI_1]
          refine ih (k + 1) τ _ (by omega) (hs.trans hs2) h2 ⟨fun a b ha hb => ?_, fun a b x ha hb he => ?_, fun a b ha hb => ?_⟩
          · have := (lows_le (ess k) T a b).1
            have := hC.1 a b ha hb
            omega
          · obtain ⟨i, hi, hw, hm⟩ := he
            rcases Nat.lt_succ_iff_lt_or_eq.mp hi with q | q
            · have := (lows_le (ess k) T a b).1
              have := hC.2.1 a b x ha hb ⟨i, q, hw, hm⟩
              omega
            · subst q
              exact (lows_le (ess i) T a b).2 x hm
          · rcases lows_at (ess k) T a b with q | q
            · rw [q]
              rcases hC.2.2 a b ha hb with q | ⟨i, hi, hw, hm⟩
              · exact Or.inl q
              · exact Or.inr ⟨i, by omega, hw, hm⟩
            · exact Or.inr ⟨k, by omega, ne, q⟩
  refine L nt 0 τ0 fst0 (by omega) hs0 h0 ⟨fun a b _ _ => Int.le_refl _, fun a b x _ _ he => ?_, fun a b _ _ => Or.inl rfl⟩
  obtain ⟨i, hi, -⟩ := he
  exact absurd hi (Nat.not_lt_zero i)
