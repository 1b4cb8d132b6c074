/-! sums, and the calls that count pairs and cameras -/
def sm (f : Nat → Nat) : Nat → Nat
  | 0 => 0
  | n + 1 => sm f n + f n
theorem sm_congr {f g : Nat → Nat} : ∀ {n : Nat}, (∀ i, i < n → f i = g i) → sm f n = sm g n := by
  intro n
  induction n with
  | zero => intro _; rfl
  | succ n ih =>
    intro h
    show sm f n + f n = sm g n + g n
    rw [ih (fun i hi => h i (by omega)), h n (by omega)]
theorem sm_zero {f : Nat → Nat} {n : Nat} (h : ∀ i, i < n → f i = 0) : sm f n = 0 := by
  rw [sm_congr (g := fun _ => 0) h]
  induction n with
  | zero => rfl
  | succ n ih =>
    show sm (fun _ => 0) n + 0 = 0
    rw [ih (fun i hi => h i (by omega))]
theorem sm_add (f g : Nat → Nat) : ∀ n, sm (fun i => f i + g i) n = sm f n + sm g n := by
  intro n
  induction n with
  | zero => rfl
  | succ n ih =>
    show sm (fun i => f i + g i) n + (f n + g n) = (sm f n + f n) + (sm g n + g n)
    rw [ih]
    omega
theorem sm_swap (f : Nat → Nat → Nat) (m : Nat) : ∀ n, sm (fun i => sm (fun j => f i j) m) n = sm (fun j => sm (fun i => f i j) n) m := by
  intro n
  induction n with
  | zero => exact (sm_zero (fun i _ => rfl)).symm
  | succ n ih =>
    show sm (fun i => sm (fun j => f i j) m) n + sm (fun j => f n j) m = sm (fun j => sm (fun i => f i j) n + f n j) m
    rw [ih, sm_add]
theorem sm_ext {f : Nat → Nat} {a n : Nat} (h : a ≤ n) (hz : ∀ i, a ≤ i → i < n → f i = 0) : sm f n = sm f a := by
  induction n with
  | zero =>
    have : a = 0 := by omega
    rw [this]
  | succ n ih =>
    by_cases q : a = n + 1
    · rw [q]
    · show sm f n + f n = sm f a
      rw [ih (by omega) (fun i h1 h2 => hz i h1 (by omega)), hz n (by omega) (by omega)]
      rfl
theorem nI_z (a : Nat) : nI a + 0 = nI a := by
  rw [show (0 : Int32) = nI 0 from nI_0.symm, nI_add]
  rfl
def unF (m1 m2 : Nat → Int32) (T : Mat) (p q : Nat) : Nat := if ordF (lst m1 m2 T p q) (mst m1 m2 T p q) = 0 then 1 else 0
theorem unF_sym (m1 m2 : Nat → Int32) (T : Mat) (p q : Nat) : unF m1 m2 T p q = unF m1 m2 T q p := by
  have e1 := mst_lst m1 m2 T p q
  have e2 := mst_lst m1 m2 T q p
  have k : (ordF (lst m1 m2 T p q) (mst m1 m2 T p q) = 0) ↔ (ordF (lst m1 m2 T q p) (mst m1 m2 T q p) = 0) := by
    unfold ordF
    repeat' split
    all_goals omega
  unfold unF
  by_cases q1 : ordF (lst m1 m2 T p q) (mst m1 m2 T p q) = 0
  · rw [if_pos q1, if_pos (k.mp q1)]
  · rw [if_neg q1, if_neg (fun z => q1 (k.mpr z))]
theorem ordF_le (l m : Int) : ordF l m ≤ 3 := by
  unfold ordF
  repeat' split
  all_goals omega
theorem un_step {m1 m2 : Nat → Int32} {T : Mat} {p q : Nat} {P : Nat → Prop} {A : Nat} (h : P (A + unF m1 m2 T p q)) : (¬ nI (ordF (lst m1 m2 T p q) (mst m1 m2 T p q)) = 0 → P A) ∧ (nI (ordF (lst m1 m2 T p q) (mst m1 m2 T p q)) = 0 → P (A + 1)) := by
  have b := ordF_le (lst m1 m2 T p q) (mst m1 m2 T p q)
  have k : nI (ordF (lst m1 m2 T p q) (mst m1 m2 T p q)) = 0 ↔ ordF (lst m1 m2 T p q) (mst m1 m2 T p q) = 0 := by
    rw [← nI_0]
    exact nI_eq (by omega) (by omega)
  rw [k]
  unfold unF at h
  refine ⟨fun q1 => ?_, fun q1 => ?_⟩
  · rw [if_neg q1] at h; exact h
  · rw [if_pos q1] at h; exact h
theorem st_unsure (j : Nat) (σx σm : St) (hj : j < 512) (h : Rel j σx σm) : w_X5_unsure σx (fun r u => w_X6_unsure σm (fun r2 u2 => r = r2 ∧ Rel (j + 1) u u2)) := by
  obtain ⟨nc, np, n, nt, ne, h⟩ := h
  obtain ⟨⟨b1, b2, b3, b4, b5⟩, hx, hm, h4, h5, h6, h7, h8⟩ := id h
  obtain ⟨T, E, hRM, hT, hcl⟩ := rel_T h
  have tot : sm (fun p => sm (fun q => if p < q then unF (σm.2 1) (σm.2 2) T p q else 0) n) n = sm (fun a => sm (fun b => if b < a then unF (σm.2 1) (σm.2 2) T a b else 0) n) n := by
    rw [sm_swap (fun p q => if p < q then unF (σm.2 1) (σm.2 2) T p q else 0)]
    refine sm_congr (fun a _ => sm_congr (fun b _ => ?_))
    by_cases q : b < a
    · rw [if_pos q, if_pos q, unF_sym]
    · rw [if_neg q, if_neg q]
  -- the reference
  have ref : ∀ (τx : St), KX σx τx → w_X6_unsure σm (fun r2 u2 => nI (sm (fun p => sm (fun q => if p < q then unF (σm.2 1) (σm.2 2) T p q else 0) n) n) = r2 ∧ Rel (j + 1) τx u2) := by
    intro τx hkx
    unfold w_X6_unsure
    refine hcl _ (fun τ hk hs hR => ⟨n + 1, ?_⟩)
    have e1 : τ.2 1 = σm.2 1 := hk.2 1 (by decide)
    have e2 : τ.2 2 = σm.2 2 := hk.2 2 (by decide)
    have h6' : RPic nc np n (τ.2 1) (τ.2 2) (σm.2 3) (σm.2 4) (σm.2 0) := by rw [e1, e2]; exact h6
    have hn4 : τ.1 4 = nI n := by rw [hk.1 4 (by decide)]; exact hm.2.2.1
    rw [tot, ← e1, ← e2]
    have I : ∀ {K : Int32 → Int32 → St → Prop} {post : Int32 → St → Prop} (a A : Nat), a < n → K (nI (A + sm (fun b => if b < a then unF (τ.2 1) (τ.2 2) T a b else 0) n)) (nI a) τ → ∀ (d b : Nat), b + d = a → w_X6_unsure_L30 (nI a) post K (d + 1) (nI (A + sm (fun b => if b < a then unF (τ.2 1) (τ.2 2) T a b else 0) b)) (nI b) τ := by
      intro K post a A ha hK d
      induction d with
      | zero =>
        intro b hb
        have e : b = a := by omega
        subst e
        unfold w_X6_unsure_L30
        refine ⟨fun _ => ?_, fun q => absurd (nI_le (Nat.le_refl b) (by omega)) q⟩
        rw [sm_ext (show b ≤ n by omega) (fun i h1 _ => if_neg (by omega))] at hK
        exact hK
      | succ d ih =>
        intro b hb
        unfold w_X6_unsure_L30
        refine ⟨fun q => absurd q (nI_ge (by omega) (by omega)), fun _ => ?_⟩
        refine s_ordOf h6' b1 b3 hT hR ha (by omega) ?_
        rw [nI_z, nI_1, nI_1]
        refine un_step (P := fun X => w_X6_unsure_L30 (nI a) post K (d + 1) (nI X) (nI (b + 1)) τ) ?_
        have g := ih (b + 1) (by omega)
        have e3 : sm (fun b => if b < a then unF (τ.2 1) (τ.2 2) T a b else 0) (b + 1) = sm (fun b => if b < a then unF (τ.2 1) (τ.2 2) T a b else 0) b + unF (τ.2 1) (τ.2 2) T a b := by
          show sm _ b + (if b < a then unF (τ.2 1) (τ.2 2) T a b else 0) = _
          rw [if_pos (by omega)]
        rw [e3, ← Nat.add_assoc] at g
        exact g
    have O : ∀ (d a : Nat), a + d = n → w_X6_unsure_L19 (fun r2 u2 => nI (sm (fun a => sm (fun b => if b < a then unF (τ.2 1) (τ.2 2) T a b else 0) n) n) = r2 ∧ Rel (j + 1) τx u2) (fun x2 _ s => nI (sm (fun a => sm (fun b => if b < a then unF (τ.2 1) (τ.2 2) T a b else 0) n) n) = x2 ∧ Rel (j + 1) τx s) (d + 1) (nI (sm (fun a => sm (fun b => if b < a then unF (τ.2 1) (τ.2 2) T a b else 0) n) a)) (nI a) τ := by
      intro d
      induction d with
      | zero =>
        intro a ha
        have e : a = n := by omega
        subst e
        unfold w_X6_unsure_L19
        rw [hn4]
        exact ⟨fun _ => ⟨rfl, (h.keep hkx ((KM.z σm 0).trans hk)).rel⟩, fun q => absurd (nI_le (Nat.le_refl a) (by omega)) q⟩
      | succ d ih =>
        intro a ha
        unfold w_X6_unsure_L19
        rw [hn4]
        refine ⟨fun q => absurd q (nI_ge (by omega) (by omega)), fun _ => ⟨a + 1, ?_⟩⟩
        have g := ih (a + 1) (by omega)
        refine I a _ (by omega) ?_ a 0 (by omega)
        rw [nI_1]
        exact g
    exact O n 0 (by omega)
  -- the class
  have I : ∀ {K : Int32 → Int32 → St → Prop} {post : Int32 → St → Prop} (p A : Nat), p < n → (∀ s, KX σx s → K (nI (A + sm (fun q => if p < q then unF (σm.2 1) (σm.2 2) T p q else 0) n)) (nI n) s) → ∀ (d q : Nat) (s : St), q + d = n → p < q → KX σx s → w_X5_unsure_L19 (nI p) post K (d + 1) (nI (A + sm (fun q => if p < q then unF (σm.2 1) (σm.2 2) T p q else 0) q)) (nI q) s := by
    intro K post p A hp hK d
    induction d with
    | zero =>
      intro q s hq hpq hk
      have e : q = n := by omega
      subst e
      unfold w_X5_unsure_L19
      rw [hk.1, hx.2.2.1]
      exact ⟨fun _ => hK s hk, fun q1 => absurd (nI_le (Nat.le_refl q) (by omega)) q1⟩
    | succ d ih =>
      intro q s hq hpq hk
      unfold w_X5_unsure_L19
      rw [hk.1, hx.2.2.1]
      refine ⟨fun q1 => absurd q1 (nI_ge (by omega) (by omega)), fun _ => ?_⟩
      refine s_sure h6 b1 b3 (by rw [hk.2 0 (by decide) (by decide) (by decide)]; exact h5.1) (by rw [hk.2 1 (by decide) (by decide) (by decide)]; exact h5.2.1) hT (by rw [hk.2 16 (by decide) (by decide) (by decide)]; exact hRM) hp (by omega) (fun τ hk2 => ?_)
      rw [nI_1, nI_1]
      refine un_step (P := fun X => w_X5_unsure_L19 (nI p) post K (d + 1) (nI X) (nI (q + 1)) τ) ?_
      have g := ih (q + 1) τ (by omega) (by omega) (hk.trans hk2)
      have e3 : sm (fun q => if p < q then unF (σm.2 1) (σm.2 2) T p q else 0) (q + 1) = sm (fun q => if p < q then unF (σm.2 1) (σm.2 2) T p q else 0) q + unF (σm.2 1) (σm.2 2) T p q := by
        show sm _ q + (if p < q then unF (σm.2 1) (σm.2 2) T p q else 0) = _
        rw [if_pos hpq]
      rw [e3, ← Nat.add_assoc] at g
      exact g
  have O : ∀ (d p : Nat) (s : St), p + d = n → KX σx s → w_X5_unsure_L4 (fun r u => w_X6_unsure σm (fun r2 u2 => r = r2 ∧ Rel (j + 1) u u2)) (fun x1 _ s => (fun r u => w_X6_unsure σm (fun r2 u2 => r = r2 ∧ Rel (j + 1) u u2)) x1 s) (d + 1) (nI (sm (fun p => sm (fun q => if p < q then unF (σm.2 1) (σm.2 2) T p q else 0) n) p)) (nI p) s := by
    intro d
    induction d with
    | zero =>
      intro p s hp hk
      have e : p = n := by omega
      subst e
      unfold w_X5_unsure_L4
      rw [hk.1, hx.2.2.1]
      exact ⟨fun _ => ref s hk, fun q1 => absurd (nI_le (Nat.le_refl p) (by omega)) q1⟩
    | succ d ih =>
      intro p s hp hk
      unfold w_X5_unsure_L4
      rw [hk.1, hx.2.2.1]
      refine ⟨fun q1 => absurd q1 (nI_ge (by omega) (by omega)), fun _ => ⟨d + 1, ?_⟩⟩
      rw [nI_1]
      have g := I (K := fun x1 _ s => w_X5_unsure_L4 (fun r u => w_X6_unsure σm (fun r2 u2 => r = r2 ∧ Rel (j + 1) u u2)) (fun x1 _ s => (fun r u => w_X6_unsure σm (fun r2 u2 => r = r2 ∧ Rel (j + 1) u u2)) x1 s) (d + 1) x1 (nI (p + 1)) s) (post := fun r u => w_X6_unsure σm (fun r2 u2 => r = r2 ∧ Rel (j + 1) u u2)) p (sm (fun p => sm (fun q => if p < q then unF (σm.2 1) (σm.2 2) T p q else 0) n) p) (by omega) (fun s' hk' => ih (p + 1) s' (by omega) hk') d (p + 1) s (by omega) (by omega) hk
      rw [sm_zero (f := fun q => if p < q then unF (σm.2 1) (σm.2 2) T p q else 0) (n := p + 1) (fun i hi => if_neg (by omega))] at g
      exact g
  unfold w_X5_unsure
  exact ⟨n + 1, O n 0 σx (by omega) (KX.refl σx)⟩
theorem st_known (j : Nat) (σx σm : St) (hj : j < 512) (h : Rel j σx σm) : w_X5_known σx (fun r u => w_X6_known σm (fun r2 u2 => r = r2 ∧ Rel (j + 1) u u2)) := by
  obtain ⟨nc, np, n, nt, ne, h⟩ := h
  obtain ⟨⟨b1, b2, b3, b4, b5⟩, hx, hm, h4, h5, h6, h7, h8⟩ := id h
  obtain ⟨T, E, hRM, hT, hcl⟩ := rel_T h
  have ref : ∀ (τx : St), KX σx τx → w_X6_known σm (fun r2 u2 => nI (sm (fun c => if T c 0 = - T 0 c then 1 else 0) nc) = r2 ∧ Rel (j + 1) τx u2) := by
    intro τx hkx
    unfold w_X6_known
    refine hcl _ (fun τ hk hs hR => ⟨nc + 1, ?_⟩)
    have hn2 : τ.1 2 = nI nc := by rw [hk.1 2 (by decide)]; exact hm.1
    have O : ∀ (d c : Nat), c + d = nc → w_X6_known_L19 (fun r2 u2 => nI (sm (fun c => if T c 0 = - T 0 c then 1 else 0) nc) = r2 ∧ Rel (j + 1) τx u2) (fun x2 _ s => nI (sm (fun c => if T c 0 = - T 0 c then 1 else 0) nc) = x2 ∧ Rel (j + 1) τx s) (d + 1) (nI (sm (fun c => if T c 0 = - T 0 c then 1 else 0) c)) (nI c) τ := by
      intro d
      induction d with
      | zero =>
        intro a ha
        have e : a = nc := by omega
        subst e
        unfold w_X6_known_L19
        rw [hn2]
        exact ⟨fun _ => ⟨rfl, (h.keep hkx ((KM.z σm 0).trans hk)).rel⟩, fun q => absurd (nI_le (Nat.le_refl a) (by omega)) q⟩
      | succ d ih =>
        intro c hc
        have hc8 : c < 8 := by omega
        have g := ih (c + 1) (by omega)
        have g2 : sm (fun c => if T c 0 = - T 0 c then 1 else 0) (c + 1) = sm (fun c => if T c 0 = - T 0 c then 1 else 0) c + (if T c 0 = - T 0 c then 1 else 0) := rfl
        rw [g2] at g
        have e8 : (8 : Int32) * nI c = nI (8 * c) := by rw [show (8 : Int32) = nI 8 from rfl, pk_mul]
        have r1 := hR c 0 hc8 (by omega)
        have r2 := hR 0 c (by omega) hc8
        rw [show 8 * c + 0 = 8 * c by omega] at r1
        rw [show 8 * 0 + c = c by omega] at r2
        have c1 := tight_bd0 hT hc8
        unfold w_X6_known_L19
        rw [hn2, e8, nI_clamp (show 8 * c < 2 ^ 31 by omega), nI_clamp (show c < 2 ^ 31 by omega), r1, r2, iI_neg, nI_z, nI_1, nI_1]
        refine ⟨fun q => absurd q (nI_ge (by omega) (by omega)), fun _ => ⟨vp_in_nI (by omega) (by omega), vp_in_nI (by omega) (by omega), fun q => ?_, fun q => ?_⟩⟩
        · rw [if_neg (fun z => q (by rw [z]))] at g
          exact g
        · rw [if_pos ((iI_eq (by omega) (by omega) (by omega) (by omega)).mp q)] at g
          exact g
    exact O nc 0 (by omega)
  have O : ∀ (d c : Nat) (s : St), c + d = nc → KX σx s → w_X5_known_L4 (fun r u => w_X6_known σm (fun r2 u2 => r = r2 ∧ Rel (j + 1) u u2)) (fun x1 _ s => (fun r u => w_X6_known σm (fun r2 u2 => r = r2 ∧ Rel (j + 1) u u2)) x1 s) (d + 1) (nI (sm (fun c => if T c 0 = - T 0 c then 1 else 0) c)) (nI c) s := by
    intro d
    induction d with
    | zero =>
      intro c s hc hk
      have e : c = nc := by omega
      subst e
      unfold w_X5_known_L4
      rw [hk.1, hx.1]
      exact ⟨fun _ => ref s hk, fun q1 => absurd (nI_le (Nat.le_refl c) (by omega)) q1⟩
    | succ d ih =>
      intro c s hc hk
      have hc8 : c < 8 := by omega
      have hR : RM (s.2 16) (neg T) := by rw [hk.2 16 (by decide) (by decide) (by decide)]; exact hRM
      have g := ih (c + 1) _ (by omega) (hk.trans (KX.self2 s))
      have g2 : sm (fun c => if T c 0 = - T 0 c then 1 else 0) (c + 1) = sm (fun c => if T c 0 = - T 0 c then 1 else 0) c + (if T c 0 = - T 0 c then 1 else 0) := rfl
      rw [g2] at g
      have c1 := tight_bd0 hT hc8
      unfold w_X5_known_L4
      rw [hk.1, hx.1]
      refine ⟨fun q1 => absurd q1 (nI_ge (by omega) (by omega)), fun _ => ?_⟩
      refine x_least (a := 0) hR (by omega) hc8 (x_most (a := 0) hR (by omega) hc8 ?_)
      rw [nI_1, nI_1, ← hk.1]
      refine ⟨fun q => ?_, fun q => ?_⟩
      · rw [if_neg (fun z => q (by rw [z]))] at g
        exact g
      · rw [if_pos ((iI_eq (by omega) (by omega) (by omega) (by omega)).mp q).symm] at g
        exact g
  unfold w_X5_known
  exact ⟨nc + 1, O nc 0 σx (by omega) (KX.refl σx)⟩
