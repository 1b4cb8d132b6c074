/-! bounds between offsets: v a - v b ≤ T a b for the 8 cameras; what all ties together allow is one matrix alone -/
abbrev Mat : Type := Nat → Nat → Int
abbrev Edg : Type := Nat → Nat → Int → Prop
/-- offsets that agree -/
def Feas (E : Edg) (v : Nat → Int) : Prop := v 0 = 0 ∧ (∀ a, a < 8 → -200000 ≤ v a ∧ v a ≤ 200000) ∧ ∀ a b w, a < 8 → b < 8 → E a b w → v a - v b ≤ w
def Sound (E : Edg) (T : Mat) : Prop := ∀ v, Feas E v → ∀ a b, a < 8 → b < 8 → v a - v b ≤ T a b
def Closed (T : Mat) : Prop := (∀ a, a < 8 → T a a = 0) ∧ ∀ a b c, a < 8 → b < 8 → c < 8 → T a c ≤ T a b + T b c
def Tight (E : Edg) (T : Mat) : Prop := Sound E T ∧ ∀ a b, a < 8 → b < 8 → ∃ v, Feas E v ∧ v a - v b = T a b
theorem tight_of {E : Edg} {T : Mat} (hS : Sound E T) (hC : Closed T) (hE : ∀ a b w, a < 8 → b < 8 → E a b w → T a b ≤ w) (hb : ∀ a, a < 8 → T a 0 ≤ 200000 ∧ T 0 a ≤ 200000) : Tight E T := by
  refine ⟨hS, fun a b ha hb' => ⟨fun x => T x b - T 0 b, ⟨?_, ?_, ?_⟩, ?_⟩⟩
  · show T 0 b - T 0 b = 0
    omega
  · intro x hx
    show -200000 ≤ T x b - T 0 b ∧ T x b - T 0 b ≤ 200000
    have h1 := hC.2 x 0 b hx (by omega) hb'
    have h2 := hC.2 0 x b (by omega) hx hb'
    have h3 := hb x hx
    omega
  · intro x y w hx hy h
    show (T x b - T 0 b) - (T y b - T 0 b) ≤ w
    have h1 := hC.2 x y b hx hy hb'
    have h2 := hE x y w hx hy h
    omega
  · show (T a b - T 0 b) - (T b b - T 0 b) = T a b
    have h1 := hC.1 b hb'
    omega
theorem tight_unique {E : Edg} {T U : Mat} (h1 : Tight E T) (h2 : Tight E U) {a b : Nat} (ha : a < 8) (hb : b < 8) : T a b = U a b := by
  obtain ⟨v, hv, e⟩ := h1.2 a b ha hb
  obtain ⟨w, hw, e2⟩ := h2.2 a b ha hb
  have := h2.1 v hv a b ha hb
  have := h1.1 w hw a b ha hb
  omega
theorem tight_closed {E : Edg} {T : Mat} (h : Tight E T) : Closed T := by
  refine ⟨fun a ha => ?_, fun a b c ha hb hc => ?_⟩
  · obtain ⟨v, hv, e⟩ := h.2 a a ha ha
    omega
  · obtain ⟨v, hv, e⟩ := h.2 a c ha hc
    have := h.1 v hv a b ha hb
    have := h.1 v hv b c hb hc
    omega
theorem tight_feas {E : Edg} {T : Mat} (h : Tight E T) : ∃ v, Feas E v := by
  obtain ⟨v, hv, -⟩ := h.2 0 0 (by omega) (by omega)
  exact ⟨v, hv⟩
theorem tight_le {E : Edg} {T : Mat} (h : Tight E T) {a b : Nat} {w : Int} (ha : a < 8) (hb : b < 8) (hE : E a b w) : T a b ≤ w := by
  obtain ⟨v, hv, e⟩ := h.2 a b ha hb
  have := hv.2.2 a b w ha hb hE
  omega
theorem tight_bd {E : Edg} {T : Mat} (h : Tight E T) {a b : Nat} (ha : a < 8) (hb : b < 8) : -400000 ≤ T a b ∧ T a b ≤ 400000 := by
  obtain ⟨v, hv, e⟩ := h.2 a b ha hb
  have := hv.2.1 a ha
  have := hv.2.1 b hb
  omega
theorem tight_bd0 {E : Edg} {T : Mat} (h : Tight E T) {a : Nat} (ha : a < 8) : (-200000 ≤ T a 0 ∧ T a 0 ≤ 200000) ∧ -200000 ≤ T 0 a ∧ T 0 a ≤ 200000 := by
  obtain ⟨v, hv, e⟩ := h.2 a 0 ha (by omega)
  obtain ⟨w, hw, e2⟩ := h.2 0 a (by omega) ha
  have := hv.2.1 a ha
  have := hw.2.1 a ha
  have := hv.1
  have := hw.1
  omega
theorem tight_congr {E F : Edg} {T : Mat} (h : Tight E T) (hEF : ∀ a b w, a < 8 → b < 8 → (E a b w ↔ F a b w)) : Tight F T := by
  have hF : ∀ v, Feas F v → Feas E v := fun v hv => ⟨hv.1, hv.2.1, fun a b w ha hb he => hv.2.2 a b w ha hb ((hEF a b w ha hb).mp he)⟩
  have hE : ∀ v, Feas E v → Feas F v := fun v hv => ⟨hv.1, hv.2.1, fun a b w ha hb he => hv.2.2 a b w ha hb ((hEF a b w ha hb).mpr he)⟩
  refine ⟨fun v hv => h.1 v (hF v hv), fun a b ha hb => ?_⟩
  obtain ⟨v, hv, e⟩ := h.2 a b ha hb
  exact ⟨v, hE v hv, e⟩
/-! Floyd and Warshall -/
def fwk (k : Nat) (T : Mat) : Mat := fun a b => min (T a b) (T a k + T k b)
def fws : Nat → Mat → Mat
  | 0, T => T
  | k + 1, T => fwk k (fws k T)
theorem fws_inv {T : Mat} {v0 : Nat → Int} (hd : ∀ a, a < 8 → T a a = 0) (h0 : ∀ a b, a < 8 → b < 8 → v0 a - v0 b ≤ T a b) : ∀ k, k ≤ 8 →
    (∀ v : Nat → Int, (∀ a b, a < 8 → b < 8 → v a - v b ≤ T a b) → ∀ a b, a < 8 → b < 8 → v a - v b ≤ fws k T a b) ∧ (∀ a b, fws k T a b ≤ T a b) ∧ (∀ a, a < 8 → fws k T a a = 0) ∧ ∀ a b m, a < 8 → b < 8 → m < k → fws k T a b ≤ fws k T a m + fws k T m b := by
  intro k
  induction k with
  | zero =>
    intro _
    exact ⟨fun v hv => hv, fun a b => Int.le_refl _, hd, fun a b m _ _ h => absurd h (Nat.not_lt_zero m)⟩
  | succ k ih =>
    intro hk
    obtain ⟨i1, i2, i3, i4⟩ := ih (by omega)
    have hk8 : k < 8 := by omega
    have h1 : ∀ v : Nat → Int, (∀ a b, a < 8 → b < 8 → v a - v b ≤ T a b) → ∀ a b, a < 8 → b < 8 → v a - v b ≤ fws (k + 1) T a b := by
      intro v hv a b ha hb
      show v a - v b ≤ min (fws k T a b) (fws k T a k + fws k T k b)
      have := i1 v hv a b ha hb
      have := i1 v hv a k ha hk8
      have := i1 v hv k b hk8 hb
      omega
    refine ⟨h1, ?_, ?_, ?_⟩
    · intro a b
      show min (fws k T a b) (fws k T a k + fws k T k b) ≤ T a b
      have := i2 a b
      omega
    · intro a ha
      have h2 := h1 v0 h0 a a ha ha
      have h3 : fws (k + 1) T a a ≤ fws k T a a := by
        show min (fws k T a a) (fws k T a k + fws k T k a) ≤ fws k T a a
        omega
      have := i3 a ha
      omega
    · intro a b m ha hb hm
      show min (fws k T a b) (fws k T a k + fws k T k b) ≤ min (fws k T a m) (fws k T a k + fws k T k m) + min (fws k T m b) (fws k T m k + fws k T k b)
      have hkk := i3 k hk8
      rcases Nat.lt_succ_iff_lt_or_eq.mp hm with hm | hm
      · have hm8 : m < 8 := by omega
        have := i4 a b m ha hb hm
        have := i4 k b m hk8 hb hm
        have := i4 a k m ha hk8 hm
        have := i4 k k m hk8 hk8 hm
        omega
      · subst hm
        have := i3 m hk8
        omega
theorem fws_col {T : Mat} {k : Nat} (h : T k k = 0) (a : Nat) : fwk k T a k = T a k := by
  show min (T a k) (T a k + T k k) = T a k
  omega
theorem fws_row {T : Mat} {k : Nat} (h : T k k = 0) (b : Nat) : fwk k T k b = T k b := by
  show min (T k b) (T k k + T k b) = T k b
  omega
/-- the closure of a matrix that some offsets keep -/
theorem fw_tight {E : Edg} {T : Mat} (hd : ∀ a, a < 8 → T a a = 0) (hS : Sound E T) (hE : ∀ a b w, a < 8 → b < 8 → E a b w → T a b ≤ w) (hb : ∀ a, a < 8 → T a 0 ≤ 200000 ∧ T 0 a ≤ 200000) (hf : ∃ v, Feas E v) : Tight E (fws 8 T) := by
  obtain ⟨v0, hv0⟩ := hf
  obtain ⟨i1, i2, i3, i4⟩ := fws_inv hd (hS v0 hv0) 8 (Nat.le_refl 8)
  refine tight_of (fun v hv => i1 v (hS v hv)) ⟨i3, fun a b c ha hb hc => i4 a c b ha hc hb⟩ (fun a b w ha hb h => ?_) (fun a ha => ?_)
  · have := i2 a b
    have := hE a b w ha hb h
    omega
  · have := i2 a 0
    have := i2 0 a
    have := hb a ha
    omega
/-! a tie more: one bound more between two cameras -/
def Add (E : Edg) (i j : Nat) (w : Int) : Edg := fun a b x => E a b x ∨ (a = i ∧ b = j ∧ x = w)
def low (i j : Nat) (w : Int) (T : Mat) : Mat := fun a b => min (T a b) (T a i + w + T j b)
theorem low_tight {E : Edg} {T : Mat} {i j : Nat} {w : Int} (h : Tight E T) (hi : i < 8) (hj : j < 8) (hw : 0 ≤ w + T j i) : Tight (Add E i j w) (low i j w T) := by
  have hC := tight_closed h
  refine tight_of ?_ ⟨?_, ?_⟩ ?_ ?_
  · intro v hv a b ha hb
    have hvE : Feas E v := ⟨hv.1, hv.2.1, fun a b x ha hb he => hv.2.2 a b x ha hb (Or.inl he)⟩
    have h1 := hv.2.2 i j w hi hj (Or.inr ⟨rfl, rfl, rfl⟩)
    have := h.1 v hvE a b ha hb
    have := h.1 v hvE a i ha hi
    have := h.1 v hvE j b hj hb
    show v a - v b ≤ min (T a b) (T a i + w + T j b)
    omega
  · intro a ha
    show min (T a a) (T a i + w + T j a) = 0
    have := hC.1 a ha
    have := hC.2 j a i hj ha hi
    omega
  · intro a b c ha hb hc
    show min (T a c) (T a i + w + T j c) ≤ min (T a b) (T a i + w + T j b) + min (T b c) (T b i + w + T j c)
    have := hC.2 a b c ha hb hc
    have := hC.2 j b c hj hb hc
    have := hC.2 a b i ha hb hi
    have := hC.2 j b i hj hb hi
    omega
  · intro a b x ha hb he
    show min (T a b) (T a i + w + T j b) ≤ x
    rcases he with he | ⟨rfl, rfl, rfl⟩
    · have := tight_le h ha hb he
      omega
    · have := hC.1 a ha
      have := hC.1 b hb
      omega
  · intro a ha
    show min (T a 0) (T a i + w + T j 0) ≤ 200000 ∧ min (T 0 a) (T 0 i + w + T j a) ≤ 200000
    have := tight_bd0 h ha
    omega
theorem low_row {T : Mat} {i j : Nat} {w : Int} (hC : Closed T) (hi : i < 8) (hj : j < 8) (hw : 0 ≤ w + T j i) {b : Nat} (hb : b < 8) : low i j w T j b = T j b := by
  show min (T j b) (T j i + w + T j b) = T j b
  omega
theorem low_col {T : Mat} {i j : Nat} {w : Int} (hC : Closed T) (hi : i < 8) (hj : j < 8) (hw : 0 ≤ w + T j i) {a : Nat} (ha : a < 8) : low i j w T a i = T a i := by
  show min (T a i) (T a i + w + T j i) = T a i
  omega
/-- no offsets keep a tie that breaks the bounds -/
theorem low_none {E : Edg} {T : Mat} {i j : Nat} {w : Int} (h : Tight E T) (hi : i < 8) (hj : j < 8) (hw : w + T j i < 0) : ¬ ∃ v, Feas (Add E i j w) v := by
  rintro ⟨v, hv⟩
  have h1 := hv.2.2 i j w hi hj (Or.inr ⟨rfl, rfl, rfl⟩)
  have := h.1 v ⟨hv.1, hv.2.1, fun a b x ha hb he => hv.2.2 a b x ha hb (Or.inl he)⟩ j i hj hi
  omega
/-! no ties: the bounds of the offsets alone -/
def Non : Edg := fun _ _ _ => False
def fst0 : Mat := fun a b => if a = b then 0 else if a = 0 ∨ b = 0 then 200000 else 400000
theorem fst0_tight : Tight Non fst0 := by
  refine tight_of ?_ ⟨?_, ?_⟩ ?_ ?_
  · intro v hv a b ha hb
    have := hv.2.1 a ha
    have := hv.2.1 b hb
    have h0 := hv.1
    show v a - v b ≤ if a = b then 0 else if a = 0 ∨ b = 0 then 200000 else 400000
    split
    · next h => subst h; omega
    · split
      · next h1 h2 =>
        rcases h2 with h2 | h2
        · subst h2; omega
        · subst h2; omega
      · omega
  · intro a ha
    simp [fst0]
  · intro a b c ha hb hc
    simp only [fst0]
    repeat' split
    all_goals omega
  · intro a b w ha hb h
    exact h.elim
  · intro a ha
    by_cases h : a = 0
    · subst h; simp [fst0]
    · have h2 : ¬ 0 = a := fun e => h e.symm
      simp [fst0, h, h2]
