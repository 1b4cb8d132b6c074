/-! bursts: how long the one is that ends at a picture of the row -/
def pst (c : Nat → Nat) (x : Nat) : Nat → Option Nat
  | 0 => none
  | k + 1 => if c k = x then some k else pst c x k
def onB (f : Nat → Nat → Bool) (o : Option Nat) (k : Nat) : Bool := match o with
  | none => false
  | some j => f j k
def mny (c : Nat → Nat) (f : Nat → Nat → Bool) (x : Nat) : Nat → Nat
  | 0 => 0
  | k + 1 => if c k = x then cond (onB f (pst c x k) k) (mny c f x k + 1) 1 else mny c f x k
def lnR (c : Nat → Nat) (f : Nat → Nat → Bool) (k : Nat) : Nat := mny c f (c k) (k + 1)
section BUR
variable {c : Nat → Nat} {f : Nat → Nat → Bool} {x : Nat}
theorem pst_y {k : Nat} (h : c k = x) : pst c x (k + 1) = some k := if_pos h
theorem pst_n {k : Nat} (h : ¬ c k = x) : pst c x (k + 1) = pst c x k := if_neg h
theorem mny_n {k : Nat} (h : ¬ c k = x) : mny c f x (k + 1) = mny c f x k := if_neg h
theorem mny_y {k : Nat} (h : c k = x) : mny c f x (k + 1) = lnR c f k := by
  unfold lnR
  rw [h]
theorem lnR_eq {k : Nat} (h : c k = x) : lnR c f k = cond (onB f (pst c x k) k) (mny c f x k + 1) 1 := by
  subst h
  exact if_pos rfl
theorem pst_lt {j : Nat} : ∀ {k : Nat}, pst c x k = some j → j < k ∧ c j = x := by
  intro k
  induction k with
  | zero => intro h; cases h
  | succ k ih =>
    intro h
    by_cases q : c k = x
    · rw [pst_y q] at h
      cases h
      exact ⟨by omega, q⟩
    · rw [pst_n q] at h
      have := ih h
      exact ⟨by omega, this.2⟩
theorem pst_skip {a : Nat} : ∀ {b : Nat}, a ≤ b → (∀ k, a ≤ k → k < b → ¬ c k = x) → pst c x b = pst c x a ∧ mny c f x b = mny c f x a := by
  intro b
  induction b with
  | zero =>
    intro h _
    have e : a = 0 := by omega
    rw [e]
    exact ⟨rfl, rfl⟩
  | succ b ih =>
    intro h hk
    by_cases q : a = b + 1
    · rw [q]
      exact ⟨rfl, rfl⟩
    · have i := ih (by omega) (fun k h1 h2 => hk k h1 (by omega))
      have n := hk b (by omega) (by omega)
      rw [pst_n n, mny_n n]
      exact i
theorem ln_some {j l : Nat} (h : c j = c l) (hjl : j < l) (hn : ∀ k, j + 1 ≤ k → k < l → ¬ c k = c l) : lnR c f l = cond (f j l) (lnR c f j + 1) 1 := by
  have s := pst_skip (f := f) (show j + 1 ≤ l by omega) hn
  rw [lnR_eq (x := c l) rfl, s.1, s.2, pst_y h, mny_y h]
  rfl
theorem ln_none {l : Nat} (hn : ∀ k, k < l → ¬ c k = c l) : lnR c f l = 1 := by
  have s := pst_skip (f := f) (Nat.zero_le l) (fun k _ h => hn k h)
  rw [lnR_eq (x := c l) rfl, s.1]
  rfl
theorem mny_le : ∀ k, mny c f x k ≤ k := by
  intro k
  induction k with
  | zero => exact Nat.le_refl 0
  | succ k ih =>
    by_cases q : c k = x
    · rw [mny_y q, lnR_eq q]
      cases onB f (pst c x k) k with
      | false => show 1 ≤ k + 1; omega
      | true => show mny c f x k + 1 ≤ k + 1; omega
    · rw [mny_n q]
      omega
theorem ln_le (k : Nat) : lnR c f k ≤ k + 1 := mny_le (k + 1)
def gcB (c : Nat → Nat) (f : Nat → Nat → Bool) (x k : Nat) : Nat := if c k = x then cond (decide (lnR c f k = 2)) 1 0 else 0
def mxM (c : Nat → Nat) (f : Nat → Nat → Bool) (x M0 : Nat) : Nat → Nat
  | 0 => M0
  | k + 1 => if c k = x then cond (decide (1 < lnR c f k)) (max (mxM c f x M0 k) (lnR c f k)) (mxM c f x M0 k) else mxM c f x M0 k
theorem mxM_y {M0 k : Nat} (h : c k = x) : mxM c f x M0 (k + 1) = cond (decide (1 < lnR c f k)) (max (mxM c f x M0 k) (lnR c f k)) (mxM c f x M0 k) := if_pos h
theorem mxM_n {M0 k : Nat} (h : ¬ c k = x) : mxM c f x M0 (k + 1) = mxM c f x M0 k := if_neg h
theorem cond_max {A M z : Nat} (h : A = cond (decide (1 < z)) (max M z) M) : M ≤ A ∧ (1 < z → z ≤ A) ∧ (A = M ∨ (A = z ∧ 1 < z)) := by
  by_cases q : 1 < z
  · rw [decide_eq_true q] at h
    have h2 : A = max M z := h
    omega
  · rw [decide_eq_false q] at h
    have h2 : A = M := h
    omega
theorem mxM_all {M0 : Nat} : ∀ k, M0 ≤ mxM c f x M0 k ∧ (∀ i, i < k → c i = x → 1 < lnR c f i → lnR c f i ≤ mxM c f x M0 k) ∧ (mxM c f x M0 k = M0 ∨ ∃ i, i < k ∧ lnR c f i = mxM c f x M0 k ∧ 1 < lnR c f i) := by
  intro k
  induction k with
  | zero => exact ⟨Nat.le_refl _, fun i h => absurd h (Nat.not_lt_zero i), Or.inl rfl⟩
  | succ k ih =>
    obtain ⟨i1, i2, i3⟩ := ih
    by_cases q : c k = x
    · have m := cond_max (mxM_y (f := f) (M0 := M0) q)
      refine ⟨by omega, fun i hi hc hl => ?_, ?_⟩
      · by_cases e : i = k
        · subst e
          exact m.2.1 hl
        · have := i2 i (by omega) hc hl
          omega
      · rcases m.2.2 with e | ⟨e, e2⟩
        · rw [e]
          rcases i3 with i3 | ⟨i, a1, a2, a3⟩
          · exact Or.inl i3
          · exact Or.inr ⟨i, by omega, a2, a3⟩
        · exact Or.inr ⟨k, by omega, e.symm, e2⟩
    · rw [mxM_n q]
      refine ⟨i1, fun i hi hc hl => ?_, ?_⟩
      · by_cases e : i = k
        · subst e
          exact absurd hc q
        · exact i2 i (by omega) hc hl
      · rcases i3 with i3 | ⟨i, a1, a2, a3⟩
        · exact Or.inl i3
        · exact Or.inr ⟨i, by omega, a2, a3⟩
def mxO (c : Nat → Nat) (f : Nat → Nat → Bool) (nr : Nat) : Nat → Nat
  | 0 => 0
  | x + 1 => mxM c f x (mxO c f nr x) nr
theorem mxO_all {nr : Nat} : ∀ x, (∀ i, i < nr → c i < x → 1 < lnR c f i → lnR c f i ≤ mxO c f nr x) ∧ (mxO c f nr x = 0 ∨ ∃ i, i < nr ∧ lnR c f i = mxO c f nr x ∧ 1 < lnR c f i) := by
  intro x
  induction x with
  | zero => exact ⟨fun i _ h => absurd h (Nat.not_lt_zero _), Or.inl rfl⟩
  | succ x ih =>
    obtain ⟨i1, i2⟩ := ih
    obtain ⟨a1, a2, a3⟩ := mxM_all (c := c) (f := f) (x := x) (M0 := mxO c f nr x) nr
    show (∀ i, i < nr → c i < x + 1 → 1 < lnR c f i → lnR c f i ≤ mxM c f x (mxO c f nr x) nr) ∧ (mxM c f x (mxO c f nr x) nr = 0 ∨ ∃ i, i < nr ∧ lnR c f i = mxM c f x (mxO c f nr x) nr ∧ 1 < lnR c f i)
    refine ⟨fun i hi hc hl => ?_, ?_⟩
    · by_cases e : c i = x
      · exact a2 i hi e hl
      · have := i1 i hi (by omega) hl
        omega
    · rcases a3 with a3 | a3
      · rw [a3]
        exact i2
      · exact Or.inr a3
theorem mxO_le {nr : Nat} (x : Nat) : mxO c f nr x ≤ nr := by
  rcases (mxO_all (c := c) (f := f) (nr := nr) x).2 with h | ⟨i, h1, h2, h3⟩
  · omega
  · have := ln_le (c := c) (f := f) i
    omega
theorem mxM_le {nr M0 : Nat} (h : M0 ≤ nr) {k : Nat} (hk : k ≤ nr) : mxM c f x M0 k ≤ nr := by
  rcases (mxM_all (c := c) (f := f) (x := x) (M0 := M0) k).2.2 with h | ⟨i, h1, h2, h3⟩
  · omega
  · have := ln_le (c := c) (f := f) i
    omega
def mxC (c : Nat → Nat) (f : Nat → Nat → Bool) : Nat → Nat
  | 0 => 0
  | k + 1 => max (mxC c f k) (lnR c f k)
theorem mxC_all : ∀ k, (∀ i, i < k → lnR c f i ≤ mxC c f k) ∧ (mxC c f k = 0 ∨ ∃ i, i < k ∧ lnR c f i = mxC c f k) := by
  intro k
  induction k with
  | zero => exact ⟨fun i h => absurd h (Nat.not_lt_zero i), Or.inl rfl⟩
  | succ k ih =>
    obtain ⟨i1, i2⟩ := ih
    have e : mxC c f (k + 1) = max (mxC c f k) (lnR c f k) := rfl
    refine ⟨fun i hi => ?_, ?_⟩
    · by_cases q : i = k
      · subst q
        omega
      · have := i1 i (by omega)
        omega
    · by_cases q : mxC c f k ≤ lnR c f k
      · exact Or.inr ⟨k, by omega, by omega⟩
      · rcases i2 with i2 | ⟨i, a1, a2⟩
        · exact Or.inl (by omega)
        · exact Or.inr ⟨i, by omega, by omega⟩
theorem mxC_le (k : Nat) : mxC c f k ≤ k := by
  rcases (mxC_all (c := c) (f := f) k).2 with h | ⟨i, h1, h2⟩
  · omega
  · have := ln_le (c := c) (f := f) i
    omega
theorem mx_same {nr npc : Nat} (h : ∀ i, i < nr → c i < npc) : (if mxC c f nr < 2 then 0 else mxC c f nr) = mxO c f nr npc := by
  obtain ⟨a1, a2⟩ := mxC_all (c := c) (f := f) nr
  obtain ⟨d1, d2⟩ := mxO_all (c := c) (f := f) (nr := nr) npc
  by_cases q : mxC c f nr < 2
  · rw [if_pos q]
    rcases d2 with d2 | ⟨i, e1, e2, e3⟩
    · exact d2.symm
    · have := a1 i e1
      omega
  · rw [if_neg q]
    rcases a2 with a2 | ⟨k, e1, e2⟩
    · omega
    · have g1 := d1 k e1 (h k e1) (by omega)
      rcases d2 with d2 | ⟨i, e4, e5, e6⟩
      · omega
      · have := a1 i e4
        omega
theorem sm_one {a v : Nat} : ∀ {n : Nat}, a < n → sm (fun i => if a = i then v else 0) n = v := by
  intro n
  induction n with
  | zero => intro h; exact absurd h (Nat.not_lt_zero a)
  | succ n ih =>
    intro h
    show sm (fun i => if a = i then v else 0) n + (if a = n then v else 0) = v
    by_cases q : a = n
    · rw [if_pos q, sm_zero (fun i hi => if_neg (by omega)), Nat.zero_add]
    · rw [if_neg q, ih (by omega), Nat.add_zero]
theorem gc_same {nr npc : Nat} (h : ∀ i, i < nr → c i < npc) : sm (fun x => sm (fun k => gcB c f x k) nr) npc = sm (fun k => cond (decide (lnR c f k = 2)) 1 0) nr := by
  rw [sm_swap (fun x k => gcB c f x k)]
  refine sm_congr (fun k hk => ?_)
  exact sm_one (h k hk)
end BUR
noncomputable def flB (tm : Nat → Int) (m3 : Nat → Int32) (p q : Nat) : Bool := decide (tm q - tm p ≤ 2) && decide (pcB (mkN m3 p ^^^ mkN m3 q) ≤ 2)
