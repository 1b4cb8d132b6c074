/-! clocks put right one by one: the bounds of a camera, those ahead of it given -/
/-- the ties, and the offsets of the first n cameras as put -/
def Fix (E : Edg) (o : Nat → Int) (n : Nat) : Edg := fun a b x => E a b x ∨ (∃ c, c < n ∧ ((a = c ∧ b = 0 ∧ x = o c) ∨ (a = 0 ∧ b = c ∧ x = - o c)))
/-- the least of o e + T x e over the cameras e < n, and 0 -/
def hiOf (T : Mat) (o : Nat → Int) (x : Nat) : Nat → Int
  | 0 => T x 0
  | n + 1 => min (hiOf T o x n) (o n + T x n)
theorem hiOf_le (T : Mat) (o : Nat → Int) (x : Nat) : ∀ n, hiOf T o x n ≤ T x 0 ∧ ∀ e, e < n → hiOf T o x n ≤ o e + T x e := by
  intro n
  induction n with
  | zero => exact ⟨Int.le_refl _, fun e h => absurd h (Nat.not_lt_zero e)⟩
  | succ n ih =>
    refine ⟨?_, fun e he => ?_⟩
    · show min (hiOf T o x n) (o n + T x n) ≤ T x 0
      have := ih.1
      omega
    · show min (hiOf T o x n) (o n + T x n) ≤ o e + T x e
      rcases Nat.lt_succ_iff_lt_or_eq.mp he with h | h
      · have := ih.2 e h
        omega
      · subst h
        omega
theorem hiOf_at (T : Mat) (o : Nat → Int) (x : Nat) : ∀ n, hiOf T o x n = T x 0 ∨ ∃ e, e < n ∧ hiOf T o x n = o e + T x e := by
  intro n
  induction n with
  | zero => exact Or.inl rfl
  | succ n ih =>
    have h : hiOf T o x (n + 1) = min (hiOf T o x n) (o n + T x n) := rfl
    rcases Int.le_total (hiOf T o x n) (o n + T x n) with h1 | h1
    · rw [h, Int.min_eq_left h1]
      rcases ih with h2 | ⟨e, he, h2⟩
      · exact Or.inl h2
      · exact Or.inr ⟨e, by omega, h2⟩
    · rw [h, Int.min_eq_right h1]
      exact Or.inr ⟨n, by omega, rfl⟩
/-- offsets of the first n cameras that keep the bounds among themselves -/
def Part (T : Mat) (o : Nat → Int) (n : Nat) : Prop := (0 < n → o 0 = 0) ∧ (∀ a, a < n → o a ≤ T a 0 ∧ - o a ≤ T 0 a) ∧ ∀ a b, a < n → b < n → o a - o b ≤ T a b
theorem fix_feas {E : Edg} {T : Mat} {o : Nat → Int} {n : Nat} (h : Tight E T) (hn : n ≤ 8) (hp : Part T o n) : Feas (Fix E o n) (fun x => hiOf T o x n) := by
  have hC := tight_closed h
  have key : ∀ x y, x < 8 → y < 8 → hiOf T o x n - hiOf T o y n ≤ T x y := by
    intro x y hx hy
    rcases hiOf_at T o y n with e | ⟨c, hc, e⟩
    · have := (hiOf_le T o x n).1
      have := hC.2 x y 0 hx hy (by omega)
      omega
    · have := (hiOf_le T o x n).2 c hc
      have := hC.2 x y c hx hy (by omega)
      omega
  have own : ∀ c, c < n → hiOf T o c n = o c := by
    intro c hc
    have h1 := (hiOf_le T o c n).2 c hc
    have h2 := hC.1 c (by omega)
    rcases hiOf_at T o c n with e | ⟨d, hd, e⟩
    · have := (hp.2.1 c hc).1
      omega
    · have := hp.2.2 c d hc hd
      omega
  have zero : hiOf T o 0 n = 0 := by
    rcases Nat.eq_zero_or_pos n with h0 | h0
    · subst h0
      exact hC.1 0 (by omega)
    · rw [own 0 h0]
      exact hp.1 h0
  refine ⟨zero, ?_, ?_⟩
  · intro a ha
    have h1 := key a 0 ha (by omega)
    have h2 := key 0 a (by omega) ha
    have := tight_bd0 h ha
    show -200000 ≤ hiOf T o a n ∧ hiOf T o a n ≤ 200000
    omega
  · intro a b w ha hb he
    show hiOf T o a n - hiOf T o b n ≤ w
    rcases he with he | ⟨c, hc, ⟨rfl, rfl, rfl⟩ | ⟨rfl, rfl, rfl⟩⟩
    · have := key a b ha hb
      have := tight_le h ha hb he
      omega
    · rw [own a hc, zero]
      omega
    · rw [own b hc, zero]
      omega
/-- the greatest offset of a camera x, those of the first n given -/
theorem fix_hi {E : Edg} {T U : Mat} {o : Nat → Int} {n x : Nat} (h : Tight E T) (hU : Tight (Fix E o n) U) (hn : n ≤ 8) (hx : x < 8) (hp : Part T o n) : U x 0 = hiOf T o x n := by
  have hf := fix_feas h hn hp
  have hfz : hiOf T o 0 n = 0 := hf.1
  have h1 := hU.1 _ hf x 0 hx (by omega)
  obtain ⟨v, hv, e⟩ := hU.2 x 0 hx (by omega)
  have hvE : Feas E v := ⟨hv.1, hv.2.1, fun a b w ha hb he => hv.2.2 a b w ha hb (Or.inl he)⟩
  have h2 : v x ≤ hiOf T o x n := by
    rcases hiOf_at T o x n with e1 | ⟨c, hc, e1⟩
    · have := h.1 v hvE x 0 hx (by omega)
      have := hv.1
      omega
    · have := h.1 v hvE x c hx (by omega)
      have h3 := hv.2.2 c 0 (o c) (by omega) (by omega) (Or.inr ⟨c, hc, Or.inl ⟨rfl, rfl, rfl⟩⟩)
      have := hv.1
      omega
  have := hv.1
  have h1' : hiOf T o x n - hiOf T o 0 n ≤ U x 0 := h1
  omega
/-- the greatest of o e - T e x over the cameras e < n, and 0 -/
def loOf (T : Mat) (o : Nat → Int) (x : Nat) : Nat → Int
  | 0 => - T 0 x
  | n + 1 => max (loOf T o x n) (o n - T n x)
theorem loOf_ge (T : Mat) (o : Nat → Int) (x : Nat) : ∀ n, - T 0 x ≤ loOf T o x n ∧ ∀ e, e < n → o e - T e x ≤ loOf T o x n := by
  intro n
  induction n with
  | zero => exact ⟨Int.le_refl _, fun e h => absurd h (Nat.not_lt_zero e)⟩
  | succ n ih =>
    refine ⟨?_, fun e he => ?_⟩
    · show - T 0 x ≤ max (loOf T o x n) (o n - T n x)
      have := ih.1
      omega
    · show o e - T e x ≤ max (loOf T o x n) (o n - T n x)
      rcases Nat.lt_succ_iff_lt_or_eq.mp he with h | h
      · have := ih.2 e h
        omega
      · subst h
        omega
theorem loOf_at (T : Mat) (o : Nat → Int) (x : Nat) : ∀ n, loOf T o x n = - T 0 x ∨ ∃ e, e < n ∧ loOf T o x n = o e - T e x := by
  intro n
  induction n with
  | zero => exact Or.inl rfl
  | succ n ih =>
    have h : loOf T o x (n + 1) = max (loOf T o x n) (o n - T n x) := rfl
    rcases Int.le_total (loOf T o x n) (o n - T n x) with h1 | h1
    · rw [h, Int.max_eq_right h1]
      exact Or.inr ⟨n, by omega, rfl⟩
    · rw [h, Int.max_eq_left h1]
      rcases ih with h2 | ⟨e, he, h2⟩
      · exact Or.inl h2
      · exact Or.inr ⟨e, by omega, h2⟩
/-- turned about: offsets with the other sign -/
def Neg (E : Edg) : Edg := fun a b w => E b a w
def neg (T : Mat) : Mat := fun a b => T b a
theorem feas_neg {E : Edg} {v : Nat → Int} (h : Feas E v) : Feas (Neg E) (fun x => - v x) := by
  refine ⟨?_, ?_, ?_⟩
  · show - v 0 = 0
    have := h.1
    omega
  · intro a ha
    show -200000 ≤ - v a ∧ - v a ≤ 200000
    have := h.2.1 a ha
    omega
  · intro a b w ha hb he
    show - v a - - v b ≤ w
    have := h.2.2 b a w hb ha he
    omega
theorem tight_neg {E : Edg} {T : Mat} (h : Tight E T) : Tight (Neg E) (neg T) := by
  refine ⟨fun v hv a b ha hb => ?_, fun a b ha hb => ?_⟩
  · have h1 := h.1 (fun x => - v x) (feas_neg hv) b a hb ha
    have h1' : - v b - - v a ≤ T b a := h1
    show v a - v b ≤ T b a
    omega
  · obtain ⟨v, hv, e⟩ := h.2 b a hb ha
    refine ⟨fun x => - v x, feas_neg hv, ?_⟩
    show - v a - - v b = T b a
    omega
theorem loOf_neg (T : Mat) (o : Nat → Int) (x : Nat) : ∀ n, loOf T o x n = - hiOf (neg T) (fun c => - o c) x n := by
  intro n
  induction n with
  | zero => rfl
  | succ n ih =>
    show max (loOf T o x n) (o n - T n x) = - min (hiOf (neg T) (fun c => - o c) x n) (- o n + T n x)
    rw [ih]
    omega
theorem fix_lo {E : Edg} {T U : Mat} {o : Nat → Int} {n x : Nat} (h : Tight E T) (hU : Tight (Fix E o n) U) (hn : n ≤ 8) (hx : x < 8) (hp : Part T o n) : - U 0 x = loOf T o x n := by
  have hU2 : Tight (Fix (Neg E) (fun c => - o c) n) (neg U) := by
    refine tight_congr (tight_neg hU) (fun a b w ha hb => ?_)
    constructor
    · rintro (he | ⟨c, hc, ⟨h1, h2, h3⟩ | ⟨h1, h2, h3⟩⟩)
      · exact Or.inl he
      · exact Or.inr ⟨c, hc, Or.inr ⟨h2, h1, by show w = - - o c; omega⟩⟩
      · exact Or.inr ⟨c, hc, Or.inl ⟨h2, h1, h3⟩⟩
    · rintro (he | ⟨c, hc, ⟨h1, h2, h3⟩ | ⟨h1, h2, h3⟩⟩)
      · exact Or.inl he
      · exact Or.inr ⟨c, hc, Or.inr ⟨h2, h1, h3⟩⟩
      · exact Or.inr ⟨c, hc, Or.inl ⟨h2, h1, by have : w = - - o c := h3; omega⟩⟩
  have hp2 : Part (neg T) (fun c => - o c) n := by
    refine ⟨fun h0 => ?_, fun a ha => ?_, fun a b ha hb => ?_⟩
    · show - o 0 = 0
      have := hp.1 h0
      omega
    · show - o a ≤ T 0 a ∧ - - o a ≤ T a 0
      have := hp.2.1 a ha
      omega
    · show - o a - - o b ≤ T b a
      have := hp.2.2 b a hb ha
      omega
  have := fix_hi (tight_neg h) hU2 hn hx hp2
  rw [loOf_neg, ← this]
  rfl
/-- the next camera's offset between its bounds keeps all -/
theorem part_next {E : Edg} {T : Mat} {o : Nat → Int} {n : Nat} {y : Int} (h : Tight E T) (hn : n < 8) (hp : Part T o n) (h0 : n = 0 → y = 0) (hlo : loOf T o n n ≤ y) (hhi : y ≤ hiOf T o n n) (ho : o n = y) : Part T o (n + 1) := by
  have hC := tight_closed h
  have l1 := loOf_ge T o n n
  have l2 := hiOf_le T o n n
  refine ⟨fun _ => ?_, fun a ha => ?_, fun a b ha hb => ?_⟩
  · rcases Nat.eq_zero_or_pos n with h1 | h1
    · subst h1
      rw [ho]
      exact h0 rfl
    · exact hp.1 h1
  · rcases Nat.lt_succ_iff_lt_or_eq.mp ha with h1 | h1
    · exact hp.2.1 a h1
    · subst h1
      have := l1.1
      have := l2.1
      omega
  · rcases Nat.lt_succ_iff_lt_or_eq.mp ha with h1 | h1 <;> rcases Nat.lt_succ_iff_lt_or_eq.mp hb with h2 | h2
    · exact hp.2.2 a b h1 h2
    · subst h2
      have := l1.2 a h1
      omega
    · subst h1
      have := l2.2 b h2
      omega
    · rw [h1, h2]
      have := hC.1 n hn
      omega
/-- the bounds of the next camera don't cross -/
theorem lo_le_hi {E : Edg} {T : Mat} {o : Nat → Int} {n x : Nat} (h : Tight E T) (hn : n ≤ 8) (hx : x < 8) (hp : Part T o n) : loOf T o x n ≤ hiOf T o x n := by
  have hC := tight_closed h
  rcases hiOf_at T o x n with e | ⟨c, hc, e⟩ <;> rcases loOf_at T o x n with f | ⟨d, hd, f⟩
  · have := hC.2 0 x 0 (by omega) hx (by omega)
    have := hC.1 0 (by omega)
    omega
  · have := hC.2 d x 0 (by omega) hx (by omega)
    have := (hp.2.1 d hd).1
    omega
  · have := hC.2 0 x c (by omega) hx (by omega)
    have := (hp.2.1 c hc).2
    omega
  · have := hC.2 d x c (by omega) hx (by omega)
    have := hp.2.2 d c hd hc
    omega
