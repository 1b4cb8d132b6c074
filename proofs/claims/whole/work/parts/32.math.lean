/-! the fewest ties with which a new one can't be: ways through the bounds, which cost nothing, and at most n ties -/
abbrev Ed : Type := Nat × Nat × Int
def minL (es : List Ed) (f : Ed → Int) (m : Int) : Int := es.foldl (fun m e => min m (f e)) m
theorem minL_le (es : List Ed) (f : Ed → Int) : ∀ m, minL es f m ≤ m ∧ ∀ e ∈ es, minL es f m ≤ f e := by
  induction es with
  | nil => exact fun m => ⟨Int.le_refl _, fun e h => nomatch h⟩
  | cons a es ih =>
    intro m
    obtain ⟨h1, h2⟩ := ih (min m (f a))
    have h3 : minL (a :: es) f m = minL es f (min m (f a)) := rfl
    rw [h3]
    refine ⟨by omega, fun e he => ?_⟩
    rcases List.mem_cons.mp he with h | h
    · subst h
      omega
    · exact h2 e h
theorem minL_at (es : List Ed) (f : Ed → Int) : ∀ m, minL es f m = m ∨ ∃ e ∈ es, minL es f m = f e := by
  induction es with
  | nil => exact fun m => Or.inl rfl
  | cons a es ih =>
    intro m
    have h3 : minL (a :: es) f m = minL es f (min m (f a)) := rfl
    rw [h3]
    rcases ih (min m (f a)) with h | ⟨e, he, h⟩
    · rcases Int.le_total m (f a) with h4 | h4
      · exact Or.inl (by omega)
      · exact Or.inr ⟨a, List.mem_cons_self, by omega⟩
    · exact Or.inr ⟨e, List.mem_cons_of_mem _ he, h⟩
def layR (es : List Ed) : Nat → Mat
  | 0 => fst0
  | n + 1 => fun c d => minL es (fun e => layR es n c e.1 + e.2.2 + fst0 e.2.1 d) (layR es n c d)
def layL (es : List Ed) : Nat → Mat
  | 0 => fst0
  | n + 1 => fun c d => minL es (fun e => fst0 c e.1 + e.2.2 + layL es n e.2.1 d) (layL es n c d)
theorem layR_le (es : List Ed) (n c d : Nat) : layR es (n + 1) c d ≤ layR es n c d ∧ ∀ e ∈ es, layR es (n + 1) c d ≤ layR es n c e.1 + e.2.2 + fst0 e.2.1 d := minL_le es _ _
theorem layR_at (es : List Ed) (n c d : Nat) : layR es (n + 1) c d = layR es n c d ∨ ∃ e ∈ es, layR es (n + 1) c d = layR es n c e.1 + e.2.2 + fst0 e.2.1 d := minL_at es _ _
theorem layL_le (es : List Ed) (n c d : Nat) : layL es (n + 1) c d ≤ layL es n c d ∧ ∀ e ∈ es, layL es (n + 1) c d ≤ fst0 c e.1 + e.2.2 + layL es n e.2.1 d := minL_le es _ _
theorem layL_at (es : List Ed) (n c d : Nat) : layL es (n + 1) c d = layL es n c d ∨ ∃ e ∈ es, layL es (n + 1) c d = fst0 c e.1 + e.2.2 + layL es n e.2.1 d := minL_at es _ _
theorem layR_left (es : List Ed) (c : Nat) {e : Ed} (he : e ∈ es) : ∀ n d, layR es (n + 1) c d ≤ fst0 c e.1 + e.2.2 + layR es n e.2.1 d := by
  intro n
  induction n with
  | zero => intro d; exact (layR_le es 0 c d).2 e he
  | succ n ih =>
    intro d
    rcases layR_at es n e.2.1 d with h | ⟨g, hg, h⟩
    · have := (layR_le es (n + 1) c d).1
      have := ih d
      omega
    · have := (layR_le es (n + 1) c d).2 g hg
      have := ih g.1
      omega
theorem layL_right (es : List Ed) (d : Nat) {e : Ed} (he : e ∈ es) : ∀ n c, layL es (n + 1) c d ≤ layL es n c e.1 + e.2.2 + fst0 e.2.1 d := by
  intro n
  induction n with
  | zero => intro c; exact (layL_le es 0 c d).2 e he
  | succ n ih =>
    intro c
    rcases layL_at es n c e.1 with h | ⟨g, hg, h⟩
    · have := (layL_le es (n + 1) c d).1
      have := ih c
      omega
    · have := (layL_le es (n + 1) c d).2 g hg
      have := ih g.2.1
      omega
theorem layR_eq (es : List Ed) : ∀ n c d, layR es n c d = layL es n c d := by
  intro n
  induction n with
  | zero => intro c d; rfl
  | succ n ih =>
    intro c d
    have h1 : layR es (n + 1) c d ≤ layL es (n + 1) c d := by
      rcases layL_at es n c d with h | ⟨e, he, h⟩
      · have := (layR_le es n c d).1
        have := ih c d
        omega
      · have := layR_left es c he n d
        have := ih e.2.1 d
        omega
    have h2 : layL es (n + 1) c d ≤ layR es (n + 1) c d := by
      rcases layR_at es n c d with h | ⟨e, he, h⟩
      · have := (layL_le es n c d).1
        have := ih c d
        omega
      · have := layL_right es d he n c
        have := ih c e.1
        omega
    omega
def EdOf (es : List Ed) : Edg := fun a b w => (a, b, w) ∈ es
def EdOk (es : List Ed) : Prop := ∀ e ∈ es, e.1 < 8 ∧ e.2.1 < 8
theorem fst0_closed : Closed fst0 := tight_closed fst0_tight
theorem layL_free {es : List Ed} (hok : EdOk es) : ∀ n x y d, x < 8 → y < 8 → d < 8 → layL es n x d ≤ fst0 x y + layL es n y d := by
  intro n
  induction n with
  | zero => intro x y d hx hy hd; exact fst0_closed.2 x y d hx hy hd
  | succ n ih =>
    intro x y d hx hy hd
    rcases layL_at es n y d with h | ⟨e, he, h⟩
    · have := (layL_le es n x d).1
      have := ih x y d hx hy hd
      omega
    · have := (layL_le es n x d).2 e he
      have := fst0_closed.2 x y e.1 hx hy (hok e he).1
      omega
theorem layL_ge {es : List Ed} {T : Mat} (hok : EdOk es) (h : Tight (EdOf es) T) : ∀ n x d, x < 8 → d < 8 → T x d ≤ layL es n x d := by
  have hC := tight_closed h
  have h0 : ∀ x d, x < 8 → d < 8 → T x d ≤ fst0 x d := by
    intro x d hx hd
    obtain ⟨v, hv, e⟩ := h.2 x d hx hd
    have := fst0_tight.1 v ⟨hv.1, hv.2.1, fun a b w _ _ he => he.elim⟩ x d hx hd
    omega
  intro n
  induction n with
  | zero => exact h0
  | succ n ih =>
    intro x d hx hd
    rcases layL_at es n x d with h1 | ⟨e, he, h1⟩
    · have := ih x d hx hd
      omega
    · have h2 := hok e he
      have := ih e.2.1 d h2.2 hd
      have := tight_le h h2.1 h2.2 (show EdOf es e.1 e.2.1 e.2.2 from he)
      have := h0 x e.1 hx h2.1
      have := hC.2 x e.1 d hx h2.1 hd
      have := hC.2 e.1 e.2.1 d h2.1 h2.2 hd
      omega
/-- a node more is final at each layer -/
theorem layL_more {es : List Ed} {T : Mat} (hok : EdOk es) (h : Tight (EdOf es) T) {d : Nat} (hd : d < 8) (n : Nat) (hn : ∃ x, x < 8 ∧ layL es n x d ≠ T x d) : ∃ y, y < 8 ∧ layL es n y d ≠ T y d ∧ layL es (n + 1) y d = T y d := by
  have hC := tight_closed h
  by_cases hex : ∃ y, y < 8 ∧ layL es n y d ≠ T y d ∧ layL es (n + 1) y d = T y d
  · exact hex
  exfalso
  have hno : ∀ y, y < 8 → layL es n y d ≠ T y d → layL es (n + 1) y d ≠ T y d := fun y h1 h2 h3 => hex ⟨y, h1, h2, h3⟩
  have hdd : layL es n d d = T d d := by
    have h1 := layL_ge hok h n d d hd hd
    have h2 : ∀ k, layL es k d d ≤ 0 := by
      intro k
      induction k with
      | zero => exact Int.le_of_eq (fst0_closed.1 d hd)
      | succ k ih =>
        have := (layL_le es k d d).1
        omega
    have := h2 n
    have := hC.1 d hd
    omega
  obtain ⟨x0, hx0, hne⟩ := hn
  have key : ∀ (u : Nat → Int), (∀ x, x < 8 → (layL es n x d = T x d → u x = T x d) ∧ (layL es n x d ≠ T x d → u x = T x d + 1)) → False := by
    intro u hu
    have hfree : ∀ x y, x < 8 → y < 8 → u x - u y ≤ fst0 x y := by
      intro x y hx hy
      have g1 := hu x hx
      have g2 := hu y hy
      have g3 := hC.2 x y d hx hy hd
      have g4 := layL_free hok n x y d hx hy hd
      have g5 := layL_ge hok h n x d hx hd
      have g6 : T x y ≤ fst0 x y := layL_ge hok h 0 x y hx hy
      by_cases q1 : layL es n x d = T x d <;> by_cases q2 : layL es n y d = T y d
      · have := g1.1 q1; have := g2.1 q2; omega
      · have := g1.1 q1; have := g2.2 q2; omega
      · have := g1.2 q1; have := g2.1 q2; omega
      · have := g1.2 q1; have := g2.2 q2; omega
    have hfeas : Feas (EdOf es) (fun x => u x - u 0) := by
      refine ⟨by show u 0 - u 0 = 0; omega, fun a ha => ?_, fun a b w ha hb he => ?_⟩
      · have k1 := hfree a 0 ha (by omega)
        have k2 := hfree 0 a (by omega) ha
        have k3 := tight_bd0 fst0_tight ha
        show -200000 ≤ u a - u 0 ∧ u a - u 0 ≤ 200000
        omega
      · have g1 := hu a ha
        have g2 := hu b hb
        have g3 := tight_le h ha hb he
        have g4 := hC.2 a b d ha hb hd
        have g5 := (layL_le es n a d).2 (a, b, w) he
        have g5' : layL es (n + 1) a d ≤ fst0 a a + w + layL es n b d := g5
        have g6 := fst0_closed.1 a ha
        have g7 := layL_ge hok h (n + 1) a d ha hd
        show (u a - u 0) - (u b - u 0) ≤ w
        by_cases q1 : layL es n a d = T a d <;> by_cases q2 : layL es n b d = T b d
        · have := g1.1 q1; have := g2.1 q2; omega
        · have := g1.1 q1; have := g2.2 q2; omega
        · have := g1.2 q1
          have := g2.1 q2
          have := hno a ha q1
          omega
        · have := g1.2 q1; have := g2.2 q2; omega
    have r1 := h.1 _ hfeas x0 d hx0 hd
    have r1' : (u x0 - u 0) - (u d - u 0) ≤ T x0 d := r1
    have r2 := (hu x0 hx0).2 hne
    have r3 := (hu d hd).1 hdd
    have r4 := hC.1 d hd
    omega
  refine key (fun x => if layL es n x d = T x d then T x d else T x d + 1) (fun x hx => ⟨fun q => ?_, fun q => ?_⟩)
  · simp [q]
  · simp [q]
/-- seven ties are enough -/
theorem layL_seven {es : List Ed} {T : Mat} (hok : EdOk es) (h : Tight (EdOf es) T) {d : Nat} (hd : d < 8) : ∀ x, x < 8 → layL es 7 x d = T x d := by
  have hC := tight_closed h
  have hmono : ∀ n x, x < 8 → layL es n x d = T x d → layL es (n + 1) x d = T x d := by
    intro n x hx e
    have := (layL_le es n x d).1
    have := layL_ge hok h (n + 1) x d hx hd
    omega
  have cnt : ∀ n, ∃ i : Nat → Nat, (∀ x, x < 8 → (layL es n x d = T x d ∧ i x = 1) ∨ (layL es n x d ≠ T x d ∧ i x = 0)) := by
    intro n
    refine ⟨fun x => if layL es n x d = T x d then 1 else 0, fun x hx => ?_⟩
    by_cases q : layL es n x d = T x d
    · exact Or.inl ⟨q, by simp [q]⟩
    · exact Or.inr ⟨q, by simp [q]⟩
  have grow : ∀ n, n < 8 → ∀ i : Nat → Nat, (∀ x, x < 8 → (layL es n x d = T x d ∧ i x = 1) ∨ (layL es n x d ≠ T x d ∧ i x = 0)) → n + 1 ≤ i 0 + i 1 + i 2 + i 3 + i 4 + i 5 + i 6 + i 7 := by
    intro n
    induction n with
    | zero =>
      intro _ i hi
      have hdd : layL es 0 d d = T d d := by
        have := fst0_closed.1 d hd
        have := hC.1 d hd
        show fst0 d d = T d d
        omega
      have h1 : i d = 1 := by
        rcases hi d hd with h1 | h1
        · exact h1.2
        · exact absurd hdd h1.1
      have hd8 : d = 0 ∨ d = 1 ∨ d = 2 ∨ d = 3 ∨ d = 4 ∨ d = 5 ∨ d = 6 ∨ d = 7 := by omega
      rcases hd8 with e | e | e | e | e | e | e | e <;> rw [e] at h1 <;> omega
    | succ n ih =>
      intro hn i hi
      obtain ⟨k, hk⟩ := cnt n
      have h0 := ih (by omega) k hk
      have le : ∀ x, x < 8 → k x ≤ i x := by
        intro x hx
        rcases hk x hx with h1 | h1
        · rcases hi x hx with h2 | h2
          · omega
          · exact absurd (hmono n x hx h1.1) h2.1
        · omega
      have one : ∀ x, x < 8 → i x ≤ 1 := by
        intro x hx
        rcases hi x hx with h2 | h2 <;> omega
      have l0 := le 0 (by omega); have l1 := le 1 (by omega); have l2 := le 2 (by omega); have l3 := le 3 (by omega)
      have l4 := le 4 (by omega); have l5 := le 5 (by omega); have l6 := le 6 (by omega); have l7 := le 7 (by omega)
      by_cases hall : ∃ x, x < 8 ∧ layL es n x d ≠ T x d
      · obtain ⟨y, hy, q1, q2⟩ := layL_more hok h hd n hall
        have e1 : k y = 0 := by
          rcases hk y hy with h1 | h1
          · exact absurd h1.1 q1
          · exact h1.2
        have e2 : i y = 1 := by
          rcases hi y hy with h1 | h1
          · exact h1.2
          · exact absurd q2 h1.1
        have hy8 : y = 0 ∨ y = 1 ∨ y = 2 ∨ y = 3 ∨ y = 4 ∨ y = 5 ∨ y = 6 ∨ y = 7 := by omega
        rcases hy8 with e | e | e | e | e | e | e | e <;> rw [e] at e1 e2 <;> omega
      · have all : ∀ x, x < 8 → i x = 1 := by
          intro x hx
          rcases hi x hx with h1 | h1
          · exact h1.2
          · exfalso
            refine hall ⟨x, hx, fun e => h1.1 (hmono n x hx e)⟩
        have := all 0 (by omega); have := all 1 (by omega); have := all 2 (by omega); have := all 3 (by omega)
        have := all 4 (by omega); have := all 5 (by omega); have := all 6 (by omega); have := all 7 (by omega)
        omega
  intro x hx
  obtain ⟨i, hi⟩ := cnt 7
  have h1 := grow 7 (by omega) i hi
  have one : ∀ x, x < 8 → i x ≤ 1 := by
    intro x hx
    rcases hi x hx with h2 | h2 <;> omega
  have o0 := one 0 (by omega); have o1 := one 1 (by omega); have o2 := one 2 (by omega); have o3 := one 3 (by omega)
  have o4 := one 4 (by omega); have o5 := one 5 (by omega); have o6 := one 6 (by omega); have o7 := one 7 (by omega)
  have hix : i x = 1 := by
    have hx8 : x = 0 ∨ x = 1 ∨ x = 2 ∨ x = 3 ∨ x = 4 ∨ x = 5 ∨ x = 6 ∨ x = 7 := by omega
    rcases hx8 with e | e | e | e | e | e | e | e <;> rw [e] <;> omega
  rcases hi x hx with h2 | h2
  · exact h2.1
  · omega
/-! a camera that is tied to camera 0 alone -/
theorem lone_row {E : Edg} {T : Mat} {x y : Nat} (h : Tight E T) (hx : x < 8) (hy : y < 8) (hxy : x ≠ y) (hx0 : x ≠ 0) (hl : ∀ a b w, E a b w → (a = x ∨ b = x) → (a = 0 ∨ b = 0)) : T x y = T x 0 + T 0 y := by
  have hC := tight_closed h
  obtain ⟨u, hu, e1⟩ := h.2 0 y (by omega) hy
  obtain ⟨w, hw, e2⟩ := h.2 x 0 hx (by omega)
  have hf : Feas E (fun c => if c = x then w c else u c) := by
    refine ⟨?_, fun a ha => ?_, fun a b z ha hb he => ?_⟩
    · show (if 0 = x then w 0 else u 0) = 0
      rw [if_neg (fun e => hx0 e.symm)]
      exact hu.1
    · show -200000 ≤ (if a = x then w a else u a) ∧ (if a = x then w a else u a) ≤ 200000
      split
      · exact hw.2.1 a ha
      · exact hu.2.1 a ha
    · show (if a = x then w a else u a) - (if b = x then w b else u b) ≤ z
      have k1 := hw.2.2 a b z ha hb he
      have k2 := hu.2.2 a b z ha hb he
      have k3 := hw.1
      have k4 := hu.1
      by_cases qa : a = x <;> by_cases qb : b = x
      · rw [if_pos qa, if_pos qb]; exact k1
      · rw [if_pos qa, if_neg qb]
        rcases hl a b z he (Or.inl qa) with q | q
        · exact absurd (qa.symm.trans q) hx0
        · subst q; omega
      · rw [if_neg qa, if_pos qb]
        rcases hl a b z he (Or.inr qb) with q | q
        · subst q; omega
        · exact absurd (qb.symm.trans q) hx0
      · rw [if_neg qa, if_neg qb]; exact k2
  have r1 := h.1 _ hf x y hx hy
  have r2 : (if x = x then w x else u x) - (if y = x then w y else u y) ≤ T x y := r1
  rw [if_pos rfl, if_neg (fun e => hxy e.symm)] at r2
  have r3 := hC.2 x 0 y hx (by omega) hy
  have := hu.1
  have := hw.1
  omega
theorem lone_col {E : Edg} {T : Mat} {x y : Nat} (h : Tight E T) (hx : x < 8) (hy : y < 8) (hxy : x ≠ y) (hx0 : x ≠ 0) (hl : ∀ a b w, E a b w → (a = x ∨ b = x) → (a = 0 ∨ b = 0)) : T y x = T y 0 + T 0 x := by
  have h1 := lone_row (tight_neg h) hx hy hxy hx0 (fun a b w he hab => (hl b a w he hab.symm).symm)
  have h2 : T y x = T 0 x + T y 0 := h1
  omega
