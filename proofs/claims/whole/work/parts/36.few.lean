/-! the class's fewest: layers from one camera -/
def RV (f : Nat → Int32) (V : Nat → Int) : Prop := ∀ x, x < 8 → f x = iI (V x)
def BdV (V : Nat → Int) : Prop := ∀ x, x < 8 → -100000000 ≤ V x ∧ V x ≤ 100000000
theorem c0_8 : Int32.toNatClampNeg (0 : Int32) = 0 := rfl
theorem in0_8 : vp_in (0 : Int32) 8 := vp_in_nI (n := 0) (by omega) (by omega)
theorem le8i (j : Nat) (h : j < 2 ^ 31) : (nI 8) ≤ nI j ↔ 8 ≤ j := nI_leI (by omega) h
theorem s_fill {post : (Nat → Int32) → Prop} {f : Nat → Int32} {v : Int32} (hp : ∀ f', (∀ x, x < 8 → f' x = v) → post f') : w_J7_fill_53178 f v post := by
  have L : ∀ (d j : Nat) (s : Nat → Int32), j + d = 8 → (∀ x, x < j → s x = v) → w_J7_fill_53178_L5 v 8 post (fun _ s => post s) (d + 1) (nI j) s := by
    intro d
    induction d with
    | zero =>
      intro j s hj h
      have e : j = 8 := by omega
      subst e
      unfold w_J7_fill_53178_L5
      exact ⟨fun _ => hp s h, fun q => absurd ((le8 8 (by omega)).mpr (Nat.le_refl 8)) q⟩
    | succ d ih =>
      intro j s hj h
      unfold w_J7_fill_53178_L5
      refine ⟨fun q => absurd ((le8 j (by omega)).mp q) (by omega), fun _ => ⟨vp_in_nI (by omega) (by omega), ?_⟩⟩
      rw [nI_clamp (by omega), nI_1]
      refine ih (j + 1) _ (by omega) (fun x hx => ?_)
      by_cases q : x = j
      · subst q; exact pk_us
      · rw [pk_un q]; exact h x (by omega)
  unfold w_J7_fill_53178
  exact ⟨9, L 8 0 f (by omega) (fun x q => absurd q (Nat.not_lt_zero x))⟩
def m1 (V : Nat → Int) : Nat → Int
  | 0 => V 0
  | n + 1 => min (m1 V n) (V (n + 1) + 200000)
theorem m1_le (V : Nat → Int) : ∀ n, m1 V n ≤ V 0 ∧ ∀ c, 1 ≤ c → c ≤ n → m1 V n ≤ V c + 200000 := by
  intro n
  induction n with
  | zero => exact ⟨Int.le_refl _, fun c h1 h2 => absurd h1 (by omega)⟩
  | succ n ih =>
    refine ⟨?_, fun c h1 h2 => ?_⟩
    · show min (m1 V n) (V (n + 1) + 200000) ≤ V 0
      have := ih.1
      omega
    · show min (m1 V n) (V (n + 1) + 200000) ≤ V c + 200000
      by_cases q : c = n + 1
      · subst q; omega
      · have := ih.2 c h1 (by omega)
        omega
theorem m1_at (V : Nat → Int) : ∀ n, m1 V n = V 0 ∨ ∃ c, 1 ≤ c ∧ c ≤ n ∧ m1 V n = V c + 200000 := by
  intro n
  induction n with
  | zero => exact Or.inl rfl
  | succ n ih =>
    have h : m1 V (n + 1) = min (m1 V n) (V (n + 1) + 200000) := rfl
    rcases Int.le_total (m1 V n) (V (n + 1) + 200000) with g | g
    · rw [h, Int.min_eq_left g]
      rcases ih with q | ⟨c, c1, c2, q⟩
      · exact Or.inl q
      · exact Or.inr ⟨c, c1, by omega, q⟩
    · rw [h, Int.min_eq_right g]
      exact Or.inr ⟨n + 1, by omega, by omega, rfl⟩
def rbV (V : Nat → Int) (x : Nat) : Int := if x = 0 then m1 V 7 else min (V x) (m1 V 7 + 200000)
theorem rbV_le (V : Nat → Int) {x y : Nat} (hx : x < 8) (hy : y < 8) : rbV V x ≤ fst0 x y + V y := by
  have h := m1_le V 7
  unfold rbV fst0
  by_cases hx0 : x = 0
  · subst hx0
    rw [if_pos rfl]
    by_cases hy0 : y = 0
    · subst hy0
      rw [if_pos rfl]
      omega
    · rw [if_neg (fun e => hy0 e.symm), if_pos (Or.inl rfl)]
      have := h.2 y (by omega) (by omega)
      omega
  · rw [if_neg hx0]
    by_cases hxy : x = y
    · subst hxy
      rw [if_pos rfl]
      omega
    · rw [if_neg hxy]
      by_cases hy0 : y = 0
      · subst hy0
        rw [if_pos (Or.inr rfl)]
        omega
      · rw [if_neg (by omega)]
        have := h.2 y (by omega) (by omega)
        omega
theorem rbV_at (V : Nat → Int) {x : Nat} (hx : x < 8) : ∃ y, y < 8 ∧ rbV V x = fst0 x y + V y := by
  by_cases hx0 : x = 0
  · subst hx0
    rcases m1_at V 7 with q | ⟨c, c1, c2, q⟩
    · refine ⟨0, by omega, ?_⟩
      unfold rbV fst0
      rw [if_pos rfl, if_pos rfl, q]
      omega
    · refine ⟨c, by omega, ?_⟩
      have hc : ¬ 0 = c := by omega
      unfold rbV fst0
      rw [if_pos rfl, if_neg hc, if_pos (Or.inl rfl), q]
      omega
  · rcases Int.le_total (V x) (m1 V 7 + 200000) with g | g
    · refine ⟨x, hx, ?_⟩
      unfold rbV fst0
      rw [if_neg hx0, if_pos rfl]
      omega
    · rcases m1_at V 7 with q | ⟨c, c1, c2, q⟩
      · refine ⟨0, by omega, ?_⟩
        unfold rbV fst0
        rw [if_neg hx0, if_neg hx0, if_pos (Or.inr rfl)]
        omega
      · by_cases hc : x = c
        · subst hc
          exfalso
          omega
        · refine ⟨c, by omega, ?_⟩
          unfold rbV fst0
          rw [if_neg hx0, if_neg hc, if_neg (by omega)]
          omega
theorem s_rb {post : (Nat → Int32) → Prop} {f : Nat → Int32} {V : Nat → Int} (h : RV f V) (hB : BdV V) (hp : ∀ f', RV f' (rbV V) → post f') : w_X3_reachByBounds f post := by
  have mb : ∀ n, n ≤ 7 → -100000000 ≤ m1 V n ∧ m1 V n ≤ 100000000 := by
    intro n hn
    have h0 := hB 0 (by omega)
    have h1 := (m1_le V n).1
    rcases m1_at V n with q | ⟨c, c1, c2, q⟩
    · omega
    · have := hB c (by omega)
      omega
  have L2 : ∀ (d j : Nat) (s : Nat → Int32), j + 1 + d = 8 → s 0 = iI (m1 V 7) → (∀ x, 1 ≤ x → x < j + 1 → s x = iI (rbV V x)) → (∀ x, j + 1 ≤ x → x < 8 → s x = iI (V x)) → w_X3_reachByBounds_L31 post (fun _ s => post s) (d + 1) (nI (j + 1)) s := by
    intro d
    induction d with
    | zero =>
      intro j s hj s0 s1 s2
      have e : j + 1 = 8 := by omega
      rw [e]
      unfold w_X3_reachByBounds_L31
      refine ⟨fun _ => hp s (fun x hx => ?_), fun q => absurd ((le8 8 (by omega)).mpr (Nat.le_refl 8)) q⟩
      by_cases q : x = 0
      · subst q
        rw [s0]
        rfl
      · exact s1 x (by omega) (by omega)
    | succ d ih =>
      intro j s hj s0 s1 s2
      have hj8 : j + 1 < 8 := by omega
      unfold w_X3_reachByBounds_L31
      refine ⟨fun q => absurd ((le8 (j + 1) (by omega)).mp q) (by omega), fun _ => ⟨vp_in_nI hj8 (by omega), in0_8, vp_in_nI hj8 (by omega), ?_⟩⟩
      rw [nI_clamp (show j + 1 < 2 ^ 31 by omega), c0_8, s0, s2 (j + 1) (Nat.le_refl _) hj8, show (200000 : Int32) = iI 200000 from rfl, iI_add]
      have b1 := mb 7 (by omega)
      have b2 := hB (j + 1) hj8
      rw [iI_min (by omega) (by omega) (by omega) (by omega), nI_1]
      refine ih (j + 1) _ (by omega) ?_ (fun x h1 h2 => ?_) (fun x h1 h2 => ?_)
      · rw [pk_un (by omega)]; exact s0
      · by_cases q : x = j + 1
        · subst q
          rw [pk_us]
          unfold rbV
          rw [if_neg (by omega)]
        · rw [pk_un q]
          exact s1 x h1 (by omega)
      · rw [pk_un (by omega)]
        exact s2 x (by omega) h2
  have L1 : ∀ (d j : Nat) (s : Nat → Int32), j + 1 + d = 8 → s 0 = iI (m1 V j) → (∀ x, 1 ≤ x → x < 8 → s x = iI (V x)) → w_X3_reachByBounds_L2 post (fun _ s => (∃ n, w_X3_reachByBounds_L31 post (fun _ s => post s) n 1 s)) (d + 1) (nI (j + 1)) s := by
    intro d
    induction d with
    | zero =>
      intro j s hj s0 s1
      have e : j = 7 := by omega
      subst e
      unfold w_X3_reachByBounds_L2
      refine ⟨fun _ => ⟨8, ?_⟩, fun q => absurd ((le8 8 (by omega)).mpr (Nat.le_refl 8)) q⟩
      exact L2 7 0 s (by omega) s0 (fun x h1 h2 => absurd h1 (by omega)) (fun x h1 h2 => s1 x h1 h2)
    | succ d ih =>
      intro j s hj s0 s1
      have hj8 : j + 1 < 8 := by omega
      unfold w_X3_reachByBounds_L2
      refine ⟨fun q => absurd ((le8 (j + 1) (by omega)).mp q) (by omega), fun _ => ⟨in0_8, vp_in_nI hj8 (by omega), in0_8, ?_⟩⟩
      rw [nI_clamp (show j + 1 < 2 ^ 31 by omega), c0_8, s0, s1 (j + 1) (by omega) hj8, show (200000 : Int32) = iI 200000 from rfl, iI_add]
      have b1 := mb j (by omega)
      have b2 := hB (j + 1) hj8
      rw [iI_min (by omega) (by omega) (by omega) (by omega), nI_1]
      refine ih (j + 1) _ (by omega) pk_us (fun x h1 h2 => ?_)
      rw [pk_un (by omega)]
      exact s1 x h1 h2
  unfold w_X3_reachByBounds
  exact ⟨8, L1 7 0 f (by omega) (h 0 (by omega)) (fun x _ h2 => h x h2)⟩
/-- the data of a tie of the class -/
def TieC (one other least most : Int32) (a b : Nat) (lo hi : Int) : Prop := a < 8 ∧ b < 8 ∧ one = nI a ∧ other = nI b ∧ least = iI lo ∧ most = iI hi ∧ lo ≤ hi ∧ -1000000 ≤ lo ∧ lo ≤ 1000000 ∧ -1000000 ≤ hi ∧ hi ≤ 1000000
def ces (a b : Nat) (lo hi : Int) : List Ed := [(b, a, hi), (a, b, -lo)]
def stV (V : Nat → Int) (a b : Nat) (lo hi : Int) (W : Nat → Int) : Nat → Int := fun y => if y = a then min (if a = b then min (W b) (V a + hi) else W a) (V b - lo) else if y = b then min (W b) (V a + hi) else W y
theorem stV_le {V W : Nat → Int} {a b : Nat} {lo hi : Int} (y : Nat) : stV V a b lo hi W y ≤ W y ∧ ∀ e ∈ ces a b lo hi, e.1 = y → stV V a b lo hi W y ≤ e.2.2 + V e.2.1 := by
  have key : stV V a b lo hi W y ≤ W y ∧ (b = y → stV V a b lo hi W y ≤ hi + V a) ∧ (a = y → stV V a b lo hi W y ≤ -lo + V b) := by
    unfold stV
    refine ⟨?_, fun e => ?_, fun e => ?_⟩
    · by_cases q : y = a
      · subst q
        rw [if_pos rfl]
        by_cases q2 : y = b
        · subst q2; rw [if_pos rfl]; omega
        · rw [if_neg q2]; omega
      · rw [if_neg q]
        by_cases q2 : y = b
        · subst q2; rw [if_pos rfl]; omega
        · rw [if_neg q2]; omega
    · subst e
      by_cases q : b = a
      · subst q
        rw [if_pos rfl, if_pos rfl]; omega
      · rw [if_neg q, if_pos rfl]; omega
    · subst e
      rw [if_pos rfl]; omega
  refine ⟨key.1, fun e he h => ?_⟩
  rcases List.mem_cons.mp he with q | q
  · subst q; exact key.2.1 h
  · rw [List.mem_singleton] at q
    subst q; exact key.2.2 h
theorem stV_at {V W : Nat → Int} {a b : Nat} {lo hi : Int} (y : Nat) : stV V a b lo hi W y = W y ∨ ∃ e ∈ ces a b lo hi, e.1 = y ∧ stV V a b lo hi W y = e.2.2 + V e.2.1 := by
  have key : stV V a b lo hi W y = W y ∨ (b = y ∧ stV V a b lo hi W y = hi + V a) ∨ (a = y ∧ stV V a b lo hi W y = -lo + V b) := by
    unfold stV
    by_cases q : y = a
    · subst q
      rw [if_pos rfl]
      by_cases q2 : y = b
      · subst q2
        rw [if_pos rfl]
        omega
      · rw [if_neg q2]
        omega
    · rw [if_neg q]
      by_cases q2 : y = b
      · subst q2
        rw [if_pos rfl]
        omega
      · rw [if_neg q2]
        exact Or.inl rfl
  rcases key with q | ⟨q1, q2⟩ | ⟨q1, q2⟩
  · exact Or.inl q
  · exact Or.inr ⟨(b, a, hi), List.mem_cons_self, q1, q2⟩
  · exact Or.inr ⟨(a, b, -lo), List.mem_cons_of_mem _ List.mem_cons_self, q1, q2⟩
theorem rv_upd {f : Nat → Int32} {V : Nat → Int} (h : RV f V) {i : Nat} (y : Int) : RV (upd f i (iI y)) (fun x => if x = i then y else V x) := by
  intro x hx
  show upd f i (iI y) x = iI (if x = i then y else V x)
  by_cases q : x = i
  · subst q
    rw [if_pos rfl]
    exact pk_us
  · rw [if_neg q, pk_un q]
    exact h x hx
