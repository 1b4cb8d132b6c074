/-! put: offsets chosen one by one; the row as pictures are laid into it -/
def pickI (lo hi : Int) : Int := if 0 < lo then lo else min hi 0
def oS (T : Mat) : Nat → Nat → Int
  | 0 => fun _ => 0
  | n + 1 => fun c => if c = n then pickI (loOf T (oS T n) n n) (hiOf T (oS T n) n n) else oS T n c
def oF (T : Mat) (c : Nat) : Int := oS T (c + 1) c
theorem hiOf_congr {T : Mat} {o o' : Nat → Int} {x : Nat} : ∀ {n : Nat}, (∀ e, e < n → o e = o' e) → hiOf T o x n = hiOf T o' x n := by
  intro n
  induction n with
  | zero => intro _; rfl
  | succ n ih =>
    intro h
    show min (hiOf T o x n) (o n + T x n) = min (hiOf T o' x n) (o' n + T x n)
    rw [ih (fun e he => h e (by omega)), h n (by omega)]
theorem loOf_congr {T : Mat} {o o' : Nat → Int} {x : Nat} : ∀ {n : Nat}, (∀ e, e < n → o e = o' e) → loOf T o x n = loOf T o' x n := by
  intro n
  induction n with
  | zero => intro _; rfl
  | succ n ih =>
    intro h
    show max (loOf T o x n) (o n - T n x) = max (loOf T o' x n) (o' n - T n x)
    rw [ih (fun e he => h e (by omega)), h n (by omega)]
theorem oS_stable (T : Mat) {e : Nat} : ∀ {n : Nat}, e < n → oS T n e = oF T e := by
  intro n
  induction n with
  | zero => intro h; exact absurd h (Nat.not_lt_zero e)
  | succ n ih =>
    intro h
    by_cases q : e = n
    · subst q
      rfl
    · show (if e = n then pickI (loOf T (oS T n) n n) (hiOf T (oS T n) n n) else oS T n e) = oF T e
      rw [if_neg q]
      exact ih (by omega)
theorem oF_eq (T : Mat) (n : Nat) : oF T n = pickI (loOf T (oF T) n n) (hiOf T (oF T) n n) := by
  show (if n = n then pickI (loOf T (oS T n) n n) (hiOf T (oS T n) n n) else oS T n n) = _
  rw [if_pos rfl, loOf_congr (fun e he => oS_stable T he), hiOf_congr (fun e he => oS_stable T he)]
theorem oF_part {E : Edg} {T : Mat} (h : Tight E T) : ∀ n, n ≤ 8 → Part T (oF T) n := by
  intro n
  induction n with
  | zero => intro _; exact ⟨fun q => absurd q (Nat.lt_irrefl 0), fun a q => absurd q (Nat.not_lt_zero a), fun a b q => absurd q (Nat.not_lt_zero a)⟩
  | succ n ih =>
    intro hn
    have hp := ih (by omega)
    have l := lo_le_hi h (show n ≤ 8 by omega) (show n < 8 by omega) hp
    have C := (tight_closed h).1 0 (by omega)
    have b : loOf T (oF T) n n ≤ pickI (loOf T (oF T) n n) (hiOf T (oF T) n n) ∧ pickI (loOf T (oF T) n n) (hiOf T (oF T) n n) ≤ hiOf T (oF T) n n := by
      unfold pickI
      split <;> omega
    refine part_next h (by omega) hp (fun e => ?_) b.1 b.2 (oF_eq T n)
    subst e
    have e1 : loOf T (oF T) 0 0 = - T 0 0 := rfl
    have e2 : hiOf T (oF T) 0 0 = T 0 0 := rfl
    rw [e1, e2, C]
    decide
theorem oF_bd {E : Edg} {T : Mat} (h : Tight E T) {c : Nat} (hc : c < 8) : -200000 ≤ oF T c ∧ oF T c ≤ 200000 := by
  have p := (oF_part h 8 (by omega)).2.1 c hc
  have t := tight_bd0 h hc
  omega
theorem oF_0 {E : Edg} {T : Mat} (h : Tight E T) : oF T 0 = 0 := (oF_part h 8 (by omega)).1 (by omega)
theorem lohi_bd {E : Edg} {T : Mat} (h : Tight E T) {x n : Nat} (hx : x < 8) (hn : n ≤ 8) : (-600000 ≤ loOf T (oF T) x n ∧ loOf T (oF T) x n ≤ 600000) ∧ -600000 ≤ hiOf T (oF T) x n ∧ hiOf T (oF T) x n ≤ 600000 := by
  have t := tight_bd0 h hx
  constructor
  · rcases loOf_at T (oF T) x n with e | ⟨d, hd, e⟩
    · omega
    · have := tight_bd h (show d < 8 by omega) hx
      have := oF_bd h (show d < 8 by omega)
      omega
  · rcases hiOf_at T (oF T) x n with e | ⟨d, hd, e⟩
    · omega
    · have := tight_bd h hx (show d < 8 by omega)
      have := oF_bd h (show d < 8 by omega)
      omega
theorem fix_0 {E : Edg} {T : Mat} (o : Nat → Int) (h : Tight E T) : Tight (Fix E o 0) T := by
  refine tight_congr h (fun a b w _ _ => ⟨fun q => Or.inl q, fun q => ?_⟩)
  rcases q with q | ⟨c, hc, -⟩
  · exact q
  · exact absurd hc (Nat.not_lt_zero c)
/-- the bounds with one camera more put -/
def putM (U : Mat) (c : Nat) (y : Int) : Mat := updM (updM U c 0 (min (U c 0) y)) 0 c (min (updM U c 0 (min (U c 0) y) 0 c) (-y))
theorem updM_le {U : Mat} {i j : Nat} {y : Int} (h : y ≤ U i j) (a b : Nat) : updM U i j y a b ≤ U a b := by
  unfold updM
  split
  · next q => rw [q.1, q.2]; exact h
  · exact Int.le_refl _
theorem updM_at (U : Mat) (i j : Nat) (y : Int) : updM U i j y i j = y := by
  unfold updM
  rw [if_pos ⟨rfl, rfl⟩]
theorem putM_le (U : Mat) (c : Nat) (y : Int) : (∀ a b, putM U c y a b ≤ U a b) ∧ putM U c y c 0 ≤ y ∧ putM U c y 0 c ≤ -y := by
  have h1 : ∀ a b, updM U c 0 (min (U c 0) y) a b ≤ U a b := updM_le (by omega)
  have h2 : ∀ a b, putM U c y a b ≤ updM U c 0 (min (U c 0) y) a b := updM_le (by omega)
  refine ⟨fun a b => Int.le_trans (h2 a b) (h1 a b), ?_, ?_⟩
  · have := h2 c 0
    rw [updM_at] at this
    omega
  · unfold putM
    rw [updM_at]
    omega
theorem putM_ge {U : Mat} {c : Nat} {y : Int} {v : Nat → Int} (h : ∀ a b, a < 8 → b < 8 → v a - v b ≤ U a b) (h1 : v c - v 0 ≤ y) (h2 : v 0 - v c ≤ -y) (hc : c < 8) : ∀ a b, a < 8 → b < 8 → v a - v b ≤ putM U c y a b := by
  have k : ∀ a b, a < 8 → b < 8 → v a - v b ≤ updM U c 0 (min (U c 0) y) a b := by
    intro a b ha hb
    unfold updM
    split
    · next q =>
      rw [q.1, q.2]
      have := h c 0 hc (by omega)
      omega
    · exact h a b ha hb
  intro a b ha hb
  have k2 := k 0 c (by omega) hc
  unfold putM
  generalize updM U c 0 (min (U c 0) y) = V at k k2 ⊢
  unfold updM
  split
  · next q =>
    rw [q.1, q.2]
    omega
  · exact k a b ha hb
theorem fix_step {E : Edg} {T U : Mat} {c : Nat} (h : Tight E T) (hU : Tight (Fix E (oF T) c) U) (hc : c < 8) : (∀ k, k ≤ 8 → ∀ a, a < 8 → fws k (putM U c (oF T c)) a a = 0) ∧ (∀ k, k ≤ 8 → Bd 400000 (fws k (putM U c (oF T c)))) ∧ Tight (Fix E (oF T) (c + 1)) (fws 8 (putM U c (oF T c))) := by
  have hf := fix_feas h (show c + 1 ≤ 8 by omega) (oF_part h (c + 1) (by omega))
  have sub : ∀ v, Feas (Fix E (oF T) (c + 1)) v → Feas (Fix E (oF T) c) v := by
    intro v hv
    refine ⟨hv.1, hv.2.1, fun a b w ha hb e => hv.2.2 a b w ha hb ?_⟩
    rcases e with e | ⟨d, hd, e⟩
    · exact Or.inl e
    · exact Or.inr ⟨d, by omega, e⟩
  have hS : Sound (Fix E (oF T) (c + 1)) (putM U c (oF T c)) := by
    intro v hv
    refine putM_ge (hU.1 v (sub v hv)) (hv.2.2 c 0 _ hc (by omega) (Or.inr ⟨c, by omega, Or.inl ⟨rfl, rfl, rfl⟩⟩)) (hv.2.2 0 c _ (by omega) hc (Or.inr ⟨c, by omega, Or.inr ⟨rfl, rfl, rfl⟩⟩)) hc
  have le := putM_le U c (oF T c)
  have UC := tight_closed hU
  have hd : ∀ a, a < 8 → putM U c (oF T c) a a = 0 := by
    intro a ha
    have g1 := hS _ hf a a ha ha
    have g2 := le.1 a a
    have g3 := UC.1 a ha
    omega
  have hE : ∀ a b w, a < 8 → b < 8 → Fix E (oF T) (c + 1) a b w → putM U c (oF T c) a b ≤ w := by
    intro a b w ha hb e
    have old : Fix E (oF T) c a b w → putM U c (oF T c) a b ≤ w := fun q => Int.le_trans (le.1 a b) (tight_le hU ha hb q)
    rcases e with e | ⟨d, hd, e⟩
    · exact old (Or.inl e)
    · by_cases q : d = c
      · subst q
        rcases e with ⟨e1, e2, e3⟩ | ⟨e1, e2, e3⟩
        · rw [e1, e2, e3]
          exact le.2.1
        · rw [e1, e2, e3]
          exact le.2.2
      · exact old (Or.inr ⟨d, by omega, e⟩)
  refine ⟨fun k hk => (fws_inv hd (hS _ hf) k hk).2.2.1, fun k hk a b ha hb => ?_, fw_tight hd hS hE (fun a ha => ?_) ⟨_, hf⟩⟩
  · obtain ⟨i1, i2, -, -⟩ := fws_inv hd (hS _ hf) k hk
    have g1 := i1 _ (hS _ hf) a b ha hb
    have g2 := i2 a b
    have g3 := le.1 a b
    have g4 := tight_bd hU ha hb
    have g5 : -200000 ≤ hiOf T (oF T) a (c + 1) ∧ hiOf T (oF T) a (c + 1) ≤ 200000 := hf.2.1 a ha
    have g6 : -200000 ≤ hiOf T (oF T) b (c + 1) ∧ hiOf T (oF T) b (c + 1) ≤ 200000 := hf.2.1 b hb
    omega
  · have g1 := le.1 a 0
    have g2 := le.1 0 a
    have g3 := tight_bd0 hU ha
    omega
/-! the row -/
def earB (tm : Nat → Int) (cm : Nat → Nat) (p q : Nat) : Bool := decide (tm p < tm q ∨ (tm p = tm q ∧ cm p < cm q))
def posF (e : Nat → Bool) : Nat → Nat
  | 0 => 0
  | k + 1 => cond (e k) (posF e k) (k + 1)
def insF (e : Nat → Bool) (r : Nat → Nat) (p j : Nat) : Nat := if j < posF e p then r j else if j = posF e p then p else r (j - 1)
def rowF (tm : Nat → Int) (cm : Nat → Nat) : Nat → Nat → Nat
  | 0 => fun _ => 0
  | p + 1 => insF (fun k => earB tm cm p (rowF tm cm p k)) (rowF tm cm p) p
theorem pos_all (e : Nat → Bool) : ∀ k, posF e k ≤ k ∧ (∀ j, posF e k ≤ j → j < k → e j = true) ∧ ∀ a, posF e k = a + 1 → e a = false := by
  intro k
  induction k with
  | zero => exact ⟨Nat.le_refl 0, fun j _ h => absurd h (Nat.not_lt_zero j), fun a h => absurd h (by show ¬ 0 = a + 1; omega)⟩
  | succ k ih =>
    obtain ⟨i1, i2, i3⟩ := ih
    cases h : e k with
    | true =>
      have ep : posF e (k + 1) = posF e k := by
        show cond (e k) (posF e k) (k + 1) = posF e k
        rw [h]
        rfl
      rw [ep]
      refine ⟨by omega, fun j h1 h2 => ?_, i3⟩
      by_cases q : j = k
      · rw [q]
        exact h
      · exact i2 j h1 (by omega)
    | false =>
      have ep : posF e (k + 1) = k + 1 := by
        show cond (e k) (posF e k) (k + 1) = k + 1
        rw [h]
        rfl
      rw [ep]
      refine ⟨Nat.le_refl _, fun j h1 h2 => absurd h1 (by omega), fun a ha => ?_⟩
      have : a = k := by omega
      rw [this]
      exact h
def RowG (tm : Nat → Int) (r : Nat → Nat) (p : Nat) : Prop := (∀ i, i < p → r i < p) ∧ (∀ i j, i < p → j < p → r i = r j → i = j) ∧ ∀ i j, i < j → j < p → tm (r i) ≤ tm (r j)
theorem ins_lt {e : Nat → Bool} {r : Nat → Nat} {p j : Nat} (h : j < posF e p) : insF e r p j = r j := if_pos h
theorem ins_eq {e : Nat → Bool} {r : Nat → Nat} {p j : Nat} (h : j = posF e p) : insF e r p j = p := by
  unfold insF
  rw [if_neg (by omega), if_pos h]
theorem ins_gt {e : Nat → Bool} {r : Nat → Nat} {p j : Nat} (h : posF e p < j) : insF e r p j = r (j - 1) := by
  unfold insF
  rw [if_neg (by omega), if_neg (by omega)]
theorem rowG_ins {tm : Nat → Int} {cm : Nat → Nat} {r : Nat → Nat} {p : Nat} (h : RowG tm r p) : RowG tm (insF (fun k => earB tm cm p (r k)) r p) (p + 1) := by
  obtain ⟨h1, h2, h3⟩ := h
  obtain ⟨p1, p2, p3⟩ := pos_all (fun k => earB tm cm p (r k)) p
  generalize hPe : posF (fun k => earB tm cm p (r k)) p = P at p1 p2 p3
  have c1 : ∀ j, j < P → insF (fun k => earB tm cm p (r k)) r p j = r j := fun j hj => ins_lt (by rw [hPe]; exact hj)
  have c2 : insF (fun k => earB tm cm p (r k)) r p P = p := ins_eq hPe.symm
  have c3 : ∀ j, P < j → insF (fun k => earB tm cm p (r k)) r p j = r (j - 1) := fun j hj => ins_gt (by rw [hPe]; exact hj)
  have before : ∀ i, i < P → tm (r i) ≤ tm p := by
    intro i hi
    obtain ⟨a, ha⟩ : ∃ a, P = a + 1 := ⟨P - 1, by omega⟩
    have q := of_decide_eq_false (p3 a ha)
    have q2 : tm (r a) ≤ tm p := by
      by_cases z : tm p < tm (r a)
      · exact absurd (Or.inl z) q
      · omega
    by_cases z : i = a
    · rw [z]
      exact q2
    · exact Int.le_trans (h3 i a (by omega) (by omega)) q2
  have behind : ∀ j, P ≤ j → j < p → tm p ≤ tm (r j) := by
    intro j hj hjp
    rcases of_decide_eq_true (p2 j hj hjp) with q | q
    · omega
    · omega
  refine ⟨fun i hi => ?_, fun i j hi hj e => ?_, fun i j hij hj => ?_⟩
  · rcases Nat.lt_trichotomy i P with q | q | q
    · rw [c1 i q]
      have := h1 i (by omega)
      omega
    · rw [q, c2]
      omega
    · rw [c3 i q]
      have := h1 (i - 1) (by omega)
      omega
  · rcases Nat.lt_trichotomy i P with q | q | q <;> rcases Nat.lt_trichotomy j P with z | z | z
    · rw [c1 i q, c1 j z] at e
      exact h2 i j (by omega) (by omega) e
    · rw [c1 i q, z, c2] at e
      have := h1 i (by omega)
      omega
    · rw [c1 i q, c3 j z] at e
      have := h2 i (j - 1) (by omega) (by omega) e
      omega
    · rw [q, c2, c1 j z] at e
      have := h1 j (by omega)
      omega
    · omega
    · rw [q, c2, c3 j z] at e
      have := h1 (j - 1) (by omega)
      omega
    · rw [c3 i q, c1 j z] at e
      have := h2 (i - 1) j (by omega) (by omega) e
      omega
    · rw [c3 i q, z, c2] at e
      have := h1 (i - 1) (by omega)
      omega
    · rw [c3 i q, c3 j z] at e
      have := h2 (i - 1) (j - 1) (by omega) (by omega) e
      omega
  · rcases Nat.lt_trichotomy i P with q | q | q <;> rcases Nat.lt_trichotomy j P with z | z | z
    · rw [c1 i q, c1 j z]
      exact h3 i j hij (by omega)
    · rw [c1 i q, z, c2]
      exact before i q
    · rw [c1 i q, c3 j z]
      exact h3 i (j - 1) (by omega) (by omega)
    · omega
    · omega
    · rw [q, c2, c3 j z]
      exact behind (j - 1) (by omega) (by omega)
    · omega
    · omega
    · rw [c3 i q, c3 j z]
      exact h3 (i - 1) (j - 1) (by omega) (by omega)
theorem rowG_all (tm : Nat → Int) (cm : Nat → Nat) : ∀ p, RowG tm (rowF tm cm p) p := by
  intro p
  induction p with
  | zero => exact ⟨fun i h => absurd h (Nat.not_lt_zero i), fun i j h => absurd h (Nat.not_lt_zero i), fun i j _ h => absurd h (Nat.not_lt_zero j)⟩
  | succ p ih => exact rowG_ins ih
