/-! days: where they start, how many, the one asked for -/
abbrev tR (tm : Nat → Int) (rr : Nat → Nat) : Nat → Int := fun k => tm (rr k)
def stD (g : Int32) (t : Nat → Int) (i : Nat) : Bool := decide (i = 0) || decide (g < iI (t i - t (i - 1)))
def cnD (g : Int32) (t : Nat → Int) (n : Nat) : Nat := sm (fun i => cond (stD g t i) 1 0) n
theorem stD_0 (g : Int32) (t : Nat → Int) : stD g t 0 = true := by
  unfold stD
  rw [decide_eq_true rfl, Bool.true_or]
theorem stD_s (g : Int32) (t : Nat → Int) (a : Nat) : stD g t (a + 1) = decide (g < iI (t (a + 1) - t a)) := by
  unfold stD
  rw [decide_eq_false (show ¬ a + 1 = 0 by omega), Bool.false_or]
  rfl
theorem cnD_s (g : Int32) (t : Nat → Int) (a : Nat) : cnD g t (a + 1) = cnD g t a + cond (stD g t a) 1 0 := rfl
theorem cond_le (b : Bool) : cond b 1 0 ≤ 1 := by cases b <;> decide
theorem cnD_le (g : Int32) (t : Nat → Int) : ∀ n, cnD g t n ≤ n := by
  intro n
  induction n with
  | zero => exact Nat.le_refl 0
  | succ n ih =>
    have := cond_le (stD g t n)
    rw [cnD_s]
    omega
theorem cnD_mono (g : Int32) (t : Nat → Int) {a : Nat} : ∀ {b : Nat}, a ≤ b → cnD g t a ≤ cnD g t b := by
  intro b
  induction b with
  | zero =>
    intro h
    have e : a = 0 := by omega
    rw [e]
    exact Nat.le_refl _
  | succ b ih =>
    intro h
    by_cases q : a = b + 1
    · rw [q]
      exact Nat.le_refl _
    · have := ih (by omega)
      rw [cnD_s]
      omega
def dayP (g : Int32) (t : Nat → Int) (nr i k : Nat) : Prop := (k < nr ∧ stD g t k = true ∧ cnD g t k = i) ∨ (k = nr ∧ cnD g t nr ≤ i)
theorem dayP_lt {g : Int32} {t : Nat → Int} {nr i k : Nat} (h : dayP g t nr i k) : k ≤ nr ∧ (k < nr → i < cnD g t nr) ∧ (k = nr → cnD g t nr ≤ i) := by
  rcases h with ⟨h1, h2, h3⟩ | ⟨h1, h2⟩
  · refine ⟨by omega, fun _ => ?_, fun e => absurd e (by omega)⟩
    have e := cnD_s g t k
    rw [h2] at e
    have e2 : cnD g t (k + 1) = cnD g t k + 1 := e
    have := cnD_mono g t (show k + 1 ≤ nr by omega)
    omega
  · exact ⟨by omega, fun q => absurd q (by omega), fun _ => h2⟩
theorem dayP_one {g : Int32} {t : Nat → Int} {nr i k l : Nat} (h : dayP g t nr i k) (h' : dayP g t nr i l) : k = l := by
  have a := dayP_lt h
  have b := dayP_lt h'
  have key : ∀ k l, k < l → l < nr → stD g t k = true → cnD g t k = i → cnD g t l = i → False := by
    intro k l h1 h2 h3 h4 h5
    have e := cnD_s g t k
    rw [h3] at e
    have e2 : cnD g t (k + 1) = cnD g t k + 1 := e
    have := cnD_mono g t (show k + 1 ≤ l by omega)
    omega
  rcases h with ⟨h1, h2, h3⟩ | ⟨h1, h2⟩
  · rcases h' with ⟨g1, g2, g3⟩ | ⟨g1, g2⟩
    · rcases Nat.lt_trichotomy k l with q | q | q
      · exact (key k l q g1 h2 h3 g3).elim
      · exact q
      · exact (key l k q h1 g2 g3 h3).elim
    · have := a.2.1 h1
      omega
  · rcases h' with ⟨g1, g2, g3⟩ | ⟨g1, g2⟩
    · have := b.2.1 g1
      omega
    · omega
theorem cd_step {P : Nat → Prop} {A : Nat} {b : Bool} (h : P (A + cond b 1 0)) : ((cond b 1 0 : Int32) = 0 → P A) ∧ (¬ (cond b 1 0 : Int32) = 0 → P (A + 1)) := by
  cases b with
  | false => exact ⟨fun _ => h, fun z => absurd rfl z⟩
  | true => exact ⟨fun z => absurd z (by decide), fun _ => h⟩
section DAY
variable {σ : St} {nr npc : Nat} {o : Nat → Int} {rr : Nat → Nat} {tm : Nat → Int} {cm : Nat → Nat} {x12 x13 x14 m1 m2 m16 m17 : Nat → Int32} {g : Int32} {i j : Nat} {post : Int32 → St → Prop}
theorem x_minutes (hP : PutD nr npc o rr tm cm x12 (σ.2 13) (σ.2 14) m1 m2 m16 m17) (h1 : nr ≤ 120) (hi : i < nr) (hj : j < nr) (hq : post (iI (tm (rr j) - tm (rr i))) σ) : w_X4_minutesFrom σ (nI i) (nI j) post := by
  obtain ⟨a1, a2, -⟩ := hP.2.2.1 i hi
  obtain ⟨c1, c2, -⟩ := hP.2.2.1 j hj
  unfold w_X4_minutesFrom
  rw [nI_clamp (show i < 2 ^ 31 by omega), nI_clamp (show j < 2 ^ 31 by omega), a2, c2, nI_clamp (show rr i < 2 ^ 31 by omega), nI_clamp (show rr j < 2 ^ 31 by omega), (hP.2.1 _ a1).2.2.1, (hP.2.1 _ c1).2.2.1, iI_sub]
  exact ⟨vp_in_nI (by omega) (by omega), vp_in_nI (by omega) (by omega), vp_in_nI (by omega) (by omega), vp_in_nI (by omega) (by omega), hq⟩
theorem x_starts (hP : PutD nr npc o rr tm cm x12 (σ.2 13) (σ.2 14) m1 m2 m16 m17) (h1 : nr ≤ 120) (hi : i < nr) (hq : post (cond (stD g (tR tm rr) i) 1 0) σ) : w_X4_startsDay σ (nI i) g post := by
  unfold w_X4_startsDay
  have k0 : nI i = 0 ↔ i = 0 := by rw [← nI_0]; exact nI_eq (by omega) (by omega)
  refine ⟨fun q => ?_, fun q => ?_⟩
  · have e := k0.mp q
    subst e
    rw [stD_0] at hq
    exact hq
  · have e : i ≠ 0 := fun z => q (k0.mpr z)
    obtain ⟨a, rfl⟩ : ∃ a, i = a + 1 := ⟨i - 1, by omega⟩
    rw [nI_pred]
    refine x_minutes hP h1 (show a < nr by omega) hi ?_
    rw [stD_s] at hq
    refine ⟨fun r => ?_, fun r => ?_⟩
    · rw [decide_eq_false (Int32.not_lt.mpr r)] at hq
      exact hq
    · rw [decide_eq_true (Int32.not_le.mp r)] at hq
      exact hq
theorem x_tally (hP : PutD nr npc o rr tm cm x12 (σ.2 13) (σ.2 14) m1 m2 m16 m17) (h1 : nr ≤ 120) (hs : σ.1 9 = nI nr) (hq : post (nI (cnD g (tR tm rr) nr)) σ) : w_X4_dayTally σ g post := by
  unfold w_X4_dayTally
  have O : ∀ (d k : Nat), k + d = nr → w_X4_dayTally_L4 g post (fun x2 _ s => post x2 s) (d + 1) (nI (cnD g (tR tm rr) k)) (nI k) σ := by
    intro d
    induction d with
    | zero =>
      intro k hk
      have e : k = nr := by omega
      subst e
      unfold w_X4_dayTally_L4
      rw [hs]
      exact ⟨fun _ => hq, fun q => absurd (nI_le (Nat.le_refl k) (by omega)) q⟩
    | succ d ih =>
      intro k hk
      unfold w_X4_dayTally_L4
      rw [hs]
      refine ⟨fun q => absurd q (nI_ge (by omega) (by omega)), fun _ => x_starts hP h1 (by omega) ?_⟩
      rw [nI_1, nI_1]
      refine cd_step (P := fun X => w_X4_dayTally_L4 g post (fun x2 _ s => post x2 s) (d + 1) (nI X) (nI (k + 1)) σ) ?_
      exact ih (k + 1) (by omega)
  exact ⟨nr + 1, O nr 0 (by omega)⟩
theorem x_start (hP : PutD nr npc o rr tm cm x12 (σ.2 13) (σ.2 14) m1 m2 m16 m17) (h1 : nr ≤ 120) (hs : σ.1 9 = nI nr) (hi : i < 2 ^ 31) (hq : ∀ k, k < nr → stD g (tR tm rr) k = true → cnD g (tR tm rr) k = i → post (nI k) σ) (hn : cnD g (tR tm rr) nr ≤ i → post (-1) σ) : w_X4_startOfDay σ (nI i) g post := by
  unfold w_X4_startOfDay
  have O : ∀ (d k : Nat), k + d = nr → cnD g (tR tm rr) k ≤ i → w_X4_startOfDay_L5 g post (fun _ _ s => post (-1) s) (d + 1) (nI (i - cnD g (tR tm rr) k)) (nI k) σ := by
    intro d
    induction d with
    | zero =>
      intro k hk hc
      have e : k = nr := by omega
      subst e
      unfold w_X4_startOfDay_L5
      rw [hs]
      exact ⟨fun _ => hn hc, fun q => absurd (nI_le (Nat.le_refl k) (by omega)) q⟩
    | succ d ih =>
      intro k hk hc
      have e1 := cnD_s g (tR tm rr) k
      unfold w_X4_startOfDay_L5
      rw [hs]
      refine ⟨fun q => absurd q (nI_ge (by omega) (by omega)), fun _ => x_starts hP h1 (by omega) ?_⟩
      have hg := ih (k + 1) (by omega)
      cases hb : stD g (tR tm rr) k with
      | false =>
        rw [hb] at e1
        have e2 : cnD g (tR tm rr) (k + 1) = cnD g (tR tm rr) k := e1
        rw [e2] at hg
        rw [nI_1]
        exact ⟨fun _ => hg hc, fun z => absurd rfl z⟩
      | true =>
        rw [hb] at e1
        have e2 : cnD g (tR tm rr) (k + 1) = cnD g (tR tm rr) k + 1 := e1
        have k0 : nI (i - cnD g (tR tm rr) k) = 0 ↔ i - cnD g (tR tm rr) k = 0 := by rw [← nI_0]; exact nI_eq (by omega) (by omega)
        refine ⟨fun z => absurd z (by decide), fun _ => ⟨fun z => ?_, fun z => hq k (by omega) hb (by have := k0.mp z; omega)⟩⟩
        have z2 : ¬ i - cnD g (tR tm rr) k = 0 := fun y => z (k0.mpr y)
        have hg2 := hg (by omega)
        rw [show i - cnD g (tR tm rr) k = (i - cnD g (tR tm rr) (k + 1)) + 1 by omega, pk_m1, nI_1]
        exact hg2
  exact ⟨nr + 1, O nr 0 (by omega) (Nat.zero_le i)⟩
theorem x_end (hP : PutD nr npc o rr tm cm x12 (σ.2 13) (σ.2 14) m1 m2 m16 m17) (h1 : nr ≤ 120) (hs : σ.1 9 = nI nr) (hi : i < nr) (hq : ∀ l, i ≤ l → l < nr → cnD g (tR tm rr) (l + 1) = cnD g (tR tm rr) (i + 1) → (l + 1 = nr ∨ (l + 1 < nr ∧ stD g (tR tm rr) (l + 1) = true)) → post (nI l) σ) : w_X4_endOfDay σ (nI i) g post := by
  unfold w_X4_endOfDay
  have O : ∀ (d l : Nat), l + 1 + d = nr → i ≤ l → cnD g (tR tm rr) (l + 1) = cnD g (tR tm rr) (i + 1) → w_X4_endOfDay_L2 g post (fun x3 s => post x3 s) (d + 1) (nI l) σ := by
    intro d
    induction d with
    | zero =>
      intro l hl hil hc
      unfold w_X4_endOfDay_L2
      rw [hs, nI_1]
      exact ⟨fun _ => hq l hil (by omega) hc (Or.inl (by omega)), fun q => absurd (nI_le (by omega) (by omega)) q⟩
    | succ d ih =>
      intro l hl hil hc
      have e1 := cnD_s g (tR tm rr) (l + 1)
      unfold w_X4_endOfDay_L2
      rw [hs, nI_1]
      refine ⟨fun q => absurd q (nI_ge (by omega) (by omega)), fun _ => x_starts hP h1 (by omega) ?_⟩
      have hg := ih (l + 1) (by omega) (by omega)
      cases hb : stD g (tR tm rr) (l + 1) with
      | false =>
        rw [hb] at e1
        have e2 : cnD g (tR tm rr) (l + 1 + 1) = cnD g (tR tm rr) (l + 1) := e1
        exact ⟨fun z => absurd rfl z, fun _ => hg (by rw [e2]; exact hc)⟩
      | true =>
        exact ⟨fun _ => hq l hil (by omega) hc (Or.inr ⟨by omega, hb⟩), fun z => absurd z (by decide)⟩
  obtain ⟨d, hd⟩ : ∃ d, i + 1 + d = nr := ⟨nr - (i + 1), by omega⟩
  exact ⟨d + 1, O d i hd (Nat.le_refl i) rfl⟩
theorem m_dayAt (hP : PutD nr npc o rr tm cm x12 x13 x14 (σ.2 1) (σ.2 2) (σ.2 16) (σ.2 17)) (h1 : nr ≤ 120) (h2 : npc ≤ 8) (hs : σ.1 9 = nI nr) (hgp : σ.1 7 = g) (hi : i < 2 ^ 31) (hq : ∀ k, dayP g (tR tm rr) nr i k → post (nI k) σ) : w_X6_dayAt σ (nI i) post := by
  unfold w_X6_dayAt
  have O : ∀ (d k : Nat), k + d = nr → cnD g (tR tm rr) k ≤ i → w_X6_dayAt_L4 (nI i) post (fun _ x3 s => post x3 s) (d + 1) (nI (cnD g (tR tm rr) k)) (nI k) σ := by
    intro d
    induction d with
    | zero =>
      intro k hk hc
      have e : k = nr := by omega
      subst e
      unfold w_X6_dayAt_L4
      rw [hs]
      exact ⟨fun _ => hq k (Or.inr ⟨rfl, hc⟩), fun q => absurd (nI_le (Nat.le_refl k) (by omega)) q⟩
    | succ d ih =>
      intro k hk hc
      have hkn : k < nr := by omega
      have e1 := cnD_s g (tR tm rr) k
      have cb := cnD_le g (tR tm rr) k
      have J : stD g (tR tm rr) k = true → w_X6_dayAt_J49 post (fun x2 x3 u => w_X6_dayAt_L4 (nI i) post (fun _ x3 s => post x3 s) (d + 1) x2 x3 u) (nI i) (nI (cnD g (tR tm rr) k)) (nI k) σ := by
        intro hb
        unfold w_X6_dayAt_J49
        rw [nI_1, nI_1]
        have ke : nI (cnD g (tR tm rr) k) = nI i ↔ cnD g (tR tm rr) k = i := nI_eq (by omega) hi
        refine ⟨fun q => ?_, fun q => hq k (Or.inl ⟨hkn, hb, ke.mp q⟩)⟩
        have q2 : ¬ cnD g (tR tm rr) k = i := fun z => q (ke.mpr z)
        rw [hb] at e1
        have e2 : cnD g (tR tm rr) (k + 1) = cnD g (tR tm rr) k + 1 := e1
        have hg := ih (k + 1) (by omega) (by omega)
        rw [e2] at hg
        exact hg
      unfold w_X6_dayAt_L4
      rw [hs]
      refine ⟨fun q => absurd q (nI_ge hkn (by omega)), fun _ => ⟨fun q => ?_, fun q => ?_⟩⟩
      · have z : k = 0 := by
          rw [← nI_0] at q
          have := (nI_leI (show k < 2 ^ 31 by omega) (show 0 < 2 ^ 31 by omega)).mp q
          omega
        exact J (by rw [z]; exact stD_0 g _)
      · have z : k ≠ 0 := fun z => q (by rw [z, nI_0]; decide)
        obtain ⟨a, rfl⟩ : ∃ a, k = a + 1 := ⟨k - 1, by omega⟩
        obtain ⟨a1, -, a3⟩ := hP.2.2.1 a (by omega)
        obtain ⟨c1, -, c3⟩ := hP.2.2.1 (a + 1) hkn
        rw [nI_pred, nI_clamp (show a + 1 < 2 ^ 31 by omega), nI_clamp (show a < 2 ^ 31 by omega), c3]
        refine ⟨vp_in_nI (by omega) (by omega), s_timeOf hP h1 h2 c1 ⟨vp_in_nI (by omega) (by omega), ?_⟩⟩
        rw [a3]
        refine s_timeOf hP h1 h2 a1 ?_
        rw [iI_sub, hgp]
        refine ⟨fun r => J (by rw [stD_s]; exact decide_eq_true r), fun r => ?_⟩
        have hb : stD g (tR tm rr) (a + 1) = false := by rw [stD_s]; exact decide_eq_false r
        rw [hb] at e1
        have e2 : cnD g (tR tm rr) (a + 1 + 1) = cnD g (tR tm rr) (a + 1) := e1
        have hg := ih (a + 1 + 1) (by omega) (by omega)
        rw [e2] at hg
        rw [nI_1]
        exact hg
  exact ⟨nr + 1, O nr 0 (by omega) (Nat.zero_le i)⟩
theorem m_days (hP : PutD nr npc o rr tm cm x12 x13 x14 (σ.2 1) (σ.2 2) (σ.2 16) (σ.2 17)) (h1 : nr ≤ 120) (h2 : npc ≤ 8) (hs : σ.1 9 = nI nr) (hgp : σ.1 7 = g) {K : Int32 → St → Prop} (hK : K (nI (cnD g (tR tm rr) nr)) σ) : ∀ (d i : Nat), i + d = cnD g (tR tm rr) nr → w_X6_days_L17 post K (d + 1) (nI i) σ := by
  have cb := cnD_le g (tR tm rr) nr
  intro d
  induction d with
  | zero =>
    intro i hi
    unfold w_X6_days_L17
    refine m_dayAt hP h1 h2 hs hgp (by omega) (fun k hk => ?_)
    have a := dayP_lt hk
    have e : k = nr := by
      by_cases q : k < nr
      · have := a.2.1 q
        omega
      · omega
    rw [hs, e]
    refine ⟨fun _ => ?_, fun q => absurd (nI_le (Nat.le_refl nr) (by omega)) q⟩
    rw [show i = cnD g (tR tm rr) nr by omega]
    exact hK
  | succ d ih =>
    intro i hi
    unfold w_X6_days_L17
    refine m_dayAt hP h1 h2 hs hgp (by omega) (fun k hk => ?_)
    have a := dayP_lt hk
    have e : k < nr := by
      by_cases q : k = nr
      · have := a.2.2 q
        omega
      · omega
    rw [hs]
    refine ⟨fun q => absurd q (nI_ge e (by omega)), fun _ => ?_⟩
    rw [nI_1]
    exact ih (i + 1) (by omega)
end DAY
theorem st_days (j : Nat) (σx σm : St) (hj : j < 512) (h : Rel j σx σm) : w_X5_days σx (fun r u => w_X6_days σm (fun r2 u2 => r = r2 ∧ Rel (j + 1) u u2)) := by
  have h0 := h.z 0
  obtain ⟨nc, np, n, nt, ne, ⟨b1, b2, b3, b4, b5⟩, hx, hm, h4, h5, h6, h7, h8⟩ := h
  unfold w_X5_days w_X6_days
  rcases h8 with ⟨e0, e1, -, e2, -⟩ | ⟨nr, npc, o, rr, tm, cm, r1, r2, e0, e1, -, e2, -, hP⟩
  · rw [e0, e2]
    exact ⟨fun _ => ⟨fun z => absurd rfl z, fun _ => ⟨rfl, h0⟩⟩, fun z => absurd rfl z⟩
  · rw [e0, e2]
    refine ⟨fun z => absurd z (by decide), fun _ => x_tally hP (by omega) e1 ⟨fun _ => ?_, fun z => absurd z (nI_m1 (by omega))⟩⟩
    have cb := cnD_le (σx.1 1) (tR tm rr) nr
    exact ⟨cnD (σx.1 1) (tR tm rr) nr + 1, m_days (σ := (va_up σm.1 0 0, σm.2)) (K := fun x1 s => nI (cnD (σx.1 1) (tR tm rr) nr) = x1 ∧ Rel (j + 1) σx s) hP (by omega) (by omega) e2 h4.1 ⟨rfl, h0⟩ (cnD (σx.1 1) (tR tm rr) nr) 0 (by omega)⟩
theorem st_day (j : Nat) (σx σm : St) (y0 y1 : Int32) (hj : j < 512) (h : Rel j σx σm) : w_X5_day σx y0 y1 (fun r u => w_X6_day σm y0 y1 (fun r2 u2 => r = r2 ∧ Rel (j + 1) u u2)) := by
  have h0 := h.z 0
  obtain ⟨nc, np, n, nt, ne, ⟨b1, b2, b3, b4, b5⟩, hx, hm, h4, h5, h6, h7, h8⟩ := h
  rcases h8 with ⟨e0, e1, -, e2, -⟩ | ⟨nr, npc, o, rr, tm, cm, r1, r2, e0, e1, -, e2, -, hP⟩
  · have ref : w_X6_day σm y0 y1 (fun r2 u2 => -1 = r2 ∧ Rel (j + 1) σx u2) := by
      unfold w_X6_day
      rw [e2]
      exact ⟨fun _ => ⟨rfl, h0⟩, fun z => absurd rfl z⟩
    unfold w_X5_day
    refine ⟨fun _ => ?_, fun _ => ref⟩
    unfold w_X4_startOfDay
    refine ⟨1, ?_⟩
    unfold w_X4_startOfDay_L5
    rw [e1]
    exact ⟨fun _ => ⟨fun z => absurd rfl z, fun _ => ref⟩, fun z => absurd (by decide) z⟩
  · have h1 : nr ≤ 120 := by omega
    have h2 : npc ≤ 8 := by omega
    have cb := cnD_le (σx.1 1) (tR tm rr) nr
    have nm : ¬ nI nr = -1 := nI_m1 (by omega)
    by_cases q : y0 < 0
    · have q2 : ¬ 0 ≤ y0 := Int32.not_le.mpr q
      unfold w_X5_day w_X6_day
      rw [e2]
      exact ⟨fun z => absurd z q2, fun _ => ⟨fun z => absurd z nm, fun _ => ⟨fun _ => ⟨rfl, h0⟩, fun z => absurd q z⟩⟩⟩
    · have q2 : 0 ≤ y0 := Int32.not_lt.mp q
      obtain ⟨i, hi, rfl⟩ := nI_of q
      unfold w_X5_day
      refine ⟨fun _ => x_start hP h1 e1 hi (fun k hk hb hc => ⟨fun _ => ?_, fun z => absurd z (nI_m1 (by omega))⟩) (fun hc => ⟨fun z => absurd rfl z, fun _ => ?_⟩), fun z => absurd q2 z⟩
      · have hd : dayP (σx.1 1) (tR tm rr) nr i k := Or.inl ⟨hk, hb, hc⟩
        have hlt := (dayP_lt hd).2.1 hk
        have ek := cnD_s (σx.1 1) (tR tm rr) k
        rw [hb] at ek
        have ek2 : cnD (σx.1 1) (tR tm rr) (k + 1) = cnD (σx.1 1) (tR tm rr) k + 1 := ek
        refine x_end hP h1 e1 hk (fun l hl1 hl2 hl3 hl4 => ?_)
        have hd2 : dayP (σx.1 1) (tR tm rr) nr (i + 1) (l + 1) := by
          rcases hl4 with hl4 | ⟨hl4, hl5⟩
          · refine Or.inr ⟨hl4, ?_⟩
            rw [← hl4]
            omega
          · exact Or.inl ⟨hl4, hl5, by omega⟩
        have ref : ∀ r : Int32, (y1 = 0 → r = nI k) → (y1 = 1 → r = nI (l + 1 - k)) → (y1 = 2 → r = iI (tm (rr l) - tm (rr k))) → (¬ y1 = 0 → ¬ y1 = 1 → ¬ y1 = 2 → r = -1) → w_X6_day σm (nI i) y1 (fun r2 u2 => r = r2 ∧ Rel (j + 1) σx u2) := by
          intro r g0 g1 g2 g3
          unfold w_X6_day
          rw [e2]
          refine ⟨fun z => absurd z nm, fun _ => ⟨fun z => absurd z q, fun _ => ?_⟩⟩
          refine m_dayAt (σ := (va_up σm.1 0 0, σm.2)) hP h1 h2 e2 h4.1 hi (fun k2 hk2 => ?_)
          have f1 := dayP_one hk2 hd
          subst f1
          refine ⟨fun _ => ?_, fun z => absurd (by rw [show (va_up σm.1 0 0, σm.2).1 9 = nI nr from e2]; exact nI_lt hk (by omega)) z⟩
          refine m_dayAt (σ := (va_up σm.1 0 0, σm.2)) hP h1 h2 e2 h4.1 hi (fun k3 hk3 => ?_)
          have f2 := dayP_one hk3 hk2
          subst f2
          rw [nI_1]
          refine m_dayAt (σ := (va_up σm.1 0 0, σm.2)) hP h1 h2 e2 h4.1 (by omega) (fun k4 hk4 => ?_)
          have f3 := dayP_one hk4 hd2
          subst f3
          refine ⟨fun z0 => ⟨fun z1 => ⟨fun z2 => ⟨g3 z0 z1 z2, h0⟩, fun z2 => ?_⟩, fun z1 => ⟨?_, h0⟩⟩, fun z0 => ⟨g0 z0, h0⟩⟩
          · obtain ⟨a1, -, a3⟩ := hP.2.2.1 l hl2
            obtain ⟨c1, -, c3⟩ := hP.2.2.1 k3 hk
            rw [nI_pred, nI_clamp (show l < 2 ^ 31 by omega), nI_clamp (show k3 < 2 ^ 31 by omega), a3]
            refine ⟨vp_in_nI (by omega) (by omega), s_timeOf (σ := (va_up σm.1 0 0, σm.2)) hP h1 h2 a1 ⟨vp_in_nI (by omega) (by omega), ?_⟩⟩
            rw [c3]
            refine s_timeOf (σ := (va_up σm.1 0 0, σm.2)) hP h1 h2 c1 ⟨?_, h0⟩
            rw [iI_sub]
            exact g2 z2
          · rw [pk_sub (by omega)]
            exact g1 z1
        have sw : ∀ x : Int32, (x.toInt < 0 ∨ 2 < x.toInt) → ¬ x = 0 ∧ ¬ x = 1 ∧ ¬ x = 2 := by
          intro x hx'
          refine ⟨fun e => ?_, fun e => ?_, fun e => ?_⟩ <;> (subst e; revert hx'; decide)
        refine ⟨fun z => ?_, fun z => ?_, fun z => ?_, fun z => ?_⟩
        · obtain ⟨s0, s1, s2⟩ := sw y1 z
          exact ref _ (fun e => absurd e s0) (fun e => absurd e s1) (fun e => absurd e s2) (fun _ _ _ => rfl)
        · exact ref _ (fun _ => rfl) (fun e => absurd (z.symm.trans e) (by decide)) (fun e => absurd (z.symm.trans e) (by decide)) (fun e => absurd z e)
        · refine ref _ (fun e => absurd (z.symm.trans e) (by decide)) (fun _ => ?_) (fun e => absurd (z.symm.trans e) (by decide)) (fun _ e => absurd z e)
          rw [pk_sub hl1, nI_1, show l - k + 1 = l + 1 - k by omega]
        · refine x_minutes hP h1 hk hl2 ?_
          exact ref _ (fun e => absurd (z.symm.trans e) (by decide)) (fun e => absurd (z.symm.trans e) (by decide)) (fun _ => rfl) (fun _ _ e => absurd z e)
      · unfold w_X6_day
        rw [e2]
        refine ⟨fun z => absurd z nm, fun _ => ⟨fun z => absurd z q, fun _ => ?_⟩⟩
        refine m_dayAt (σ := (va_up σm.1 0 0, σm.2)) hP h1 h2 e2 h4.1 hi (fun k2 hk2 => ?_)
        have f1 := dayP_one hk2 (Or.inr ⟨rfl, hc⟩)
        subst f1
        refine ⟨fun z => absurd z ?_, fun _ => ⟨rfl, h0⟩⟩
        rw [show (va_up σm.1 0 0, σm.2).1 9 = nI k2 from e2]
        exact nI_nlt (Nat.le_refl k2) (by omega)
