/-! bursts and longest, of the class and of the reference -/
abbrev cR (cm rr : Nat → Nat) : Nat → Nat := fun k => cm (rr k)
noncomputable abbrev fR (tm : Nat → Int) (m3 : Nat → Int32) (rr : Nat → Nat) : Nat → Nat → Bool := fun j k => flB tm m3 (rr j) (rr k)
section RUN
variable {nc np n : Nat} {σ : St} {nr npc : Nat} {o : Nat → Int} {rr : Nat → Nat} {tm : Nat → Int} {cm : Nat → Nat} {x12 x13 x14 m1 m2 m3 m4 m0 m16 m17 : Nat → Int32} {post : Int32 → St → Prop}
theorem tm_bd (hP : PutD nr npc o rr tm cm x12 x13 x14 m1 m2 m16 m17) {p : Nat} (hp : p < nr) : -200000 ≤ tm p ∧ tm p ≤ 300000 := by
  obtain ⟨c1, -, -, x, x0, x1, -, c5⟩ := hP.2.1 p hp
  have := (hP.1 (cm p) c1).2.2
  omega
theorem fl_xor (h6 : RPic nc np n m1 m2 m3 m4 m0) (hnc : nc ≤ 8) {p q : Nat} (hp : p < n) (hq : q < n) : mkN m3 p ^^^ mkN m3 q < 65536 ∧ m3 p ^^^ m3 q = nI (mkN m3 p ^^^ mkN m3 q) := by
  obtain ⟨-, -, c1, c2⟩ := pic_fn h6 hnc hp
  obtain ⟨-, -, d1, d2⟩ := pic_fn h6 hnc hq
  have e : m3 p ^^^ m3 q = nI (mkN m3 p) ^^^ nI (mkN m3 q) := by rw [← c2, ← d2]
  rw [e, nI_xor (by omega) (by omega)]
  exact ⟨Nat.xor_lt_two_pow (n := 16) c1 d1, rfl⟩
theorem fl_time (hP : PutD nr npc o rr tm cm x12 x13 x14 m1 m2 m16 m17) {p q : Nat} (hp : p < nr) (hq : q < nr) : (2 : Int32) < iI (tm q - tm p) ↔ ¬ tm q - tm p ≤ 2 := by
  have b1 := tm_bd hP hp
  have b2 := tm_bd hP hq
  rw [show (2 : Int32) = iI 2 from rfl, iI_lt (by omega) (by omega) (by omega) (by omega)]
  omega
theorem fl_bits {m : Nat} (h : m < 65536) : (2 : Int32) < nI (pcB m) ↔ ¬ pcB m ≤ 2 := by
  have l := (pcB_spec h).2
  rw [show (2 : Int32) = nI 2 from rfl, nI_ltI (by omega) (by omega)]
  omega
theorem x_follows (h6 : RPic nc np n m1 m2 m3 m4 m0) (hnc : nc ≤ 8) (hn : n ≤ 120) (hrn : nr ≤ n) (hP : PutD nr npc o rr tm cm x12 (σ.2 13) x14 m1 m2 m16 m17) (e2 : σ.2 2 = m3) {p q : Nat} (hp : p < nr) (hq : q < nr) (hh : post (cond (flB tm m3 p q) 1 0) σ) : w_X4_followsOn σ (nI p) (nI q) post := by
  unfold w_X4_followsOn
  have ip : vp_in (nI p) 120 := vp_in_nI (by omega) (by omega)
  have iq : vp_in (nI q) 120 := vp_in_nI (by omega) (by omega)
  obtain ⟨hx, ex⟩ := fl_xor h6 hnc (show p < n by omega) (show q < n by omega)
  rw [nI_clamp (show p < 2 ^ 31 by omega), nI_clamp (show q < 2 ^ 31 by omega), (hP.2.1 p hp).2.2.1, (hP.2.1 q hq).2.2.1, iI_sub, e2, ex, fl_time hP hp hq]
  unfold flB at hh
  refine ⟨ip, iq, iq, ip, fun z => ?_, fun z => x_bitCount hx ?_⟩
  · rw [decide_eq_false z, Bool.false_and] at hh
    exact hh
  · rw [decide_eq_true (Decidable.not_not.mp z), Bool.true_and] at hh
    rw [fl_bits hx]
    refine ⟨fun y => ?_, fun y => ?_⟩
    · rw [decide_eq_false y] at hh
      exact hh
    · rw [decide_eq_true (Decidable.not_not.mp y)] at hh
      exact hh
theorem x_burst (h6 : RPic nc np n m1 m2 m3 m4 m0) (hnc : nc ≤ 8) (hn : n ≤ 120) (hrn : nr ≤ n) (hnpc : npc ≤ 8) (hP : PutD nr npc o rr tm cm x12 (σ.2 13) (σ.2 14) m1 m2 m16 m17) (e0 : σ.2 0 = m1) (e2 : σ.2 2 = m3) {i : Nat} (hi : i < nr) (hh : post (nI (lnR (cR cm rr) (fR tm m3 rr) i)) σ) : w_X4_burstLengthAt σ (nI i) post := by
  have li := ln_le (c := cR cm rr) (f := fR tm m3 rr) i
  have O : ∀ (jj l acc : Nat), jj ≤ l → l ≤ i → cR cm rr l = cR cm rr i → (∀ k, jj ≤ k → k < l → ¬ cR cm rr k = cR cm rr l) → 1 ≤ acc → acc + lnR (cR cm rr) (fR tm m3 rr) l = 1 + lnR (cR cm rr) (fR tm m3 rr) i → w_X4_burstLengthAt_L15 post (fun x3 _ _ s => post x3 s) (jj + 1) (nI acc) (nI (rr l)) (nI jj - 1) σ := by
    intro jj
    induction jj with
    | zero =>
      intro l acc h1 h2 h3 h4 h5 h7
      unfold w_X4_burstLengthAt_L15
      refine ⟨fun _ => ?_, fun z => absurd (by rw [nI_0]; decide) z⟩
      have e := ln_none (f := fR tm m3 rr) (fun k hk => h4 k (Nat.zero_le k) hk)
      rw [show acc = lnR (cR cm rr) (fR tm m3 rr) i by omega]
      exact hh
    | succ a ih =>
      intro l acc h1 h2 h3 h4 h5 h7
      have ha : a < nr := by omega
      have hl : l < nr := by omega
      obtain ⟨a1, a2, -⟩ := hP.2.2.1 a ha
      obtain ⟨d1, d2, -⟩ := hP.2.2.1 l hl
      obtain ⟨c1, c2, -⟩ := hP.2.1 _ a1
      obtain ⟨c3, c4, -⟩ := hP.2.1 _ d1
      unfold w_X4_burstLengthAt_L15
      rw [nI_pred, nI_clamp (show a < 2 ^ 31 by omega), a2, nI_clamp (show rr a < 2 ^ 31 by omega), nI_clamp (show rr l < 2 ^ 31 by omega), e0, c2, c4, nI_eq (show cm (rr a) < 2 ^ 31 by omega) (show cm (rr l) < 2 ^ 31 by omega), ← Int32.sub_eq_add_neg, nI_1]
      refine ⟨fun z => absurd z (nI_pos (by omega)), fun _ => ⟨vp_in_nI (by omega) (by omega), vp_in_nI (by omega) (by omega), vp_in_nI (by omega) (by omega), fun z => ?_, fun z => ?_⟩⟩
      · refine ih l acc (by omega) h2 h3 (fun k k1 k2 => ?_) h5 h7
        by_cases q : k = a
        · rw [q]
          exact z
        · exact h4 k (by omega) k2
      · refine x_follows h6 hnc hn hrn hP e2 a1 d1 ?_
        have e := ln_some (f := fR tm m3 rr) (show cR cm rr a = cR cm rr l from z) (show a < l by omega) h4
        cases hb : flB tm m3 (rr a) (rr l) with
        | true =>
          have e2 : lnR (cR cm rr) (fR tm m3 rr) l = lnR (cR cm rr) (fR tm m3 rr) a + 1 := by
            rw [e]
            show cond (flB tm m3 (rr a) (rr l)) _ _ = _
            rw [hb]
            rfl
          refine ⟨fun _ => ?_, fun y => absurd y (by decide)⟩
          exact ih a (acc + 1) (Nat.le_refl a) (by omega) (z.trans h3) (fun k k1 k2 => absurd k2 (by omega)) (by omega) (by omega)
        | false =>
          have e2 : lnR (cR cm rr) (fR tm m3 rr) l = 1 := by
            rw [e]
            show cond (flB tm m3 (rr a) (rr l)) _ _ = _
            rw [hb]
            rfl
          refine ⟨fun y => absurd rfl y, fun _ => ?_⟩
          rw [show acc = lnR (cR cm rr) (fR tm m3 rr) i by omega]
          exact hh
  unfold w_X4_burstLengthAt
  rw [nI_clamp (show i < 2 ^ 31 by omega), (hP.2.2.1 i hi).2.1]
  exact ⟨vp_in_nI (by omega) (by omega), i + 1, O i i 1 (Nat.le_refl i) (Nat.le_refl i) rfl (fun k k1 k2 => absurd k2 (by omega)) (Nat.le_refl 1) rfl⟩
theorem x_bursts (h6 : RPic nc np n m1 m2 m3 m4 m0) (hnc : nc ≤ 8) (hn : n ≤ 120) (hrn : nr ≤ n) (hnpc : npc ≤ 8) (hP : PutD nr npc o rr tm cm x12 (σ.2 13) (σ.2 14) m1 m2 m16 m17) (e0 : σ.2 0 = m1) (e2 : σ.2 2 = m3) (hs : σ.1 9 = nI nr) {K : Int32 → Int32 → St → Prop} (hK : K (nI (sm (fun k => cond (decide (lnR (cR cm rr) (fR tm m3 rr) k = 2)) 1 0) nr)) (nI nr) σ) : ∀ (d k : Nat), k + d = nr → w_X5_bursts_L16 post K (d + 1) (nI (sm (fun k => cond (decide (lnR (cR cm rr) (fR tm m3 rr) k = 2)) 1 0) k)) (nI k) σ := by
  intro d
  induction d with
  | zero =>
    intro k hk
    have e : k = nr := by omega
    subst e
    unfold w_X5_bursts_L16
    rw [hs]
    exact ⟨fun _ => hK, fun q => absurd (nI_le (Nat.le_refl k) (by omega)) q⟩
  | succ d ih =>
    intro k hk
    have hg := ih (k + 1) (by omega)
    have e : sm (fun k => cond (decide (lnR (cR cm rr) (fR tm m3 rr) k = 2)) 1 0) (k + 1) = sm (fun k => cond (decide (lnR (cR cm rr) (fR tm m3 rr) k = 2)) 1 0) k + cond (decide (lnR (cR cm rr) (fR tm m3 rr) k = 2)) 1 0 := rfl
    rw [e] at hg
    have lk := ln_le (c := cR cm rr) (f := fR tm m3 rr) k
    have k2 : nI (lnR (cR cm rr) (fR tm m3 rr) k) = 2 ↔ lnR (cR cm rr) (fR tm m3 rr) k = 2 := nI_eq (b := 2) (by omega) (by omega)
    unfold w_X5_bursts_L16
    rw [hs]
    refine ⟨fun q => absurd q (nI_ge (by omega) (by omega)), fun _ => x_burst h6 hnc hn hrn hnpc hP e0 e2 (by omega) ?_⟩
    rw [nI_1, nI_1, k2]
    refine ⟨fun z => ?_, fun z => ?_⟩
    · rw [decide_eq_false z] at hg
      exact hg
    · rw [decide_eq_true z] at hg
      exact hg
theorem x_longest (h6 : RPic nc np n m1 m2 m3 m4 m0) (hnc : nc ≤ 8) (hn : n ≤ 120) (hrn : nr ≤ n) (hnpc : npc ≤ 8) (hP : PutD nr npc o rr tm cm x12 (σ.2 13) (σ.2 14) m1 m2 m16 m17) (e0 : σ.2 0 = m1) (e2 : σ.2 2 = m3) (hs : σ.1 9 = nI nr) {K : Int32 → Int32 → St → Prop} (hK : K (nI (mxC (cR cm rr) (fR tm m3 rr) nr)) (nI nr) σ) : ∀ (d k : Nat), k + d = nr → w_X5_longest_L16 post K (d + 1) (nI (mxC (cR cm rr) (fR tm m3 rr) k)) (nI k) σ := by
  intro d
  induction d with
  | zero =>
    intro k hk
    have e : k = nr := by omega
    subst e
    unfold w_X5_longest_L16
    rw [hs]
    exact ⟨fun _ => hK, fun q => absurd (nI_le (Nat.le_refl k) (by omega)) q⟩
  | succ d ih =>
    intro k hk
    have hg := ih (k + 1) (by omega)
    have e : mxC (cR cm rr) (fR tm m3 rr) (k + 1) = max (mxC (cR cm rr) (fR tm m3 rr) k) (lnR (cR cm rr) (fR tm m3 rr) k) := rfl
    have lk := ln_le (c := cR cm rr) (f := fR tm m3 rr) k
    have lm := mxC_le (c := cR cm rr) (f := fR tm m3 rr) k
    unfold w_X5_longest_L16
    rw [hs]
    refine ⟨fun q => absurd q (nI_ge (by omega) (by omega)), fun _ => x_burst h6 hnc hn hrn hnpc hP e0 e2 (by omega) ?_⟩
    rw [nI_1]
    by_cases q : mxC (cR cm rr) (fR tm m3 rr) k < lnR (cR cm rr) (fR tm m3 rr) k
    · rw [if_pos ((nI_ltI (by omega) (by omega)).mpr q)]
      rw [e, Nat.max_eq_right (by omega)] at hg
      exact hg
    · rw [if_neg (fun z => q ((nI_ltI (by omega) (by omega)).mp z))]
      rw [e, Nat.max_eq_left (by omega)] at hg
      exact hg
theorem m_J123 {K : Int32 → Int32 → Int32 → Int32 → Int32 → St → Prop} {x1 x4 x8 : Int32} {N M z k : Nat} (hz : z < 1000) (hM : M < 1000) (hK : K (nI (N + cond (decide (z = 2)) 1 0)) (nI (cond (decide (1 < z)) (max M z) M)) x8 (nI z) (nI (k + 1)) σ) : w_X6_runs_J123 post K x1 (nI N) (nI M) x4 (nI k) x8 (nI z) σ := by
  unfold w_X6_runs_J123 w_X6_runs_J137
  have k2 : nI z = 2 ↔ z = 2 := nI_eq (b := 2) (by omega) (by omega)
  have k1 : nI z ≤ 1 ↔ z ≤ 1 := nI_leI (b := 1) (by omega) (by omega)
  have km : (if nI M < nI z then nI z else nI M) = nI (max M z) := by
    by_cases q : M < z
    · rw [if_pos ((nI_ltI (by omega) (by omega)).mpr q), Nat.max_eq_right (by omega)]
    · rw [if_neg (fun w => q ((nI_ltI (by omega) (by omega)).mp w)), Nat.max_eq_left (by omega)]
  rw [km, k1, k2, nI_z, nI_1, nI_1]
  refine ⟨fun q => ⟨fun r => ?_, fun r => ?_⟩, fun q => ⟨fun r => absurd r (by omega), fun r => ?_⟩⟩
  · rw [decide_eq_false q, decide_eq_false (show ¬ 1 < z by omega)] at hK
    exact hK
  · rw [decide_eq_false q, decide_eq_true (show 1 < z by omega)] at hK
    exact hK
  · rw [decide_eq_true q, decide_eq_true (show 1 < z by omega)] at hK
    exact hK
theorem m_J108 {K : Int32 → Int32 → Int32 → Int32 → Int32 → St → Prop} {x1 x2 x3 x4 x8 x7 : Int32} {mm : Nat} (b : Bool) (hK : w_X6_runs_J123 post K x1 x2 x3 x4 x7 x8 (nI (cond b (mm + 1) 1)) σ) : w_X6_runs_J108 post K x1 x2 x3 x4 (nI mm) x7 x8 (cond b 1 0) σ := by
  unfold w_X6_runs_J108
  rw [nI_1]
  cases b with
  | false => exact ⟨fun _ => hK, fun z => absurd rfl z⟩
  | true => exact ⟨fun z => absurd z (by decide), fun _ => hK⟩
def psI (rr : Nat → Nat) (o : Option Nat) : Int32 := match o with
  | none => -1
  | some j => nI (rr j)
theorem m_run25 (h6 : RPic nc np n m1 m2 m3 m4 m0) (hnc : nc ≤ 8) (hn : n ≤ 120) (hrn : nr ≤ n) (hnpc : npc ≤ 8) (hP : PutD nr npc o rr tm cm x12 x13 x14 (σ.2 1) (σ.2 2) (σ.2 16) (σ.2 17)) (e3 : σ.2 3 = m3) (hs : σ.1 9 = nI nr) {x1 : Int32} {x N0 M0 : Nat} (hx : x < 8) (hM0 : M0 ≤ nr) {K : Int32 → Int32 → Int32 → Int32 → Int32 → St → Prop} (hK : ∀ a b c, K (nI (N0 + sm (fun k => gcB (cR cm rr) (fR tm m3 rr) x k) nr)) (nI (mxM (cR cm rr) (fR tm m3 rr) x M0 nr)) a b c σ) : ∀ (d k : Nat), k + d = nr → w_X6_runs_L25 x1 (nI x) post K (d + 1) (nI (N0 + sm (fun k => gcB (cR cm rr) (fR tm m3 rr) x k) k)) (nI (mxM (cR cm rr) (fR tm m3 rr) x M0 k)) (psI rr (pst (cR cm rr) x k)) (nI (mny (cR cm rr) (fR tm m3 rr) x k)) (nI k) σ := by
  intro d
  induction d with
  | zero =>
    intro k hk
    have e : k = nr := by omega
    subst e
    unfold w_X6_runs_L25
    rw [hs]
    exact ⟨fun _ => hK _ _ _, fun q => absurd (nI_le (Nat.le_refl k) (by omega)) q⟩
  | succ d ih =>
    intro k hk
    have hkn : k < nr := by omega
    have hg := ih (k + 1) (by omega)
    obtain ⟨a1, -, a3⟩ := hP.2.2.1 k hkn
    obtain ⟨c1, c2, -⟩ := hP.2.1 _ a1
    have e1 : sm (fun k => gcB (cR cm rr) (fR tm m3 rr) x k) (k + 1) = sm (fun k => gcB (cR cm rr) (fR tm m3 rr) x k) k + gcB (cR cm rr) (fR tm m3 rr) x k := rfl
    have ir : vp_in (nI (rr k)) 120 := vp_in_nI (by omega) (by omega)
    unfold w_X6_runs_L25
    rw [hs, nI_clamp (show k < 2 ^ 31 by omega), a3, nI_clamp (show rr k < 2 ^ 31 by omega), c2, nI_eq (show cm (rr k) < 2 ^ 31 by omega) (show x < 2 ^ 31 by omega)]
    refine ⟨fun q => absurd q (nI_ge hkn (by omega)), fun _ => ⟨vp_in_nI (by omega) (by omega), ir, fun q => ?_, fun q => ?_⟩⟩
    · have q2 : cR cm rr k = x := q
      have lk := ln_le (c := cR cm rr) (f := fR tm m3 rr) k
      have lm := mxM_le (c := cR cm rr) (f := fR tm m3 rr) (x := x) hM0 (show k ≤ nr by omega)
      have eg : gcB (cR cm rr) (fR tm m3 rr) x k = cond (decide (lnR (cR cm rr) (fR tm m3 rr) k = 2)) 1 0 := if_pos q2
      rw [e1, eg, ← Nat.add_assoc, mxM_y q2, pst_y q2, mny_y q2] at hg
      have J : ∀ b : Bool, lnR (cR cm rr) (fR tm m3 rr) k = cond b (mny (cR cm rr) (fR tm m3 rr) x k + 1) 1 → w_X6_runs_J108 post (fun x2 x3 x5 x6 x7 u => w_X6_runs_L25 x1 (nI x) post K (d + 1) x2 x3 x5 x6 x7 u) x1 (nI (N0 + sm (fun k => gcB (cR cm rr) (fR tm m3 rr) x k) k)) (nI (mxM (cR cm rr) (fR tm m3 rr) x M0 k)) (nI x) (nI (mny (cR cm rr) (fR tm m3 rr) x k)) (nI k) (nI (rr k)) (cond b 1 0) σ := by
        intro b hb
        refine m_J108 b ?_
        rw [← hb]
        exact m_J123 (by omega) (by omega) hg
      have el := lnR_eq (f := fR tm m3 rr) q2
      cases hp : pst (cR cm rr) x k with
      | none =>
        rw [hp] at el
        exact ⟨fun _ => J false el, fun z => absurd rfl z⟩
      | some jx =>
        rw [hp] at el
        have el2 : lnR (cR cm rr) (fR tm m3 rr) k = cond (flB tm m3 (rr jx) (rr k)) (mny (cR cm rr) (fR tm m3 rr) x k + 1) 1 := el
        have hj := (pst_lt hp).1
        obtain ⟨d1, -, d3⟩ := hP.2.2.1 jx (by omega)
        refine ⟨fun z => absurd z (nI_m1 (show rr jx < 2 ^ 31 by omega)), fun _ => ?_⟩
        show w_X6_timeOf σ (nI (rr k)) (fun r_89 u_90 => w_X6_timeOf u_90 (nI (rr jx)) _)
        refine s_timeOf hP (by omega) hnpc a1 (s_timeOf hP (by omega) hnpc d1 ?_)
        obtain ⟨hxr, exr⟩ := fl_xor h6 hnc (show rr k < n by omega) (show rr jx < n by omega)
        show (2 < iI (tm (rr k)) - iI (tm (rr jx)) → _) ∧ _
        rw [iI_sub, fl_time hP d1 a1]
        unfold flB at el2
        refine ⟨fun z => ?_, fun z => ⟨ir, vp_in_nI (by omega) (by omega), ?_⟩⟩
        · rw [decide_eq_false z, Bool.false_and] at el2
          exact J false el2
        · rw [decide_eq_true (Decidable.not_not.mp z), Bool.true_and, Nat.xor_comm] at el2
          show w_X6_bits ((σ.2 3 (rr k)) ^^^ (σ.2 3 (Int32.toNatClampNeg (nI (rr jx))))) _
          rw [nI_clamp (show rr jx < 2 ^ 31 by omega), e3, exr]
          refine m_bits hxr ?_
          rw [fl_bits hxr]
          refine ⟨fun y => ?_, fun y => ?_⟩
          · rw [decide_eq_false y] at el2
            exact J false el2
          · rw [decide_eq_true (Decidable.not_not.mp y)] at el2
            exact J true el2
    · have q2 : ¬ cR cm rr k = x := q
      have eg : gcB (cR cm rr) (fR tm m3 rr) x k = 0 := if_neg q2
      rw [e1, eg, Nat.add_zero, mxM_n q2, pst_n q2, mny_n q2] at hg
      rw [nI_1]
      exact hg
theorem m_run7 (h6 : RPic nc np n m1 m2 m3 m4 m0) (hnc : nc ≤ 8) (hn : n ≤ 120) (hrn : nr ≤ n) (hnpc : npc ≤ 8) (hP : PutD nr npc o rr tm cm x12 x13 x14 (σ.2 1) (σ.2 2) (σ.2 16) (σ.2 17)) (e3 : σ.2 3 = m3) (hs : σ.1 9 = nI nr) (hsc : σ.1 10 = nI npc) {x1 : Int32} {K : Int32 → Int32 → Int32 → St → Prop} (hK : K (nI (sm (fun x => sm (fun k => gcB (cR cm rr) (fR tm m3 rr) x k) nr) npc)) (nI (mxO (cR cm rr) (fR tm m3 rr) nr npc)) (nI npc) σ) : ∀ (d x : Nat), x + d = npc → w_X6_runs_L7 x1 post K (d + 1) (nI (sm (fun x => sm (fun k => gcB (cR cm rr) (fR tm m3 rr) x k) nr) x)) (nI (mxO (cR cm rr) (fR tm m3 rr) nr x)) (nI x) σ := by
  intro d
  induction d with
  | zero =>
    intro x hx
    have e : x = npc := by omega
    subst e
    unfold w_X6_runs_L7
    rw [hsc]
    exact ⟨fun _ => hK, fun q => absurd (nI_le (Nat.le_refl x) (by omega)) q⟩
  | succ d ih =>
    intro x hx
    have hg := ih (x + 1) (by omega)
    unfold w_X6_runs_L7
    rw [hsc]
    refine ⟨fun q => absurd q (nI_ge (by omega) (by omega)), fun _ => ⟨nr + 1, ?_⟩⟩
    have g := m_run25 (post := post) (x1 := x1) (x := x) (N0 := sm (fun x => sm (fun k => gcB (cR cm rr) (fR tm m3 rr) x k) nr) x) (M0 := mxO (cR cm rr) (fR tm m3 rr) nr x) (K := fun x2 x3 _ _ _ s => w_X6_runs_L7 x1 post K (d + 1) x2 x3 (nI x + 1) s) h6 hnc hn hrn hnpc hP e3 hs (by omega) (mxO_le x) (fun _ _ _ => by rw [nI_1]; exact hg) nr 0 (by omega)
    exact g
theorem m_runs (h6 : RPic nc np n m1 m2 m3 m4 m0) (hnc : nc ≤ 8) (hn : n ≤ 120) (hrn : nr ≤ n) (hnpc : npc ≤ 8) (hP : PutD nr npc o rr tm cm x12 x13 x14 (σ.2 1) (σ.2 2) (σ.2 16) (σ.2 17)) (e3 : σ.2 3 = m3) (hs : σ.1 9 = nI nr) (hsc : σ.1 10 = nI npc) {x1 : Int32} (h0 : x1 = 0 → post (nI (sm (fun k => cond (decide (lnR (cR cm rr) (fR tm m3 rr) k = 2)) 1 0) nr)) σ) (h1 : ¬ x1 = 0 → post (nI (mxO (cR cm rr) (fR tm m3 rr) nr npc)) σ) : w_X6_runs σ x1 post := by
  have hc : ∀ i, i < nr → cR cm rr i < npc := fun i hi => (hP.2.1 _ (hP.2.2.1 i hi).1).1
  unfold w_X6_runs
  refine ⟨npc + 1, ?_⟩
  have g := m_run7 (post := post) (x1 := x1) (K := fun x2 x3 _ s => (x1 = 0 → post x2 s) ∧ (¬ x1 = 0 → post x3 s)) h6 hnc hn hrn hnpc hP e3 hs hsc (by rw [gc_same hc]; exact ⟨h0, h1⟩) npc 0 (by omega)
  exact g
end RUN
theorem st_bursts (j : Nat) (σx σm : St) (hj : j < 512) (h : Rel j σx σm) : w_X5_bursts σx (fun r u => w_X6_bursts σm (fun r2 u2 => r = r2 ∧ Rel (j + 1) u u2)) := by
  have h0 := h.z 0
  obtain ⟨nc, np, n, nt, ne, ⟨b1, b2, b3, b4, b5⟩, hx, hm, h4, h5, h6, h7, h8⟩ := h
  unfold w_X5_bursts w_X6_bursts
  rcases h8 with ⟨e0, e1, -, e2, -⟩ | ⟨nr, npc, o, rr, tm, cm, r1, r2, e0, e1, -, e2, e3, hP⟩
  · rw [e0, e2]
    exact ⟨fun z => absurd rfl z, fun _ => ⟨fun z => absurd rfl z, fun _ => ⟨rfl, h0⟩⟩⟩
  · rw [e0, e2]
    refine ⟨fun _ => ⟨nr + 1, ?_⟩, fun z => absurd z (by decide)⟩
    have g := x_bursts (post := fun r u => ((¬ nI nr = -1 → w_X6_runs ((va_up σm.1 0 0), σm.2) 0 (fun r_2 u_3 => r = r_2 ∧ Rel (j + 1) u u_3)) ∧ (nI nr = -1 → r = -1 ∧ Rel (j + 1) u ((va_up σm.1 0 0), σm.2)))) (K := fun x1 _ u => ((¬ nI nr = -1 → w_X6_runs ((va_up σm.1 0 0), σm.2) 0 (fun r_2 u_3 => x1 = r_2 ∧ Rel (j + 1) u u_3)) ∧ (nI nr = -1 → x1 = -1 ∧ Rel (j + 1) u ((va_up σm.1 0 0), σm.2)))) h6 b1 b3 r1 (by omega) hP h5.1 h5.2.2.1 e1 ⟨fun _ => ?_, fun z => absurd z (nI_m1 (by omega))⟩ nr 0 (by omega)
    · exact g
    · exact m_runs (σ := (va_up σm.1 0 0, σm.2)) h6 b1 b3 r1 (by omega) hP rfl e2 e3 (fun _ => ⟨rfl, h0⟩) (fun z => absurd rfl z)
theorem st_longest (j : Nat) (σx σm : St) (hj : j < 512) (h : Rel j σx σm) : w_X5_longest σx (fun r u => w_X6_longest σm (fun r2 u2 => r = r2 ∧ Rel (j + 1) u u2)) := by
  have h0 := h.z 0
  obtain ⟨nc, np, n, nt, ne, ⟨b1, b2, b3, b4, b5⟩, hx, hm, h4, h5, h6, h7, h8⟩ := h
  rcases h8 with ⟨e0, e1, -, e2, -⟩ | ⟨nr, npc, o, rr, tm, cm, r1, r2, e0, e1, -, e2, e3, hP⟩
  · unfold w_X5_longest w_X6_longest
    rw [e0, e2]
    exact ⟨fun z => absurd rfl z, fun _ => ⟨fun z => absurd rfl z, fun _ => ⟨rfl, h0⟩⟩⟩
  · have ref : w_X6_longest σm (fun r2 u2 => nI (mxO (cR cm rr) (fR tm (σm.2 3) rr) nr npc) = r2 ∧ Rel (j + 1) σx u2) := by
      unfold w_X6_longest
      rw [e2]
      refine ⟨fun _ => ?_, fun z => absurd z (nI_m1 (by omega))⟩
      exact m_runs (σ := (va_up σm.1 0 0, σm.2)) h6 b1 b3 r1 (by omega) hP rfl e2 e3 (fun z => absurd z (by decide)) (fun _ => ⟨rfl, h0⟩)
    have hc : ∀ i, i < nr → cR cm rr i < npc := fun i hi => (hP.2.1 _ (hP.2.2.1 i hi).1).1
    have sme := mx_same (f := fR tm (σm.2 3) rr) hc
    have lm := mxC_le (c := cR cm rr) (f := fR tm (σm.2 3) rr) nr
    unfold w_X5_longest
    rw [e0]
    refine ⟨fun _ => ⟨nr + 1, ?_⟩, fun z => absurd z (by decide)⟩
    have g := x_longest (post := fun r u => w_X6_longest σm (fun r2 u2 => r = r2 ∧ Rel (j + 1) u u2)) (K := fun x1 _ u => ((x1 < 2 → w_X6_longest σm (fun r2 u2 => 0 = r2 ∧ Rel (j + 1) u u2)) ∧ (¬ x1 < 2 → w_X6_longest σm (fun r2 u2 => x1 = r2 ∧ Rel (j + 1) u u2)))) h6 b1 b3 r1 (by omega) hP h5.1 h5.2.2.1 e1 ⟨fun z => ?_, fun z => ?_⟩ nr 0 (by omega)
    · exact g
    · have z2 : mxC (cR cm rr) (fR tm (σm.2 3) rr) nr < 2 := (nI_ltI (b := 2) (by omega) (by omega)).mp z
      rw [if_pos z2] at sme
      rw [← sme, nI_0] at ref
      exact ref
    · have z2 : ¬ mxC (cR cm rr) (fR tm (σm.2 3) rr) nr < 2 := fun w => z ((nI_ltI (b := 2) (by omega) (by omega)).mpr w)
      rw [if_neg z2] at sme
      rw [← sme] at ref
      exact ref
