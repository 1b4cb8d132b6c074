/-! places that a camera can have been at -/
def abD (a b : Int) : Int := if b ≤ a then a - b else b - a
theorem abD_sym (a b : Int) : abD a b = abD b a := by
  unfold abD
  split <;> split <;> omega
theorem absI {a b : Int} (ha : -1000000 ≤ a ∧ a ≤ 1000000) (hb : -1000000 ≤ b ∧ b ≤ 1000000) : (if (0 : Int32) ≤ iI a - iI b then iI a - iI b else 0 - (iI a - iI b)) = iI (abD a b) := by
  rw [iI_sub]
  have e0 : (0 : Int32) = iI 0 := rfl
  have k : (0 : Int32) ≤ iI (a - b) ↔ 0 ≤ a - b := by rw [e0]; exact iI_le (by omega) (by omega) (by omega) (by omega)
  unfold abD
  by_cases q : b ≤ a
  · rw [if_pos (k.mpr (by omega)), if_pos q]
  · rw [if_neg (fun z => q (by have := k.mp z; omega)), if_neg q, e0, iI_sub, show (0 : Int) - (a - b) = b - a by omega]
def plN (m4 : Nat → Int32) (p : Nat) : Nat := (m4 p).toNatClampNeg
def rcB (m1 m2 m4 m0 : Nat → Int32) (p q k : Nat) : Bool := (decide (m4 k = -1) || !decide (m1 k = m1 p)) || decide (m0 (10 * q + plN m4 k) ≤ iI (abD (ckI m2 k) (ckI m2 p)))
def alB (r : Nat → Bool) : Nat → Bool
  | 0 => true
  | n + 1 => alB r n && r n
theorem alB_f {r : Nat → Bool} {k : Nat} (h : r k = false) : ∀ {n : Nat}, k < n → alB r n = false := by
  intro n
  induction n with
  | zero => intro q; exact absurd q (Nat.not_lt_zero k)
  | succ n ih =>
    intro q
    show (alB r n && r n) = false
    by_cases e : k = n
    · rw [← e, h, Bool.and_false]
    · rw [ih (by omega), Bool.false_and]
theorem alB_s {r : Nat → Bool} {n : Nat} (h : alB r n = true) (h2 : r n = true) : alB r (n + 1) = true := by
  show (alB r n && r n) = true
  rw [h, h2]
  rfl
theorem alB_t {r : Nat → Bool} {n : Nat} (h : alB r n = true) : alB r (n + 1) = r n := by
  show (alB r n && r n) = r n
  rw [h, Bool.true_and]
section CAN
variable {nc np n : Nat} {σ : St} {m1 m2 m3 m4 m0 : Nat → Int32} {p q k : Nat} {post : Int32 → St → Prop}
theorem rc_pl (h6 : RPic nc np n m1 m2 m3 m4 m0) (hnp : np ≤ 10) (hk : k < n) (h : ¬ m4 k = -1) : plN m4 k < np ∧ m4 k = nI (plN m4 k) := by
  obtain ⟨-, -, -, h4⟩ := h6.1 k hk
  rcases h4 with h4 | ⟨r, hr, er⟩
  · exact absurd h4 h
  · have e : plN m4 k = r := by unfold plN; rw [er]; exact nI_clamp (by omega)
    rw [e]
    exact ⟨hr, er⟩
theorem rc_1 (h : m4 k = -1) : rcB m1 m2 m4 m0 p q k = true := by
  unfold rcB
  rw [decide_eq_true h]
  rfl
theorem rc_2 (h : ¬ m1 k = m1 p) : rcB m1 m2 m4 m0 p q k = true := by
  unfold rcB
  rw [decide_eq_false h, Bool.not_false, Bool.or_true, Bool.true_or]
theorem rc_3 (h1 : ¬ m4 k = -1) (h2 : m1 k = m1 p) : rcB m1 m2 m4 m0 p q k = decide (m0 (10 * q + plN m4 k) ≤ iI (abD (ckI m2 k) (ckI m2 p))) := by
  unfold rcB
  rw [decide_eq_false h1, decide_eq_true h2, Bool.not_true, Bool.or_false, Bool.false_or]
theorem rc_abs (h6 : RPic nc np n m1 m2 m3 m4 m0) (hnc : nc ≤ 8) (hk : k < n) (hp : p < n) : (if (0 : Int32) ≤ m2 k - m2 p then m2 k - m2 p else 0 - (m2 k - m2 p)) = iI (abD (ckI m2 k) (ckI m2 p)) := by
  obtain ⟨-, ⟨c1, c2, c3⟩, -⟩ := pic_fn h6 hnc hk
  obtain ⟨-, ⟨d1, d2, d3⟩, -⟩ := pic_fn h6 hnc hp
  have := absI (a := ckI m2 k) (b := ckI m2 p) (by omega) (by omega)
  rw [← c3, ← d3] at this
  exact this
theorem x_reach (h6 : RPic nc np n m1 m2 m3 m4 m0) (hnc : nc ≤ 8) (hnp : np ≤ 10) (hn : n ≤ 120) (e0 : σ.2 0 = m1) (e1 : σ.2 1 = m2) (e3 : σ.2 3 = m4) (e4 : σ.2 4 = m0) (hs : σ.1 4 = nI n) (hp : p < n) (hq : q < 10) (hh : post (cond (alB (rcB m1 m2 m4 m0 p q) n) 1 0) σ) : w_X1_isWithinReach σ (nI p) (nI q) post := by
  unfold w_X1_isWithinReach
  rw [nI_clamp (show p < 2 ^ 31 by omega), e0, e1]
  have O : ∀ (d k : Nat), k + d = n → alB (rcB m1 m2 m4 m0 p q) k = true → w_X1_isWithinReach_L19 (nI q) (m1 p) (m2 p) post (fun _ s => post 1 s) (d + 1) (nI k) σ := by
    intro d
    induction d with
    | zero =>
      intro k hk ha
      have e : k = n := by omega
      subst e
      unfold w_X1_isWithinReach_L19
      rw [hs]
      refine ⟨fun _ => ?_, fun q => absurd (nI_le (Nat.le_refl k) (by omega)) q⟩
      rw [ha] at hh
      exact hh
    | succ d ih =>
      intro k hk ha
      have hkn : k < n := by omega
      have ik : vp_in (nI k) 120 := vp_in_nI (by omega) (by omega)
      have go : rcB m1 m2 m4 m0 p q k = true → w_X1_isWithinReach_L19 (nI q) (m1 p) (m2 p) post (fun _ s => post 1 s) (d + 1) (nI (k + 1)) σ := fun hb => ih (k + 1) (by omega) (alB_s ha hb)
      unfold w_X1_isWithinReach_L19
      rw [hs, nI_clamp (show k < 2 ^ 31 by omega), e0, e1, e3, e4, nI_1]
      refine ⟨fun q => absurd q (nI_ge hkn (by omega)), fun _ => ⟨ik, fun z => go (rc_1 z), fun z => ⟨ik, fun z2 => go (rc_2 z2), fun z2 => ⟨ik, ?_⟩⟩⟩⟩
      obtain ⟨hr, er⟩ := rc_pl h6 hnp hkn z
      have ei : m4 k * 10 + nI q = nI (10 * plN m4 k + q) := by
        rw [er, show (10 : Int32) = nI 10 from rfl, pk_mul, nI_add, Nat.mul_comm]
      have hc := rc_3 (m2 := m2) (m0 := m0) (q := q) z z2
      rw [ei, nI_clamp (show 10 * plN m4 k + q < 2 ^ 31 by omega), rc_abs h6 hnc hkn hp, h6.2 q (plN m4 k) hq (by omega)]
      refine ⟨vp_in_nI (by omega) (by omega), fun z3 => go (by rw [hc]; exact decide_eq_true z3), fun z3 => ?_⟩
      rw [decide_eq_false z3] at hc
      rw [alB_f hc hkn] at hh
      exact hh
  exact ⟨vp_in_nI (by omega) (by omega), vp_in_nI (by omega) (by omega), n + 1, O n 0 (by omega) rfl⟩
theorem m_can37 (h6 : RPic nc np n m1 m2 m3 m4 m0) (hnc : nc ≤ 8) (hnp : np ≤ 10) (hn : n ≤ 120) (e1 : σ.2 1 = m1) (e2 : σ.2 2 = m2) (e4 : σ.2 4 = m4) (e0 : σ.2 0 = m0) (hs : σ.1 4 = nI n) (hp : p < n) (hq : q < 10) {acc : Int32} {K : Int32 → Int32 → St → Prop} (hK : K (cond (alB (rcB m1 m2 m4 m0 p q) n) 1 0) (nI n) σ) : ∀ (d k : Nat), k + d = n → w_X6_canOf_L37 (nI p) acc (nI q) post K (d + 1) (cond (alB (rcB m1 m2 m4 m0 p q) k) 1 0) (nI k) σ := by
  intro d
  induction d with
  | zero =>
    intro k hk
    have e : k = n := by omega
    subst e
    unfold w_X6_canOf_L37
    rw [hs]
    exact ⟨fun _ => hK, fun q => absurd (nI_le (Nat.le_refl k) (by omega)) q⟩
  | succ d ih =>
    intro k hk
    have hkn : k < n := by omega
    have ik : vp_in (nI k) 120 := vp_in_nI (by omega) (by omega)
    have ip : vp_in (nI p) 120 := vp_in_nI (by omega) (by omega)
    have hg := ih (k + 1) (by omega)
    unfold w_X6_canOf_L37
    rw [hs, nI_clamp (show k < 2 ^ 31 by omega), nI_clamp (show p < 2 ^ 31 by omega), e0, e1, e2, e4, nI_1]
    refine ⟨fun q => absurd q (nI_ge hkn (by omega)), fun _ => ?_⟩
    cases ha : alB (rcB m1 m2 m4 m0 p q) k with
    | false =>
      have e : alB (rcB m1 m2 m4 m0 p q) (k + 1) = false := by
        show (alB (rcB m1 m2 m4 m0 p q) k && rcB m1 m2 m4 m0 p q k) = false
        rw [ha]
        rfl
      rw [e] at hg
      exact ⟨fun _ => hg, fun z => absurd rfl z⟩
    | true =>
      rw [alB_t ha] at hg
      refine ⟨fun z => absurd z (by decide), fun _ => ⟨ik, ip, fun z2 => ?_, fun z2 => ⟨ik, fun z => ?_, fun z => ⟨ik, ip, ik, ?_⟩⟩⟩⟩
      · rw [rc_2 z2] at hg
        exact hg
      · rw [rc_1 z] at hg
        exact hg
      · obtain ⟨hr, er⟩ := rc_pl h6 hnp hkn z
        have ei : 10 * nI q + m4 k = nI (10 * q + plN m4 k) := by
          rw [er, show (10 : Int32) = nI 10 from rfl, pk_mul, nI_add]
        have hc := rc_3 (m2 := m2) (m0 := m0) (q := q) z z2
        rw [hc] at hg
        rw [ei, nI_clamp (show 10 * q + plN m4 k < 2 ^ 31 by omega), rc_abs h6 hnc hkn hp]
        refine ⟨vp_in_nI (by omega) (by omega), fun z3 => ?_, fun z3 => ?_⟩
        · rw [decide_eq_false (Int32.not_le.mpr z3)] at hg
          exact hg
        · rw [decide_eq_true (Int32.not_lt.mp z3)] at hg
          exact hg
def stF (m1 m2 m4 m0 : Nat → Int32) (n p : Nat) : Nat → Int32
  | 0 => 0
  | q + 1 => cond (alB (rcB m1 m2 m4 m0 p q) n) (stF m1 m2 m4 m0 n p q ||| (1 <<< (nI q &&& 31))) (stF m1 m2 m4 m0 n p q)
def cnF (m1 m2 m4 m0 : Nat → Int32) (n np p : Nat) : Int32 := if m4 p = -1 then stF m1 m2 m4 m0 n p np else 1 <<< (m4 p &&& 31)
theorem x_possible (h6 : RPic nc np n m1 m2 m3 m4 m0) (hnc : nc ≤ 8) (hnp : np ≤ 10) (hn : n ≤ 120) (e0 : σ.2 0 = m1) (e1 : σ.2 1 = m2) (e3 : σ.2 3 = m4) (e4 : σ.2 4 = m0) (hs : σ.1 4 = nI n) (hs5 : σ.1 5 = nI np) (hp : p < n) (hh : post (cnF m1 m2 m4 m0 n np p) σ) : w_X1_possiblePlaces σ (nI p) post := by
  unfold w_X1_possiblePlaces
  rw [nI_clamp (show p < 2 ^ 31 by omega), e3]
  unfold cnF at hh
  refine ⟨vp_in_nI (by omega) (by omega), fun z => ?_, fun z => ?_⟩
  · rw [if_pos z] at hh
    have O : ∀ (d q : Nat), q + d = np → w_X1_possiblePlaces_L22 (nI p) post (fun x4 _ s => post x4 s) (d + 1) (stF m1 m2 m4 m0 n p q) (nI q) σ := by
      intro d
      induction d with
      | zero =>
        intro q hq
        have e : q = np := by omega
        subst e
        unfold w_X1_possiblePlaces_L22
        rw [hs5]
        exact ⟨fun _ => hh, fun z => absurd (nI_le (Nat.le_refl q) (by omega)) z⟩
      | succ d ih =>
        intro q hq
        have hg := ih (q + 1) (by omega)
        unfold w_X1_possiblePlaces_L22
        rw [hs5]
        refine ⟨fun z => absurd z (nI_ge (by omega) (by omega)), fun _ => x_reach h6 hnc hnp hn e0 e1 e3 e4 hs hp (by omega) ?_⟩
        rw [nI_1]
        have e : stF m1 m2 m4 m0 n p (q + 1) = cond (alB (rcB m1 m2 m4 m0 p q) n) (stF m1 m2 m4 m0 n p q ||| (1 <<< (nI q &&& 31))) (stF m1 m2 m4 m0 n p q) := rfl
        rw [e] at hg
        cases ha : alB (rcB m1 m2 m4 m0 p q) n with
        | false =>
          rw [ha] at hg
          exact ⟨fun _ => hg, fun z => absurd rfl z⟩
        | true =>
          rw [ha] at hg
          exact ⟨fun z => absurd z (by decide), fun _ => hg⟩
    exact ⟨np + 1, O np 0 (by omega)⟩
  · rw [if_neg z] at hh
    exact hh
theorem i32_or0 (x : Int32) : x ||| 0 = x := by
  apply Int32.toBitVec_inj.mp
  rw [Int32.toBitVec_or]
  show x.toBitVec ||| 0#32 = x.toBitVec
  exact BitVec.or_zero
theorem m_canOf (h6 : RPic nc np n m1 m2 m3 m4 m0) (hnc : nc ≤ 8) (hnp : np ≤ 10) (hn : n ≤ 120) (e1 : σ.2 1 = m1) (e2 : σ.2 2 = m2) (e4 : σ.2 4 = m4) (e0 : σ.2 0 = m0) (hs : σ.1 4 = nI n) (hs3 : σ.1 3 = nI np) (hp : p < n) (hh : post (cnF m1 m2 m4 m0 n np p) σ) : w_X6_canOf σ (nI p) post := by
  unfold w_X6_canOf
  rw [nI_clamp (show p < 2 ^ 31 by omega), e4]
  have ip : vp_in (nI p) 120 := vp_in_nI (by omega) (by omega)
  unfold cnF at hh
  refine ⟨ip, fun z => ?_, fun z => ⟨ip, ?_⟩⟩
  · rw [if_pos z] at hh
    have O : ∀ (d q : Nat), q + d = np → w_X6_canOf_L23 (nI p) post (fun x2 _ s => post x2 s) (d + 1) (stF m1 m2 m4 m0 n p q) (nI q) σ := by
      intro d
      induction d with
      | zero =>
        intro q hq
        have e : q = np := by omega
        subst e
        unfold w_X6_canOf_L23
        rw [hs3]
        exact ⟨fun _ => hh, fun z => absurd (nI_le (Nat.le_refl q) (by omega)) z⟩
      | succ d ih =>
        intro q hq
        have hg := ih (q + 1) (by omega)
        have e : stF m1 m2 m4 m0 n p (q + 1) = cond (alB (rcB m1 m2 m4 m0 p q) n) (stF m1 m2 m4 m0 n p q ||| (1 <<< (nI q &&& 31))) (stF m1 m2 m4 m0 n p q) := rfl
        rw [e] at hg
        unfold w_X6_canOf_L23
        rw [hs3]
        refine ⟨fun z => absurd z (nI_ge (by omega) (by omega)), fun _ => ⟨n + 1, ?_⟩⟩
        refine m_can37 h6 hnc hnp hn e1 e2 e4 e0 hs hp (by omega) ?_ n 0 (by omega)
        rw [nI_1, i32_or0]
        cases ha : alB (rcB m1 m2 m4 m0 p q) n with
        | false =>
          rw [ha] at hg
          exact ⟨fun _ => hg, fun z => absurd rfl z⟩
        | true =>
          rw [ha] at hg
          exact ⟨fun z => absurd z (by decide), fun _ => hg⟩
    exact ⟨np + 1, O np 0 (by omega)⟩
  · rw [if_neg z] at hh
    exact hh
theorem shl_1 {q : Nat} (h : q < 10) : (1 : Int32) <<< (nI q &&& 31) = nI (2 ^ q) := by
  have c : q = 0 ∨ q = 1 ∨ q = 2 ∨ q = 3 ∨ q = 4 ∨ q = 5 ∨ q = 6 ∨ q = 7 ∨ q = 8 ∨ q = 9 := by omega
  rcases c with rfl | rfl | rfl | rfl | rfl | rfl | rfl | rfl | rfl | rfl <;> decide +kernel
theorem stF_nat : ∀ (q : Nat), q ≤ 10 → ∃ m, m < 2 ^ q ∧ stF m1 m2 m4 m0 n p q = nI m := by
  intro q
  induction q with
  | zero => intro _; exact ⟨0, by decide, nI_0.symm⟩
  | succ q ih =>
    intro hq
    obtain ⟨m, hm, em⟩ := ih (by omega)
    have p1 : 2 ^ q < 2 ^ (q + 1) := Nat.pow_lt_pow_right (by omega) (by omega)
    have p2 : 2 ^ (q + 1) ≤ 2 ^ 10 := Nat.pow_le_pow_right (by omega) hq
    have e : stF m1 m2 m4 m0 n p (q + 1) = cond (alB (rcB m1 m2 m4 m0 p q) n) (stF m1 m2 m4 m0 n p q ||| (1 <<< (nI q &&& 31))) (stF m1 m2 m4 m0 n p q) := rfl
    rw [e, em, shl_1 (by omega)]
    cases alB (rcB m1 m2 m4 m0 p q) n with
    | false => exact ⟨m, by omega, rfl⟩
    | true => exact ⟨m ||| 2 ^ q, Nat.or_lt_two_pow (by omega) p1, nI_or (by omega) (by omega)⟩
noncomputable def fnB (m1 m2 m4 m0 : Nat → Int32) (n np p : Nat) : Bool := decide (m4 p = -1) && decide (pcB (stF m1 m2 m4 m0 n p np).toNatClampNeg = 1)
theorem fn_val (hnp : np ≤ 10) : ∃ m, m < 65536 ∧ stF m1 m2 m4 m0 n p np = nI m ∧ (stF m1 m2 m4 m0 n p np).toNatClampNeg = m := by
  obtain ⟨m, hm, em⟩ := stF_nat (m1 := m1) (m2 := m2) (m4 := m4) (m0 := m0) (n := n) (p := p) np hnp
  have p2 : 2 ^ np ≤ 2 ^ 10 := Nat.pow_le_pow_right (by omega) hnp
  refine ⟨m, by omega, em, ?_⟩
  rw [em]
  exact nI_clamp (by omega)
theorem x_found (h6 : RPic nc np n m1 m2 m3 m4 m0) (hnc : nc ≤ 8) (hnp : np ≤ 10) (hn : n ≤ 120) (e0 : σ.2 0 = m1) (e1 : σ.2 1 = m2) (e3 : σ.2 3 = m4) (e4 : σ.2 4 = m0) (hs : σ.1 4 = nI n) (hs5 : σ.1 5 = nI np) (hh : post (nI (sm (fun p => cond (fnB m1 m2 m4 m0 n np p) 1 0) n)) σ) : w_X5_found σ post := by
  unfold w_X5_found
  have O : ∀ (d p : Nat), p + d = n → w_X5_found_L4 post (fun x1 _ s => post x1 s) (d + 1) (nI (sm (fun p => cond (fnB m1 m2 m4 m0 n np p) 1 0) p)) (nI p) σ := by
    intro d
    induction d with
    | zero =>
      intro p hp
      have e : p = n := by omega
      subst e
      unfold w_X5_found_L4
      rw [hs]
      exact ⟨fun _ => hh, fun z => absurd (nI_le (Nat.le_refl p) (by omega)) z⟩
    | succ d ih =>
      intro p hp
      have hg := ih (p + 1) (by omega)
      have e : sm (fun p => cond (fnB m1 m2 m4 m0 n np p) 1 0) (p + 1) = sm (fun p => cond (fnB m1 m2 m4 m0 n np p) 1 0) p + cond (fnB m1 m2 m4 m0 n np p) 1 0 := rfl
      rw [e] at hg
      unfold w_X5_found_L4
      rw [hs, nI_clamp (show p < 2 ^ 31 by omega), e3]
      refine ⟨fun z => absurd z (nI_ge (by omega) (by omega)), fun _ => ⟨vp_in_nI (by omega) (by omega), fun z => ?_, fun z => ?_⟩⟩
      · rw [nI_1]
        have eb : fnB m1 m2 m4 m0 n np p = false := by
          unfold fnB
          rw [decide_eq_false z, Bool.false_and]
        rw [eb] at hg
        exact hg
      · refine x_possible h6 hnc hnp hn e0 e1 e3 e4 hs hs5 (by omega) ?_
        unfold cnF
        rw [if_pos z]
        obtain ⟨m, hm, em, ec⟩ := fn_val (m1 := m1) (m2 := m2) (m4 := m4) (m0 := m0) (n := n) (p := p) hnp
        rw [em]
        refine x_bitCount hm ?_
        have l := (pcB_spec hm).2
        have k1 : nI (pcB m) = 1 ↔ pcB m = 1 := nI_eq (b := 1) (by omega) (by omega)
        have eb : fnB m1 m2 m4 m0 n np p = decide (pcB m = 1) := by
          unfold fnB
          rw [decide_eq_true z, Bool.true_and, ec]
        rw [eb] at hg
        rw [nI_1, nI_1]
        refine ⟨fun y => ?_, fun y => ?_⟩
        · rw [decide_eq_false (fun w => y (k1.mpr w))] at hg
          exact hg
        · rw [decide_eq_true (k1.mp y)] at hg
          exact hg
  exact ⟨n + 1, O n 0 (by omega)⟩
theorem m_found (h6 : RPic nc np n m1 m2 m3 m4 m0) (hnc : nc ≤ 8) (hnp : np ≤ 10) (hn : n ≤ 120) (e1 : σ.2 1 = m1) (e2 : σ.2 2 = m2) (e4 : σ.2 4 = m4) (e0 : σ.2 0 = m0) (hs : σ.1 4 = nI n) (hs3 : σ.1 3 = nI np) {K : Int32 → Int32 → St → Prop} (hK : K (nI (sm (fun p => cond (fnB m1 m2 m4 m0 n np p) 1 0) n)) (nI n) σ) : ∀ (d p : Nat), p + d = n → w_X6_found_L9 post K (d + 1) (nI (sm (fun p => cond (fnB m1 m2 m4 m0 n np p) 1 0) p)) (nI p) σ := by
  intro d
  induction d with
  | zero =>
    intro p hp
    have e : p = n := by omega
    subst e
    unfold w_X6_found_L9
    rw [hs]
    exact ⟨fun _ => hK, fun z => absurd (nI_le (Nat.le_refl p) (by omega)) z⟩
  | succ d ih =>
    intro p hp
    have hg := ih (p + 1) (by omega)
    have e : sm (fun p => cond (fnB m1 m2 m4 m0 n np p) 1 0) (p + 1) = sm (fun p => cond (fnB m1 m2 m4 m0 n np p) 1 0) p + cond (fnB m1 m2 m4 m0 n np p) 1 0 := rfl
    rw [e] at hg
    unfold w_X6_found_L9
    rw [hs, nI_clamp (show p < 2 ^ 31 by omega), e4]
    refine ⟨fun z => absurd z (nI_ge (by omega) (by omega)), fun _ => ⟨vp_in_nI (by omega) (by omega), fun z => ?_, fun z => ?_⟩⟩
    · rw [nI_1, nI_z]
      have eb : fnB m1 m2 m4 m0 n np p = false := by
        unfold fnB
        rw [decide_eq_false z, Bool.false_and]
      rw [eb] at hg
      exact hg
    · refine m_canOf h6 hnc hnp hn e1 e2 e4 e0 hs hs3 (by omega) ?_
      unfold cnF
      rw [if_pos z]
      obtain ⟨m, hm, em, ec⟩ := fn_val (m1 := m1) (m2 := m2) (m4 := m4) (m0 := m0) (n := n) (p := p) hnp
      rw [em]
      refine m_bits hm ?_
      have l := (pcB_spec hm).2
      have k1 : nI (pcB m) = 1 ↔ pcB m = 1 := nI_eq (b := 1) (by omega) (by omega)
      have eb : fnB m1 m2 m4 m0 n np p = decide (pcB m = 1) := by
        unfold fnB
        rw [decide_eq_true z, Bool.true_and, ec]
      rw [eb] at hg
      rw [nI_1, nI_1, nI_z]
      refine ⟨fun y => ?_, fun y => ?_⟩
      · rw [decide_eq_false (fun w => y (k1.mpr w))] at hg
        exact hg
      · rw [decide_eq_true (k1.mp y)] at hg
        exact hg
def sgB (m1 m2 m4 m0 : Nat → Int32) (n p : Nat) : Bool := !decide (m4 p = -1) && !alB (rcB m1 m2 m4 m0 p (plN m4 p)) n
def fsF (r : Nat → Bool) : Nat → Nat → Int32
  | 0, _ => -2
  | d + 1, k => cond (r k) (nI k) (fsF r d (k + 1))
theorem x_strange (h6 : RPic nc np n m1 m2 m3 m4 m0) (hnc : nc ≤ 8) (hnp : np ≤ 10) (hn : n ≤ 120) (e0 : σ.2 0 = m1) (e1 : σ.2 1 = m2) (e3 : σ.2 3 = m4) (e4 : σ.2 4 = m0) (hs : σ.1 4 = nI n) : ∀ (d p : Nat), p + d = n → post (fsF (sgB m1 m2 m4 m0 n) d p) σ → w_X5_strange_L2 post (fun _ s => post (-2) s) (d + 1) (nI p) σ := by
  intro d
  induction d with
  | zero =>
    intro p hp hh
    have e : p = n := by omega
    subst e
    unfold w_X5_strange_L2
    rw [hs]
    exact ⟨fun _ => hh, fun z => absurd (nI_le (Nat.le_refl p) (by omega)) z⟩
  | succ d ih =>
    intro p hp hh
    have hpn : p < n := by omega
    have hg := ih (p + 1) (by omega)
    have e : fsF (sgB m1 m2 m4 m0 n) (d + 1) p = cond (sgB m1 m2 m4 m0 n p) (nI p) (fsF (sgB m1 m2 m4 m0 n) d (p + 1)) := rfl
    rw [e] at hh
    unfold w_X5_strange_L2
    rw [hs, nI_clamp (show p < 2 ^ 31 by omega), e3, nI_1]
    refine ⟨fun z => absurd z (nI_ge (by omega) (by omega)), fun _ => ⟨vp_in_nI (by omega) (by omega), fun z => ?_, fun z => ?_⟩⟩
    · have eb : sgB m1 m2 m4 m0 n p = false := by
        unfold sgB
        rw [decide_eq_true z, Bool.not_true, Bool.false_and]
      rw [eb] at hh
      exact hg hh
    · obtain ⟨hr, er⟩ := rc_pl h6 hnp hpn z
      have eb : sgB m1 m2 m4 m0 n p = !alB (rcB m1 m2 m4 m0 p (plN m4 p)) n := by
        unfold sgB
        rw [decide_eq_false z, Bool.not_false, Bool.true_and]
      rw [eb] at hh
      rw [er]
      refine x_reach h6 hnc hnp hn e0 e1 e3 e4 hs hpn (by omega) ?_
      cases ha : alB (rcB m1 m2 m4 m0 p (plN m4 p)) n with
      | false =>
        rw [ha] at hh
        exact ⟨fun z => absurd rfl z, fun _ => hh⟩
      | true =>
        rw [ha] at hh
        exact ⟨fun _ => hg hh, fun z => absurd z (by decide)⟩
theorem m_str17 (h6 : RPic nc np n m1 m2 m3 m4 m0) (hnc : nc ≤ 8) (hnp : np ≤ 10) (hn : n ≤ 120) (e1 : σ.2 1 = m1) (e2 : σ.2 2 = m2) (e4 : σ.2 4 = m4) (e0 : σ.2 0 = m0) (hs : σ.1 4 = nI n) (hp : p < n) {K : Int32 → St → Prop} (hK : sgB m1 m2 m4 m0 n p = false → ∀ x, K x σ) (hT : sgB m1 m2 m4 m0 n p = true → post (nI p) σ) : ∀ (d k : Nat), k + d = n → alB (rcB m1 m2 m4 m0 p (plN m4 p)) k = true → w_X6_strange_L17 (nI p) post K (d + 1) (nI k) σ := by
  intro d
  induction d with
  | zero =>
    intro k hk ha
    have e : k = n := by omega
    subst e
    unfold w_X6_strange_L17
    rw [hs]
    refine ⟨fun _ => hK ?_ _, fun z => absurd (nI_le (Nat.le_refl k) (by omega)) z⟩
    unfold sgB
    rw [ha, Bool.not_true, Bool.and_false]
  | succ d ih =>
    intro k hk ha
    have hkn : k < n := by omega
    have ik : vp_in (nI k) 120 := vp_in_nI (by omega) (by omega)
    have ip : vp_in (nI p) 120 := vp_in_nI (by omega) (by omega)
    have go : rcB m1 m2 m4 m0 p (plN m4 p) k = true → w_X6_strange_L17 (nI p) post K (d + 1) (nI (k + 1)) σ := fun hb => ih (k + 1) (by omega) (alB_s ha hb)
    unfold w_X6_strange_L17
    rw [hs, nI_clamp (show k < 2 ^ 31 by omega), nI_clamp (show p < 2 ^ 31 by omega), e0, e1, e2, e4, nI_1]
    refine ⟨fun z => absurd z (nI_ge hkn (by omega)), fun _ => ⟨ip, fun z => hK ?_ _, fun z => ⟨ik, fun z1 => go (rc_1 z1), fun z1 => ⟨ip, ik, fun z2 => ⟨ip, ik, ip, ik, ?_⟩, fun z2 => go (rc_2 (fun w => z2 w.symm))⟩⟩⟩⟩
    · unfold sgB
      rw [decide_eq_true z, Bool.not_true, Bool.false_and]
    · obtain ⟨hr, er⟩ := rc_pl h6 hnp hkn z1
      obtain ⟨hr2, er2⟩ := rc_pl h6 hnp hp z
      have ei : 10 * m4 p + m4 k = nI (10 * plN m4 p + plN m4 k) := by
        rw [er, er2, show (10 : Int32) = nI 10 from rfl, pk_mul, nI_add]
      have hc := rc_3 (m2 := m2) (m0 := m0) (q := plN m4 p) z1 z2.symm
      rw [ei, nI_clamp (show 10 * plN m4 p + plN m4 k < 2 ^ 31 by omega), rc_abs h6 hnc hp hkn, abD_sym]
      refine ⟨vp_in_nI (by omega) (by omega), fun z3 => go (by rw [hc]; exact decide_eq_true z3), fun z3 => hT ?_⟩
      rw [decide_eq_false z3] at hc
      unfold sgB
      rw [alB_f hc hkn, decide_eq_false z]
      rfl
theorem m_strange (h6 : RPic nc np n m1 m2 m3 m4 m0) (hnc : nc ≤ 8) (hnp : np ≤ 10) (hn : n ≤ 120) (e1 : σ.2 1 = m1) (e2 : σ.2 2 = m2) (e4 : σ.2 4 = m4) (e0 : σ.2 0 = m0) (hs : σ.1 4 = nI n) : ∀ (d p : Nat), p + d = n → post (fsF (sgB m1 m2 m4 m0 n) d p) σ → w_X6_strange_L7 post (fun _ s => post (-2) s) (d + 1) (nI p) σ := by
  intro d
  induction d with
  | zero =>
    intro p hp hh
    have e : p = n := by omega
    subst e
    unfold w_X6_strange_L7
    rw [hs]
    exact ⟨fun _ => hh, fun z => absurd (nI_le (Nat.le_refl p) (by omega)) z⟩
  | succ d ih =>
    intro p hp hh
    have hpn : p < n := by omega
    have hg := ih (p + 1) (by omega)
    have e : fsF (sgB m1 m2 m4 m0 n) (d + 1) p = cond (sgB m1 m2 m4 m0 n p) (nI p) (fsF (sgB m1 m2 m4 m0 n) d (p + 1)) := rfl
    rw [e] at hh
    unfold w_X6_strange_L7
    rw [hs]
    refine ⟨fun z => absurd z (nI_ge (by omega) (by omega)), fun _ => ⟨n + 1, ?_⟩⟩
    refine m_str17 h6 hnc hnp hn e1 e2 e4 e0 hs hpn (fun hb _ => ?_) (fun hb => ?_) n 0 (by omega) rfl
    · rw [hb] at hh
      rw [nI_1]
      exact hg hh
    · rw [hb] at hh
      exact hh
end CAN
theorem st_can (j : Nat) (σx σm : St) (y0 : Int32) (hj : j < 512) (h : Rel j σx σm) : w_X5_can σx y0 (fun r u => w_X6_can σm y0 (fun r2 u2 => r = r2 ∧ Rel (j + 1) u u2)) := by
  have h0 := h.z 0
  obtain ⟨nc, np, n, nt, ne, ⟨b1, b2, b3, b4, b5⟩, hx, hm, h4, h5, h6, h7, h8⟩ := h
  have hn : n < 2 ^ 31 := by omega
  unfold w_X5_can w_X6_can
  rcases ix_cases y0 hn with q | ⟨p, hp, rfl⟩
  · exact has0_n hx.2.2.1 q ⟨fun _ => isPi_n (σ := (va_up σm.1 0 0, σm.2)) hm.2.2.1 q ⟨fun _ => ⟨rfl, h0⟩, fun e => absurd rfl e⟩, fun e => absurd rfl e⟩
  · refine has0_y hx.2.2.1 hp hn ⟨fun e => absurd e (by decide), fun _ => x_possible h6 b1 b2 b3 h5.1 h5.2.1 h5.2.2.2.1 h5.2.2.2.2 hx.2.2.1 hx.2.1 hp ?_⟩
    exact isPi_y (σ := (va_up σm.1 0 0, σm.2)) hm.2.2.1 hp hn ⟨fun e => absurd e (by decide), fun _ => m_canOf (σ := (va_up σm.1 0 0, σm.2)) h6 b1 b2 b3 rfl rfl rfl rfl hm.2.2.1 hm.2.1 hp ⟨rfl, h0⟩⟩
theorem st_found (j : Nat) (σx σm : St) (hj : j < 512) (h : Rel j σx σm) : w_X5_found σx (fun r u => w_X6_found σm (fun r2 u2 => r = r2 ∧ Rel (j + 1) u u2)) := by
  have h0 := h.z 0
  obtain ⟨nc, np, n, nt, ne, ⟨b1, b2, b3, b4, b5⟩, hx, hm, h4, h5, h6, h7, h8⟩ := h
  refine x_found h6 b1 b2 b3 h5.1 h5.2.1 h5.2.2.2.1 h5.2.2.2.2 hx.2.2.1 hx.2.1 ?_
  unfold w_X6_found
  exact ⟨n + 1, m_found (σ := (va_up σm.1 0 0, σm.2)) h6 b1 b2 b3 rfl rfl rfl rfl hm.2.2.1 hm.2.1 ⟨rfl, h0⟩ n 0 (by omega)⟩
theorem st_strange (j : Nat) (σx σm : St) (hj : j < 512) (h : Rel j σx σm) : w_X5_strange σx (fun r u => w_X6_strange σm (fun r2 u2 => r = r2 ∧ Rel (j + 1) u u2)) := by
  have h0 := h.z 0
  obtain ⟨nc, np, n, nt, ne, ⟨b1, b2, b3, b4, b5⟩, hx, hm, h4, h5, h6, h7, h8⟩ := h
  unfold w_X5_strange
  refine ⟨n + 1, x_strange h6 b1 b2 b3 h5.1 h5.2.1 h5.2.2.2.1 h5.2.2.2.2 hx.2.2.1 n 0 (by omega) ?_⟩
  unfold w_X6_strange
  exact ⟨n + 1, m_strange (σ := (va_up σm.1 0 0, σm.2)) (post := fun r2 u2 => fsF (sgB (σm.2 1) (σm.2 2) (σm.2 4) (σm.2 0) n) n 0 = r2 ∧ Rel (j + 1) σx u2) h6 b1 b2 b3 rfl rfl rfl rfl hm.2.2.1 n 0 (by omega) ⟨rfl, h0⟩⟩
