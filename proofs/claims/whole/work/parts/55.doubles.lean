/-! doubles: pairs of the row, counted by their places in it or by their numbers -/
theorem sm_mul {rr : Nat → Nat} {p v : Nat} : ∀ n, sm (fun i => if rr i = p then v else 0) n = sm (fun i => if rr i = p then 1 else 0) n * v := by
  intro n
  induction n with
  | zero => exact (Nat.zero_mul v).symm
  | succ n ih =>
    show sm (fun i => if rr i = p then v else 0) n + (if rr n = p then v else 0) = (sm (fun i => if rr i = p then 1 else 0) n + (if rr n = p then 1 else 0)) * v
    rw [ih, Nat.add_mul]
    by_cases q : rr n = p
    · rw [if_pos q, if_pos q, Nat.one_mul]
    · rw [if_neg q, if_neg q, Nat.zero_mul]
theorem sm_le_one {rr : Nat → Nat} {p : Nat} : ∀ {m : Nat}, (∀ i j, i < m → j < m → rr i = rr j → i = j) → sm (fun i => if rr i = p then 1 else 0) m ≤ 1 := by
  intro m
  induction m with
  | zero => intro _; exact Nat.zero_le 1
  | succ m ih =>
    intro hi
    have g := ih (fun i j h1 h2 => hi i j (by omega) (by omega))
    show sm (fun i => if rr i = p then 1 else 0) m + (if rr m = p then 1 else 0) ≤ 1
    by_cases q : rr m = p
    · rw [if_pos q, sm_zero (fun i h1 => if_neg (fun e => absurd (hi i m (by omega) (by omega) (e.trans q.symm)) (by omega)))]
      exact Nat.le_refl 1
    · rw [if_neg q]
      exact g
theorem sm_le_n {f : Nat → Nat} : ∀ {n : Nat}, (∀ i, i < n → f i ≤ 1) → sm f n ≤ n := by
  intro n
  induction n with
  | zero => intro _; exact Nat.le_refl 0
  | succ n ih =>
    intro h
    have a := ih (fun i hi => h i (by omega))
    have b := h n (by omega)
    show sm f n + f n ≤ n + 1
    omega
theorem sm_full {f : Nat → Nat} : ∀ {n : Nat}, (∀ i, i < n → f i ≤ 1) → sm f n = n → ∀ i, i < n → f i = 1 := by
  intro n
  induction n with
  | zero => intro _ _ i hi; exact absurd hi (Nat.not_lt_zero i)
  | succ n ih =>
    intro h e i hi
    have a := sm_le_n (fun i hi => h i (show i < n + 1 by omega)) (n := n)
    have b := h n (by omega)
    have e2 : sm f n + f n = n + 1 := e
    by_cases q : i = n
    · rw [q]
      omega
    · exact ih (fun i hi => h i (by omega)) (by omega) i (by omega)
theorem sm_ones : ∀ n, sm (fun _ => 1) n = n := by
  intro n
  induction n with
  | zero => rfl
  | succ n ih =>
    show sm (fun _ => 1) n + 1 = n + 1
    rw [ih]
theorem sm_perm {rr : Nat → Nat} {n : Nat} (hlt : ∀ i, i < n → rr i < n) (hinj : ∀ i j, i < n → j < n → rr i = rr j → i = j) (h : Nat → Nat) : sm (fun i => h (rr i)) n = sm h n := by
  have one : ∀ p, p < n → sm (fun i => if rr i = p then 1 else 0) n = 1 := by
    refine sm_full (f := fun p => sm (fun i => if rr i = p then 1 else 0) n) (fun p _ => sm_le_one hinj) ?_
    rw [sm_swap (fun p i => if rr i = p then 1 else 0)]
    rw [sm_congr (g := fun _ => 1) (fun i hi => sm_one (hlt i hi))]
    exact sm_ones n
  have e1 : sm (fun i => h (rr i)) n = sm (fun i => sm (fun p => if rr i = p then h p else 0) n) n := by
    refine sm_congr (fun i hi => ?_)
    rw [sm_congr (g := fun p => if rr i = p then h (rr i) else 0) (fun p _ => ?_)]
    · exact (sm_one (hlt i hi)).symm
    · by_cases q : rr i = p
      · rw [if_pos q, if_pos q, q]
      · rw [if_neg q, if_neg q]
  rw [e1, sm_swap (fun i p => if rr i = p then h p else 0)]
  refine sm_congr (fun p hp => ?_)
  rw [sm_mul, one p hp, Nat.one_mul]
theorem sm_tri {g : Nat → Nat → Nat} {n : Nat} (hs : ∀ i j, i < n → j < n → g i j = g j i) (hd : ∀ i, i < n → g i i = 0) : sm (fun i => sm (fun j => g i j) n) n = 2 * sm (fun i => sm (fun j => if i < j then g i j else 0) n) n ∧ sm (fun i => sm (fun j => g i j) n) n = 2 * sm (fun i => sm (fun j => if j < i then g i j else 0) n) n := by
  have e1 : sm (fun i => sm (fun j => g i j) n) n = sm (fun i => sm (fun j => if i < j then g i j else 0) n) n + sm (fun i => sm (fun j => if j < i then g i j else 0) n) n := by
    rw [← sm_add]
    refine sm_congr (fun i hi => ?_)
    rw [← sm_add]
    refine sm_congr (fun j hj => ?_)
    rcases Nat.lt_trichotomy i j with q | q | q
    · rw [if_pos q, if_neg (by omega), Nat.add_zero]
    · subst q
      rw [if_neg (Nat.lt_irrefl i), hd i hi]
    · rw [if_neg (by omega), if_pos q, Nat.zero_add]
  have e2 : sm (fun i => sm (fun j => if i < j then g i j else 0) n) n = sm (fun i => sm (fun j => if j < i then g i j else 0) n) n := by
    rw [sm_swap (fun i j => if i < j then g i j else 0)]
    refine sm_congr (fun i hi => sm_congr (fun j hj => ?_))
    by_cases q : j < i
    · rw [if_pos q, if_pos q, hs j i hj hi]
    · rw [if_neg q, if_neg q]
  omega
def dbB (tm : Nat → Int) (cm : Nat → Nat) (m3 : Nat → Int32) (p q : Nat) : Bool := decide (¬ cm p = cm q ∧ mkN m3 p = mkN m3 q ∧ ¬ mkN m3 p = 0 ∧ abD (tm p) (tm q) ≤ 5)
def dbN (tm : Nat → Int) (cm : Nat → Nat) (m3 : Nat → Int32) (p q : Nat) : Nat := cond (dbB tm cm m3 p q) 1 0
theorem dbN_sym (tm : Nat → Int) (cm : Nat → Nat) (m3 : Nat → Int32) (p q : Nat) : dbN tm cm m3 p q = dbN tm cm m3 q p := by
  have k : ∀ p q, (¬ cm p = cm q ∧ mkN m3 p = mkN m3 q ∧ ¬ mkN m3 p = 0 ∧ abD (tm p) (tm q) ≤ 5) → (¬ cm q = cm p ∧ mkN m3 q = mkN m3 p ∧ ¬ mkN m3 q = 0 ∧ abD (tm q) (tm p) ≤ 5) := by
    intro p q h
    refine ⟨fun e => h.1 e.symm, h.2.1.symm, fun e => h.2.2.1 (h.2.1.trans e), ?_⟩
    rw [abD_sym]
    exact h.2.2.2
  unfold dbN dbB
  rw [decide_eq_decide.mpr ⟨k p q, k q p⟩]
theorem dbN_0 {tm : Nat → Int} {cm : Nat → Nat} {m3 : Nat → Int32} {p q : Nat} (h : ¬ (¬ cm p = cm q ∧ mkN m3 p = mkN m3 q ∧ ¬ mkN m3 p = 0 ∧ abD (tm p) (tm q) ≤ 5)) : dbN tm cm m3 p q = 0 := by
  unfold dbN dbB
  rw [decide_eq_false h]
  rfl
theorem dbN_1 {tm : Nat → Int} {cm : Nat → Nat} {m3 : Nat → Int32} {p q : Nat} (h : ¬ cm p = cm q ∧ mkN m3 p = mkN m3 q ∧ ¬ mkN m3 p = 0 ∧ abD (tm p) (tm q) ≤ 5) : dbN tm cm m3 p q = 1 := by
  unfold dbN dbB
  rw [decide_eq_true h]
  rfl
theorem db_same {tm : Nat → Int} {cm : Nat → Nat} {m3 : Nat → Int32} {rr : Nat → Nat} {n : Nat} (hlt : ∀ i, i < n → rr i < n) (hinj : ∀ i j, i < n → j < n → rr i = rr j → i = j) : sm (fun i => sm (fun j => if i < j then dbN tm cm m3 (rr i) (rr j) else 0) n) n = sm (fun a => sm (fun b => if b < a then dbN tm cm m3 a b else 0) n) n := by
  have t1 := (sm_tri (g := fun i j => dbN tm cm m3 (rr i) (rr j)) (n := n) (fun i j _ _ => dbN_sym _ _ _ _ _) (fun i _ => dbN_0 (fun h => h.1 rfl))).1
  have t2 := (sm_tri (g := fun a b => dbN tm cm m3 a b) (n := n) (fun i j _ _ => dbN_sym _ _ _ _ _) (fun i _ => dbN_0 (fun h => h.1 rfl))).2
  have e : sm (fun i => sm (fun j => dbN tm cm m3 (rr i) (rr j)) n) n = sm (fun a => sm (fun b => dbN tm cm m3 a b) n) n := by
    rw [sm_congr (g := fun i => sm (fun b => dbN tm cm m3 (rr i) b) n) (fun i _ => sm_perm hlt hinj (fun b => dbN tm cm m3 (rr i) b))]
    exact sm_perm hlt hinj (fun a => sm (fun b => dbN tm cm m3 a b) n)
  omega
section DBL
variable {nc np n : Nat} {σ : St} {nr npc : Nat} {o : Nat → Int} {rr : Nat → Nat} {tm : Nat → Int} {cm : Nat → Nat} {x12 x13 x14 m1 m2 m3 m4 m0 m16 m17 : Nat → Int32} {post : Int32 → St → Prop}
theorem x_alike (h6 : RPic nc np n m1 m2 m3 m4 m0) (hnc : nc ≤ 8) (hn : n ≤ 120) (hrn : nr ≤ n) (hnpc : npc ≤ 8) (hP : PutD nr npc o rr tm cm x12 x13 x14 m1 m2 m16 m17) (e0 : σ.2 0 = m1) (e2 : σ.2 2 = m3) {p q : Nat} (hp : p < nr) (hq : q < nr) (hy : (¬ cm p = cm q ∧ mkN m3 p = mkN m3 q ∧ ¬ mkN m3 p = 0) → post 1 σ) (hz : ¬ (¬ cm p = cm q ∧ mkN m3 p = mkN m3 q ∧ ¬ mkN m3 p = 0) → post 0 σ) : w_X4_isAlike σ (nI p) (nI q) post := by
  have ip : vp_in (nI p) 120 := vp_in_nI (by omega) (by omega)
  have iq : vp_in (nI q) 120 := vp_in_nI (by omega) (by omega)
  obtain ⟨c1, c2, -⟩ := hP.2.1 p hp
  obtain ⟨d1, d2, -⟩ := hP.2.1 q hq
  obtain ⟨-, -, f1, f2⟩ := pic_fn h6 hnc (show p < n by omega)
  obtain ⟨-, -, g1, g2⟩ := pic_fn h6 hnc (show q < n by omega)
  have k1 : m1 p = m1 q ↔ cm p = cm q := by rw [c2, d2]; exact nI_eq (by omega) (by omega)
  have k2 : m3 p = m3 q ↔ mkN m3 p = mkN m3 q := ⟨fun e => by unfold mkN; rw [e], fun e => by rw [f2, g2, e]⟩
  have k3 : m3 p = 0 ↔ mkN m3 p = 0 := by
    rw [← nI_0]
    refine ⟨fun e => ?_, fun e => ?_⟩
    · rw [f2] at e
      exact (nI_eq (by omega) (by omega)).mp e
    · rw [f2, e]
  unfold w_X4_isAlike
  rw [nI_clamp (show p < 2 ^ 31 by omega), nI_clamp (show q < 2 ^ 31 by omega), e0, e2, k1, k2, k3]
  exact ⟨ip, iq, fun a => hz (fun h => h.1 a), fun a => ⟨ip, iq, fun b => hz (fun h => b h.2.1), fun b => ⟨ip, fun d => hz (fun h => h.2.2 d), fun d => hy ⟨a, b, d⟩⟩⟩⟩
theorem x_dbl17 (h6 : RPic nc np n m1 m2 m3 m4 m0) (hnc : nc ≤ 8) (hn : n ≤ 120) (hrn : nr ≤ n) (hnpc : npc ≤ 8) (hP : PutD nr npc o rr tm cm x12 (σ.2 13) (σ.2 14) m1 m2 m16 m17) (e0 : σ.2 0 = m1) (e2 : σ.2 2 = m3) (hs : σ.1 9 = nI nr) {i A : Nat} (hi : i < nr) {K : Int32 → Int32 → St → Prop} (hK : ∀ x, K (nI (A + sm (fun j => if i < j then dbN tm cm m3 (rr i) (rr j) else 0) nr)) x σ) : ∀ (d k : Nat), k + d = nr → i < k → w_X4_doubleTally_L17 (nI i) post K (d + 1) (nI (A + sm (fun j => if i < j then dbN tm cm m3 (rr i) (rr j) else 0) k)) (nI k) σ := by
  intro d
  induction d with
  | zero =>
    intro k hk hik
    have e : k = nr := by omega
    subst e
    unfold w_X4_doubleTally_L17
    rw [hs]
    exact ⟨fun _ => hK _, fun q => absurd (nI_le (Nat.le_refl k) (by omega)) q⟩
  | succ d ih =>
    intro k hk hik
    have hkn : k < nr := by omega
    have hg := ih (k + 1) (by omega) (by omega)
    have e : sm (fun j => if i < j then dbN tm cm m3 (rr i) (rr j) else 0) (k + 1) = sm (fun j => if i < j then dbN tm cm m3 (rr i) (rr j) else 0) k + dbN tm cm m3 (rr i) (rr k) := by
      show sm _ k + (if i < k then dbN tm cm m3 (rr i) (rr k) else 0) = _
      rw [if_pos hik]
    rw [e, ← Nat.add_assoc] at hg
    obtain ⟨a1, a2, -⟩ := hP.2.2.1 i hi
    obtain ⟨d1, d2, -⟩ := hP.2.2.1 k hkn
    have t1 := tm_bd hP a1
    have t2 := tm_bd hP d1
    have st := hP.2.2.2.2 i k hik hkn
    unfold w_X4_doubleTally_L17
    rw [hs]
    refine ⟨fun q => absurd q (nI_ge hkn (by omega)), fun _ => x_minutes hP (by omega) hi hkn ?_⟩
    have k5 : (5 : Int32) < iI (tm (rr k) - tm (rr i)) ↔ 5 < tm (rr k) - tm (rr i) := by
      rw [show (5 : Int32) = iI 5 from rfl]
      exact iI_lt (by omega) (by omega) (by omega) (by omega)
    rw [k5, nI_clamp (show i < 2 ^ 31 by omega), nI_clamp (show k < 2 ^ 31 by omega), a2, d2, nI_1, nI_1]
    refine ⟨fun z => ?_, fun z => ⟨vp_in_nI (by omega) (by omega), vp_in_nI (by omega) (by omega), ?_⟩⟩
    · have hK2 := hK (nI k)
      rw [sm_ext (show k ≤ nr by omega) (fun j h1 h2 => ?_)] at hK2
      · exact hK2
      · show (if i < j then dbN tm cm m3 (rr i) (rr j) else 0) = 0
        rw [if_pos (by omega)]
        refine dbN_0 (fun h => ?_)
        have h5 := h.2.2.2
        unfold abD at h5
        have s2 : tm (rr k) ≤ tm (rr j) := by
          by_cases q : k = j
          · rw [q]
            exact Int.le_refl _
          · exact hP.2.2.2.2 k j (by omega) h2
        rw [if_neg (by omega)] at h5
        omega
    · have ab : abD (tm (rr i)) (tm (rr k)) ≤ 5 := by
        unfold abD
        split <;> omega
      refine x_alike h6 hnc hn hrn hnpc hP e0 e2 a1 d1 (fun y => ⟨fun w => absurd w (by decide), fun _ => ?_⟩) (fun y => ⟨fun _ => ?_, fun w => absurd rfl w⟩)
      · rw [dbN_1 ⟨y.1, y.2.1, y.2.2, ab⟩] at hg
        exact hg
      · rw [dbN_0 (fun w => y ⟨w.1, w.2.1, w.2.2.1⟩)] at hg
        exact hg
theorem x_dbl (h6 : RPic nc np n m1 m2 m3 m4 m0) (hnc : nc ≤ 8) (hn : n ≤ 120) (hrn : nr ≤ n) (hnpc : npc ≤ 8) (hP : PutD nr npc o rr tm cm x12 (σ.2 13) (σ.2 14) m1 m2 m16 m17) (e0 : σ.2 0 = m1) (e2 : σ.2 2 = m3) (hs : σ.1 9 = nI nr) (hh : post (nI (sm (fun i => sm (fun j => if i < j then dbN tm cm m3 (rr i) (rr j) else 0) nr) nr)) σ) : w_X4_doubleTally σ post := by
  unfold w_X4_doubleTally
  have O : ∀ (d i : Nat), i + d = nr → w_X4_doubleTally_L4 post (fun x2 _ s => post x2 s) (d + 1) (nI (sm (fun i => sm (fun j => if i < j then dbN tm cm m3 (rr i) (rr j) else 0) nr) i)) (nI i) σ := by
    intro d
    induction d with
    | zero =>
      intro i hi
      have e : i = nr := by omega
      subst e
      unfold w_X4_doubleTally_L4
      rw [hs]
      exact ⟨fun _ => hh, fun q => absurd (nI_le (Nat.le_refl i) (by omega)) q⟩
    | succ d ih =>
      intro i hi
      have hg := ih (i + 1) (by omega)
      unfold w_X4_doubleTally_L4
      rw [hs]
      refine ⟨fun q => absurd q (nI_ge (by omega) (by omega)), fun _ => ⟨d + 1, ?_⟩⟩
      rw [nI_1]
      have g := x_dbl17 (post := post) (i := i) (A := sm (fun i => sm (fun j => if i < j then dbN tm cm m3 (rr i) (rr j) else 0) nr) i) (K := fun x2 _ s => w_X4_doubleTally_L4 post (fun x2 _ s => post x2 s) (d + 1) x2 (nI (i + 1)) s) h6 hnc hn hrn hnpc hP e0 e2 hs (by omega) (fun _ => hg) d (i + 1) (by omega) (by omega)
      rw [sm_zero (f := fun j => if i < j then dbN tm cm m3 (rr i) (rr j) else 0) (n := i + 1) (fun j hj => if_neg (by omega))] at g
      exact g
  exact ⟨nr + 1, O nr 0 (by omega)⟩
theorem m_dbl29 (h6 : RPic nc np n (σ.2 1) m2 m3 m4 m0) (hnc : nc ≤ 8) (hn : n ≤ 120) (hrn : nr ≤ n) (hnpc : npc ≤ 8) (hP : PutD nr npc o rr tm cm x12 x13 x14 (σ.2 1) (σ.2 2) (σ.2 16) (σ.2 17)) (e3 : σ.2 3 = m3) {a A : Nat} (ha : a < nr) {K : Int32 → Int32 → St → Prop} (hK : ∀ x, K (nI (A + sm (fun b => if b < a then dbN tm cm m3 a b else 0) nr)) x σ) : ∀ (d b : Nat), b + d = a → w_X6_doubles_L29 (nI a) post K (d + 1) (nI (A + sm (fun b => if b < a then dbN tm cm m3 a b else 0) b)) (nI b) σ := by
  intro d
  induction d with
  | zero =>
    intro b hb
    have e : b = a := by omega
    subst e
    unfold w_X6_doubles_L29
    refine ⟨fun _ => ?_, fun q => absurd (nI_le (Nat.le_refl b) (by omega)) q⟩
    have hK2 := hK (nI b)
    rw [sm_ext (show b ≤ nr by omega) (fun i h1 _ => if_neg (by omega))] at hK2
    exact hK2
  | succ d ih =>
    intro b hb
    have hba : b < a := by omega
    have hg := ih (b + 1) (by omega)
    have e : sm (fun b => if b < a then dbN tm cm m3 a b else 0) (b + 1) = sm (fun b => if b < a then dbN tm cm m3 a b else 0) b + dbN tm cm m3 a b := by
      show sm _ b + (if b < a then dbN tm cm m3 a b else 0) = _
      rw [if_pos hba]
    rw [e, ← Nat.add_assoc] at hg
    have ia : vp_in (nI a) 120 := vp_in_nI (by omega) (by omega)
    have ib : vp_in (nI b) 120 := vp_in_nI (by omega) (by omega)
    obtain ⟨c1, c2, -⟩ := hP.2.1 a ha
    obtain ⟨d1, d2, -⟩ := hP.2.1 b (by omega)
    obtain ⟨-, -, f1, f2⟩ := pic_fn h6 hnc (show a < n by omega)
    obtain ⟨-, -, g1, g2⟩ := pic_fn h6 hnc (show b < n by omega)
    have k1 : (σ.2 1) a = (σ.2 1) b ↔ cm a = cm b := by rw [c2, d2]; exact nI_eq (by omega) (by omega)
    have k2 : m3 a = m3 b ↔ mkN m3 a = mkN m3 b := ⟨fun e => by unfold mkN; rw [e], fun e => by rw [f2, g2, e]⟩
    have k3 : m3 a = 0 ↔ mkN m3 a = 0 := by
      rw [← nI_0]
      refine ⟨fun e => ?_, fun e => ?_⟩
      · rw [f2] at e
        exact (nI_eq (by omega) (by omega)).mp e
      · rw [f2, e]
    have t1 := tm_bd hP ha
    have t2 := tm_bd hP (show b < nr by omega)
    have zz : ¬ (¬ cm a = cm b ∧ mkN m3 a = mkN m3 b ∧ ¬ mkN m3 a = 0 ∧ abD (tm a) (tm b) ≤ 5) → w_X6_doubles_L29 (nI a) post K (d + 1) (nI (A + sm (fun b => if b < a then dbN tm cm m3 a b else 0) b)) (nI (b + 1)) σ := by
      intro h
      rw [dbN_0 h] at hg
      exact hg
    unfold w_X6_doubles_L29
    rw [nI_clamp (show a < 2 ^ 31 by omega), nI_clamp (show b < 2 ^ 31 by omega), e3, k1, k2, k3, nI_z, nI_1, nI_1]
    refine ⟨fun q => absurd q (nI_ge hba (by omega)), fun _ => ⟨ia, ib, fun y1 => zz (fun h => h.1 y1), fun y1 => ⟨ia, fun y2 => zz (fun h => h.2.2.1 y2), fun y2 => ⟨ia, ib, fun y3 => zz (fun h => y3 h.2.1), fun y3 => ?_⟩⟩⟩⟩
    refine s_timeOf hP (by omega) hnpc ha (s_timeOf hP (by omega) hnpc (by omega) ?_)
    have ab : (0 : Int) ≤ abD (tm a) (tm b) ∧ abD (tm a) (tm b) ≤ 1000000 := by
      unfold abD
      split <;> omega
    have k5 : (5 : Int32) < iI (abD (tm a) (tm b)) ↔ 5 < abD (tm a) (tm b) := by
      rw [show (5 : Int32) = iI 5 from rfl]
      exact iI_lt (by omega) (by omega) (by omega) (by omega)
    rw [absI (by omega) (by omega), k5]
    refine ⟨fun y4 => zz (fun h => ?_), fun y4 => ?_⟩
    · have := h.2.2.2
      omega
    · rw [dbN_1 ⟨y1, y3, y2, by omega⟩] at hg
      exact hg
theorem m_dbl (h6 : RPic nc np n (σ.2 1) m2 m3 m4 m0) (hnc : nc ≤ 8) (hn : n ≤ 120) (hrn : nr ≤ n) (hnpc : npc ≤ 8) (hP : PutD nr npc o rr tm cm x12 x13 x14 (σ.2 1) (σ.2 2) (σ.2 16) (σ.2 17)) (e3 : σ.2 3 = m3) (hs : σ.1 9 = nI nr) {K : Int32 → Int32 → St → Prop} (hK : K (nI (sm (fun a => sm (fun b => if b < a then dbN tm cm m3 a b else 0) nr) nr)) (nI nr) σ) : ∀ (d a : Nat), a + d = nr → w_X6_doubles_L19 post K (d + 1) (nI (sm (fun a => sm (fun b => if b < a then dbN tm cm m3 a b else 0) nr) a)) (nI a) σ := by
  intro d
  induction d with
  | zero =>
    intro a ha
    have e : a = nr := by omega
    subst e
    unfold w_X6_doubles_L19
    rw [hs]
    exact ⟨fun _ => hK, fun q => absurd (nI_le (Nat.le_refl a) (by omega)) q⟩
  | succ d ih =>
    intro a ha
    have hg := ih (a + 1) (by omega)
    unfold w_X6_doubles_L19
    rw [hs]
    refine ⟨fun q => absurd q (nI_ge (by omega) (by omega)), fun _ => ⟨a + 1, ?_⟩⟩
    have g := m_dbl29 (post := post) (a := a) (A := sm (fun a => sm (fun b => if b < a then dbN tm cm m3 a b else 0) nr) a) (K := fun x1 _ s => w_X6_doubles_L19 post K (d + 1) x1 (nI a + 1) s) h6 hnc hn hrn hnpc hP e3 (by omega) (fun _ => by rw [nI_1]; exact hg) a 0 (by omega)
    exact g
end DBL
theorem st_doubles (j : Nat) (σx σm : St) (hj : j < 512) (h : Rel j σx σm) : w_X5_doubles σx (fun r u => w_X6_doubles σm (fun r2 u2 => r = r2 ∧ Rel (j + 1) u u2)) := by
  have h0 := h.z 0
  obtain ⟨nc, np, n, nt, ne, ⟨b1, b2, b3, b4, b5⟩, hx, hm, h4, h5, h6, h7, h8⟩ := h
  unfold w_X5_doubles w_X6_doubles
  rcases h8 with ⟨e0, e1, -, e2, -⟩ | ⟨nr, npc, o, rr, tm, cm, r1, r2, e0, e1, -, e2, e3, hP⟩
  · rw [e0, e2]
    exact ⟨fun _ => ⟨fun z => absurd rfl z, fun _ => ⟨rfl, h0⟩⟩, fun z => absurd rfl z⟩
  · rw [e0, e2]
    refine ⟨fun z => absurd z (by decide), fun _ => x_dbl h6 b1 b3 r1 (by omega) hP h5.1 h5.2.2.1 e1 ⟨fun _ => ⟨nr + 1, ?_⟩, fun z => absurd z (nI_m1 (by omega))⟩⟩
    rw [db_same (fun i hi => (hP.2.2.1 i hi).1) hP.2.2.2.1]
    exact m_dbl (σ := (va_up σm.1 0 0, σm.2)) (K := fun x1 _ s => nI (sm (fun a => sm (fun b => if b < a then dbN tm cm (σm.2 3) a b else 0) nr) nr) = x1 ∧ Rel (j + 1) σx s) h6 b1 b3 r1 (by omega) hP rfl e2 ⟨rfl, h0⟩ nr 0 (by omega)
