/-! the class's Offsets: limits are the matrix turned about -/
theorem fst0_sym (a b : Nat) : fst0 a b = fst0 b a := by
  unfold fst0
  by_cases h : a = b
  · subst h; rfl
  · have h2 : ¬ b = a := fun e => h e.symm
    rw [if_neg h, if_neg h2]
    by_cases q : a = 0 ∨ b = 0
    · have q2 : b = 0 ∨ a = 0 := q.symm
      rw [if_pos q, if_pos q2]
    · have q2 : ¬ (b = 0 ∨ a = 0) := fun e => q e.symm
      rw [if_neg q, if_neg q2]
theorem s_loosen_L10 {post : (Nat → Int32) → Prop} {K : Int32 → (Nat → Int32) → Prop} {a : Nat} (ha : a < 8) : ∀ (d j : Nat) (s : Nat → Int32), j + d = 8 → (∀ i c, i < 8 → c < 8 → (i < a ∨ (i = a ∧ c < j)) → s (8 * i + c) = iI (fst0 i c)) → (∀ s', (∀ i c, i < 8 → c < 8 → i < a + 1 → s' (8 * i + c) = iI (fst0 i c)) → K (nI 8) s') → w_X2_loosen_L10 (nI a) post K (d + 1) (nI j) s := by
  intro d
  induction d with
  | zero =>
    intro j s hj h hK
    have e : j = 8 := by omega
    subst e
    unfold w_X2_loosen_L10
    exact ⟨fun _ => hK s (fun i c hi hc q => h i c hi hc (by omega)), fun q => absurd ((le8 8 (by omega)).mpr (Nat.le_refl 8)) q⟩
  | succ d ih =>
    intro j s hj h hK
    have hj8 : j < 8 := by omega
    have go : ∀ z : Int32, z * 200000 = iI (fst0 a j) → w_X2_loosen_J38 post (fun x2 u => w_X2_loosen_L10 (nI a) post K (d + 1) x2 u) (nI a) (nI j) z s := by
      intro z hz
      unfold w_X2_loosen_J38
      refine ⟨ix8_in' ha hj8, ?_⟩
      rw [ix8_c' ha hj8, nI_1, hz]
      refine ih (j + 1) _ (by omega) (fun i c hi hc q => ?_) hK
      by_cases q2 : i = a ∧ c = j
      · rw [q2.1, q2.2]
        exact pk_us
      · rw [pk_un (fun e => q2 (by omega))]
        exact h i c hi hc (by omega)
    unfold w_X2_loosen_L10
    refine ⟨fun q => absurd ((le8 j (by omega)).mp q) (by omega), fun _ => ⟨fun n1 => ⟨fun e => ?_, fun n2 => ⟨fun n3 => ?_, fun e => ?_⟩⟩, fun e => ?_⟩⟩
    · unfold w_X2_loosen_J33
      refine go _ ?_
      have e1 : a = 0 := (nI_eq (by omega) (by omega)).mp (e.trans nI_0.symm)
      have e2 : a ≠ j := fun q => n1 (by rw [q])
      subst e1
      have e3 : ¬ 0 = j := e2
      simp only [fst0, e3, if_false, true_or, if_true]
      rfl
    · refine go _ ?_
      have e1 : a ≠ 0 := fun q => n2 (by rw [q]; rfl)
      have e2 : a ≠ j := fun q => n1 (by rw [q])
      have e3 : j ≠ 0 := fun q => n3 (by rw [q]; rfl)
      simp only [fst0, e1, e2, e3, if_false, or_self]
      rfl
    · unfold w_X2_loosen_J33
      refine go _ ?_
      have e1 : j = 0 := (nI_eq (by omega) (by omega)).mp (e.trans nI_0.symm)
      have e2 : a ≠ j := fun q => n1 (by rw [q])
      subst e1
      simp only [fst0, e2, if_false, or_true, if_true]
      rfl
    · refine go _ ?_
      have e1 : a = j := (nI_eq (by omega) (by omega)).mp e
      subst e1
      simp only [fst0, if_true]
      rfl
theorem s_loosen {post : (Nat → Int32) → Prop} {f : Nat → Int32} (hp : ∀ f', RM f' (neg fst0) → post f') : w_X2_loosen f post := by
  have L : ∀ (d a : Nat) (s : Nat → Int32), a + d = 8 → (∀ i c, i < 8 → c < 8 → i < a → s (8 * i + c) = iI (fst0 i c)) → w_X2_loosen_L2 post (fun _ s => post s) (d + 1) (nI a) s := by
    intro d
    induction d with
    | zero =>
      intro a s ha h
      have e : a = 8 := by omega
      subst e
      unfold w_X2_loosen_L2
      exact ⟨fun _ => hp s (fun i c hi hc => by rw [h i c hi hc hi]; show iI (fst0 i c) = iI (fst0 c i); rw [fst0_sym]), fun q => absurd ((le8 8 (by omega)).mpr (Nat.le_refl 8)) q⟩
    | succ d ih =>
      intro a s ha h
      unfold w_X2_loosen_L2
      refine ⟨fun q => absurd ((le8 a (by omega)).mp q) (by omega), fun _ => ⟨9, ?_⟩⟩
      refine s_loosen_L10 (by omega) 8 0 s (by omega) (fun i c hi hc q => h i c hi hc (by omega)) (fun s' h' => ?_)
      rw [nI_1]
      exact ih (a + 1) s' (by omega) h'
  unfold w_X2_loosen
  exact ⟨9, L 8 0 f (by omega) (fun i c _ _ q => absurd q (Nat.not_lt_zero i))⟩
def mixL (i o : Nat) (w : Int) (S : Mat) (a j : Nat) : Mat := fun x c => if x < a ∨ (x = a ∧ c < j) then low i o w S x c else S x c
theorem s_lower_L29 {post : (Nat → Int32) → Prop} {K : Int32 → (Nat → Int32) → Prop} {i o a : Nat} {w : Int} {S : Mat} {x3 : Int32} (hi : i < 8) (ho : o < 8) (ha : a < 8) (hC : Closed S) (hw : 0 ≤ w + S o i) (hB : Bd 400000 S) (hwb : -1000000 ≤ w ∧ w ≤ 1000000) : ∀ (d j : Nat) (f : Nat → Int32), j + d = 8 → RM f (mixL i o w S a j) → (∀ f', RM f' (mixL i o w S a 8) → K (nI 8) f') → w_X2_lower_L29 (nI i) (nI o) x3 (nI a) (iI (S a i + w)) post K (d + 1) (nI j) f := by
  intro d
  induction d with
  | zero =>
    intro j f hj h hK
    have e : j = 8 := by omega
    subst e
    unfold w_X2_lower_L29
    exact ⟨fun _ => hK f h, fun q => absurd ((le8 8 (by omega)).mpr (Nat.le_refl 8)) q⟩
  | succ d ih =>
    intro j f hj h hK
    have hj8 : j < 8 := by omega
    have row : mixL i o w S a j o j = S o j := by
      unfold mixL
      split
      · exact low_row hC hi ho hw hj8
      · rfl
    have own : mixL i o w S a j a j = S a j := by
      unfold mixL
      rw [if_neg (by omega)]
    have b1 := hB a i ha hi
    have b2 := hB o j ho hj8
    have b3 := hB a j ha hj8
    have nextM : ∀ y : Int, y = low i o w S a j → ∀ x c, x < 8 → c < 8 → updM (mixL i o w S a j) a j y x c = mixL i o w S a (j + 1) x c := by
      intro y hy x c hx hc
      unfold updM
      by_cases q : x = a ∧ c = j
      · rw [if_pos q, hy, q.1, q.2]
        unfold mixL
        rw [if_pos (by omega)]
      · rw [if_neg q]
        unfold mixL
        by_cases q2 : x < a ∨ (x = a ∧ c < j)
        · rw [if_pos q2, if_pos (by omega)]
        · rw [if_neg q2, if_neg (by omega)]
    unfold w_X2_lower_L29
    refine ⟨fun q => absurd ((le8 j (by omega)).mp q) (by omega), fun _ => ⟨ix8_in' ho hj8, ix8_in' ha hj8, ?_⟩⟩
    rw [ix8_c' ho hj8, ix8_c' ha hj8, h o j ho hj8, h a j ha hj8, row, own, iI_add]
    refine ⟨fun q => ?_, fun q => ⟨ix8_in' ha hj8, ?_⟩⟩
    · have q2 := (iI_le (by omega) (by omega) (by omega) (by omega)).mp q
      rw [nI_1]
      refine ih (j + 1) f (by omega) (h.congr (fun x c hx hc => ?_)) hK
      rw [← nextM (S a j) (by show S a j = min (S a j) (S a i + w + S o j); omega) x c hx hc]
      unfold updM
      by_cases q3 : x = a ∧ c = j
      · rw [if_pos q3, q3.1, q3.2, own]
      · rw [if_neg q3]
    · have q2 : ¬ S a j ≤ S a i + w + S o j := fun z => q ((iI_le (by omega) (by omega) (by omega) (by omega)).mpr z)
      rw [nI_1]
      refine ih (j + 1) _ (by omega) ((h.upd ha hj8 _).congr (nextM _ ?_)) hK
      show S a i + w + S o j = min (S a j) (S a i + w + S o j)
      omega
theorem s_lower {post : (Nat → Int32) → Prop} {f : Nat → Int32} {i o : Nat} {w : Int} {S : Mat} (h : RM f S) (hi : i < 8) (ho : o < 8) (hC : Closed S) (hw : 0 ≤ w + S o i) (hB : Bd 400000 S) (hwb : -1000000 ≤ w ∧ w ≤ 1000000) (hp : ∀ f', RM f' (low i o w S) → post f') : w_X2_lower f (nI i) (nI o) (iI w) post := by
  have L : ∀ (d a : Nat) (s : Nat → Int32), a + d = 8 → RM s (mixL i o w S a 0) → w_X2_lower_L3 (nI i) (nI o) (iI w) post (fun _ s => post s) (d + 1) (nI a) s := by
    intro d
    induction d with
    | zero =>
      intro a s ha hs
      have e : a = 8 := by omega
      subst e
      unfold w_X2_lower_L3
      refine ⟨fun _ => hp s (hs.congr (fun x c hx hc => ?_)), fun q => absurd ((le8 8 (by omega)).mpr (Nat.le_refl 8)) q⟩
      unfold mixL
      rw [if_pos (by omega)]
    | succ d ih =>
      intro a s ha hs
      have ha8 : a < 8 := by omega
      have col : mixL i o w S a 0 a i = S a i := by
        unfold mixL
        rw [if_neg (by omega)]
      unfold w_X2_lower_L3
      refine ⟨fun q => absurd ((le8 a (by omega)).mp q) (by omega), fun _ => ⟨ix8_in' ha8 hi, 9, ?_⟩⟩
      rw [ix8_c' ha8 hi, hs a i ha8 hi, col, iI_add]
      refine s_lower_L29 hi ho ha8 hC hw hB hwb 8 0 s (by omega) hs (fun s' h' => ?_)
      rw [nI_1]
      refine ih (a + 1) s' (by omega) (h'.congr (fun x c hx hc => ?_))
      unfold mixL
      by_cases q : x < a ∨ (x = a ∧ c < 8)
      · rw [if_pos q, if_pos (by omega)]
      · rw [if_neg q, if_neg (by omega)]
  unfold w_X2_lower
  refine ⟨9, L 8 0 f (by omega) (h.congr (fun x c hx hc => ?_))⟩
  unfold mixL
  rw [if_neg (by omega)]
/-- a tie of the class: the other's offset is lo .. hi above the one's -/
def TieX (E : Edg) (one other : Nat) (lo hi : Int) : Edg := Add (Add E other one hi) one other (-lo)
theorem neg_low (i j : Nat) (w : Int) (T : Mat) (a b : Nat) : low i j w (neg T) a b = neg (low j i w T) a b := by
  show min (T b a) (T i a + w + T b j) = min (T b a) (T b j + w + T i a)
  omega
theorem s_tighten {post : (Nat → Int32) → Prop} {f : Nat → Int32} {E : Edg} {T : Mat} {one other : Nat} {lo hi : Int} (h : RM f (neg T)) (hT : Tight E T) (h1 : one < 8) (h2 : other < 8) (hlh : lo ≤ hi) (hb : -1000000 ≤ lo ∧ hi ≤ 1000000 ∧ -1000000 ≤ hi ∧ lo ≤ 1000000) (ha1 : 0 ≤ hi + T one other) (ha2 : 0 ≤ T other one - lo)
    (hp : ∀ f' U, RM f' (neg U) → Tight (TieX E one other lo hi) U → post f') : w_X2_tighten f (nI one) (nI other) (iI lo) (iI hi) post := by
  unfold w_X2_tighten
  have hB : ∀ {F : Edg} {U : Mat}, Tight F U → Bd 400000 (neg U) := fun hU a b ha hb => tight_bd hU hb ha
  have t1 := low_tight (w := hi) hT h2 h1 (by omega)
  have hC := tight_closed hT
  refine s_lower h h1 h2 (tight_closed (tight_neg hT)) ha1 (hB hT) (by omega) (fun f1 g1 => ?_)
  have g2 : RM f1 (neg (low other one hi T)) := g1.congr (fun a b _ _ => neg_low one other hi T a b)
  have k1 : 0 ≤ -lo + low other one hi T other one := by
    show 0 ≤ -lo + min (T other one) (T other other + hi + T one one)
    have := hC.1 one h1
    have := hC.1 other h2
    omega
  rw [iI_neg]
  refine s_lower g2 h2 h1 (tight_closed (tight_neg t1)) k1 (hB t1) (by omega) (fun f2 g3 => ?_)
  exact hp f2 _ (g3.congr (fun a b _ _ => neg_low other one (-lo) _ a b)) (low_tight t1 h1 h2 k1)
theorem s_admits {post : Int32 → (Nat → Int32) → Prop} {f : Nat → Int32} {E : Edg} {T : Mat} {one other : Nat} {lo hi : Int} (h : RM f (neg T)) (hT : Tight E T) (h1 : one < 8) (h2 : other < 8) (hb : -1000000 ≤ lo ∧ hi ≤ 1000000 ∧ -1000000 ≤ hi ∧ lo ≤ 1000000)
    (hn : hi + T one other < 0 ∨ T other one - lo < 0 → post 0 f) (hy : 0 ≤ hi + T one other → 0 ≤ T other one - lo → post 1 f) : w_X2_admits f (nI one) (nI other) (iI lo) (iI hi) post := by
  have b1 := tight_bd hT h1 h2
  have b2 := tight_bd hT h2 h1
  unfold w_X2_admits w_X2_least w_X2_most
  rw [ix8_c' h2 h1, h other one h2 h1, iI_neg]
  refine ⟨ix8_in' h2 h1, ?_, ?_⟩
  · intro q
    have q2 : hi < - neg T other one := (iI_lt (by omega) (by omega) (by show -2147483648 ≤ - T one other; omega) (by show - T one other < 2147483648; omega)).mp q
    have q3 : hi < - T one other := q2
    exact hn (Or.inl (by omega))
  · intro q
    have q2 : ¬ hi < - T one other := fun z => q ((iI_lt (by omega) (by omega) (by show -2147483648 ≤ - T one other; omega) (by show - T one other < 2147483648; omega)).mpr z)
    rw [ix8_c' h1 h2, h one other h1 h2, show neg T one other = T other one from rfl]
    refine ⟨ix8_in' h1 h2, ?_, ?_⟩
    · intro r
      have r2 : T other one < lo := (iI_lt (by omega) (by omega) (by omega) (by omega)).mp r
      exact hn (Or.inr (by omega))
    · intro r
      have r2 : ¬ T other one < lo := fun z => r ((iI_lt (by omega) (by omega) (by omega) (by omega)).mpr z)
      exact hy (by omega) (by omega)
theorem s_sameAs {post : Int32 → ((Nat → Int32) × (Nat → Int32)) → Prop} {f : (Nat → Int32) × (Nat → Int32)} (h1 : (∀ k, k < 64 → f.1 k = f.2 k) → post 1 f) (h0 : (∃ k, k < 64 ∧ f.1 k ≠ f.2 k) → post 0 f) : w_X2_sameAs f post := by
  have L : ∀ (d k : Nat), k + d = 64 → (∀ i, i < k → f.1 i = f.2 i) → w_X2_sameAs_L2 post (fun _ s => post 1 s) (d + 1) (nI k) f := by
    intro d
    induction d with
    | zero =>
      intro k hk h
      have e : k = 64 := by omega
      subst e
      unfold w_X2_sameAs_L2
      exact ⟨fun _ => h1 h, fun q => absurd ((le64 64 (by omega)).mpr (Nat.le_refl 64)) q⟩
    | succ d ih =>
      intro k hk h
      have hk6 : k < 64 := by omega
      unfold w_X2_sameAs_L2
      refine ⟨fun q => absurd ((le64 k (by omega)).mp q) (by omega), fun _ => ⟨vp_in_nI hk6 (by omega), vp_in_nI hk6 (by omega), ?_⟩⟩
      rw [nI_clamp (by omega)]
      refine ⟨fun e => ?_, fun e => h0 ⟨k, hk6, e⟩⟩
      rw [nI_1]
      refine ih (k + 1) (by omega) (fun i hi => ?_)
      rcases Nat.lt_succ_iff_lt_or_eq.mp hi with q | q
      · exact h i q
      · subst q; exact e
  unfold w_X2_sameAs
  exact ⟨65, L 64 0 (by omega) (fun i q => absurd q (Nat.not_lt_zero i))⟩
