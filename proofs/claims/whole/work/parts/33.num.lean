/-! numbers of the machine for whole numbers; rows of 64 for matrices -/
def iI (a : Int) : Int32 := Int32.ofInt a
theorem iI_toInt {a : Int} (h : -2147483648 ≤ a) (h2 : a < 2147483648) : (iI a).toInt = a := Int32.toInt_ofInt_of_le (by omega) (by omega)
theorem iI_add (a b : Int) : iI a + iI b = iI (a + b) := (Int32.ofInt_add a b).symm
theorem iI_sub (a b : Int) : iI a - iI b = iI (a - b) := (Int32.ofInt_sub a b).symm
theorem iI_neg (a : Int) : - iI a = iI (-a) := (Int32.ofInt_neg a).symm
theorem iI_nI (n : Nat) : iI (n : Int) = nI n := Int32.ofInt_eq_ofNat
theorem iI_of (x : Int32) : x = iI x.toInt := (Int32.ofInt_toInt x).symm
theorem iI_lt {a b : Int} (h1 : -2147483648 ≤ a) (h2 : a < 2147483648) (h3 : -2147483648 ≤ b) (h4 : b < 2147483648) : iI a < iI b ↔ a < b := by
  rw [Int32.lt_iff_toInt_lt, iI_toInt h1 h2, iI_toInt h3 h4]
theorem iI_le {a b : Int} (h1 : -2147483648 ≤ a) (h2 : a < 2147483648) (h3 : -2147483648 ≤ b) (h4 : b < 2147483648) : iI a ≤ iI b ↔ a ≤ b := by
  rw [Int32.le_iff_toInt_le, iI_toInt h1 h2, iI_toInt h3 h4]
theorem iI_eq {a b : Int} (h1 : -2147483648 ≤ a) (h2 : a < 2147483648) (h3 : -2147483648 ≤ b) (h4 : b < 2147483648) : iI a = iI b ↔ a = b := by
  constructor
  · intro h
    have := congrArg Int32.toInt h
    rw [iI_toInt h1 h2, iI_toInt h3 h4] at this
    exact this
  · intro h; rw [h]
theorem iI_min {a b : Int} (h1 : -2147483648 ≤ a) (h2 : a < 2147483648) (h3 : -2147483648 ≤ b) (h4 : b < 2147483648) : (if iI b < iI a then iI b else iI a) = iI (min a b) := by
  by_cases h : b < a
  · rw [if_pos ((iI_lt h3 h4 h1 h2).mpr h), Int.min_eq_right (by omega)]
  · rw [if_neg (fun q => h ((iI_lt h3 h4 h1 h2).mp q)), Int.min_eq_left (by omega)]
theorem iI_max {a b : Int} (h1 : -2147483648 ≤ a) (h2 : a < 2147483648) (h3 : -2147483648 ≤ b) (h4 : b < 2147483648) : (if iI a < iI b then iI b else iI a) = iI (max a b) := by
  by_cases h : a < b
  · rw [if_pos ((iI_lt h1 h2 h3 h4).mpr h), Int.max_eq_right (by omega)]
  · rw [if_neg (fun q => h ((iI_lt h1 h2 h3 h4).mp q)), Int.max_eq_left (by omega)]
theorem ix8 (a b : Nat) : (8 : Int32) * nI a + nI b = nI (8 * a + b) := by
  rw [show (8 : Int32) = nI 8 from rfl, pk_mul, nI_add]
theorem ix8' (a b : Nat) : nI a * (8 : Int32) + nI b = nI (8 * a + b) := by
  rw [show (8 : Int32) = nI 8 from rfl, pk_mul, nI_add, Nat.mul_comm]
theorem ix8_in {a b : Nat} (ha : a < 8) (hb : b < 8) : vp_in ((8 : Int32) * nI a + nI b) 64 := by
  rw [ix8]; exact vp_in_nI (by omega) (by omega)
theorem ix8_c {a b : Nat} (ha : a < 8) (hb : b < 8) : Int32.toNatClampNeg ((8 : Int32) * nI a + nI b) = 8 * a + b := by
  rw [ix8]; exact nI_clamp (by omega)
theorem ix8_in' {a b : Nat} (ha : a < 8) (hb : b < 8) : vp_in (nI a * (8 : Int32) + nI b) 64 := by
  rw [ix8']; exact vp_in_nI (by omega) (by omega)
theorem ix8_c' {a b : Nat} (ha : a < 8) (hb : b < 8) : Int32.toNatClampNeg (nI a * (8 : Int32) + nI b) = 8 * a + b := by
  rw [ix8']; exact nI_clamp (by omega)
theorem le8 (j : Nat) (h : j < 2 ^ 31) : (8 : Int32) ≤ nI j ↔ 8 ≤ j := by
  rw [show (8 : Int32) = nI 8 from rfl]; exact nI_leI (by omega) h
theorem le64 (j : Nat) (h : j < 2 ^ 31) : (64 : Int32) ≤ nI j ↔ 64 ≤ j := by
  rw [show (64 : Int32) = nI 64 from rfl]; exact nI_leI (by omega) h
/-- a row of 64 numbers holds a matrix, as the reference has it -/
def RM (f : Nat → Int32) (T : Mat) : Prop := ∀ a b, a < 8 → b < 8 → f (8 * a + b) = iI (T a b)
def Bd (B : Int) (T : Mat) : Prop := ∀ a b, a < 8 → b < 8 → -B ≤ T a b ∧ T a b ≤ B
def updM (T : Mat) (i j : Nat) (y : Int) : Mat := fun a b => if a = i ∧ b = j then y else T a b
theorem RM.congr {f : Nat → Int32} {T U : Mat} (h : RM f T) (e : ∀ a b, a < 8 → b < 8 → T a b = U a b) : RM f U := fun a b ha hb => by rw [h a b ha hb, e a b ha hb]
theorem RM.upd {f : Nat → Int32} {T : Mat} (h : RM f T) {i j : Nat} (hi : i < 8) (hj : j < 8) (y : Int) : RM (upd f (8 * i + j) (iI y)) (updM T i j y) := by
  intro a b ha hb
  unfold updM
  by_cases q : a = i ∧ b = j
  · rw [if_pos q, q.1, q.2]
    exact pk_us
  · rw [if_neg q, pk_un (fun e => q (by omega))]
    exact h a b ha hb
theorem s_least {f : Nat → Int32} {T : Mat} {a b : Nat} {x : Int} {v : Int32} {post : (Nat → Int32) → Prop} (h : RM f T) (ha : a < 8) (hb : b < 8) (hv : v = iI x) (hx : -2147483648 ≤ x ∧ x < 2147483648) (ht : -2147483648 ≤ T a b ∧ T a b < 2147483648)
    (hp : ∀ f', RM f' (updM T a b (min (T a b) x)) → post f') : w_X6_least f (nI a) (nI b) v post := by
  unfold w_X6_least
  refine ⟨ix8_in ha hb, ix8_in ha hb, ?_⟩
  rw [ix8_c ha hb, h a b ha hb, hv, iI_min ht.1 ht.2 hx.1 hx.2]
  exact hp _ (h.upd ha hb _)
def mixM (k : Nat) (S : Mat) (a j : Nat) : Mat := fun i c => if i < a ∨ (i = a ∧ c < j) then fwk k S i c else S i c
theorem mix_col {k : Nat} {S : Mat} (h : S k k = 0) (a j i : Nat) : mixM k S a j i k = S i k := by
  unfold mixM
  split
  · exact fws_col h i
  · rfl
theorem mix_row {k : Nat} {S : Mat} (h : S k k = 0) (a j c : Nat) : mixM k S a j k c = S k c := by
  unfold mixM
  split
  · exact fws_row h c
  · rfl
theorem s_closes_L18 {post : Int32 → (Nat → Int32) → Prop} {K : Int32 → (Nat → Int32) → Prop} {k a : Nat} {S : Mat} (hk : k < 8) (ha : a < 8) (hkk : S k k = 0) (hB : Bd 400000 S) : ∀ (d j : Nat) (f : Nat → Int32), j + d = 8 → RM f (mixM k S a j) → (∀ f', RM f' (mixM k S a 8) → K (nI 8) f') → w_X6_closes_L18 (nI k) (nI a) post K (d + 1) (nI j) f := by
  intro d
  induction d with
  | zero =>
    intro j f hj h hK
    have e : j = 8 := by omega
    subst e
    unfold w_X6_closes_L18
    exact ⟨fun _ => hK f h, fun q => absurd ((le8 8 (by omega)).mpr (Nat.le_refl 8)) q⟩
  | succ d ih =>
    intro j f hj h hK
    have hj8 : j < 8 := by omega
    unfold w_X6_closes_L18
    refine ⟨fun q => absurd ((le8 j (by omega)).mp q) (by omega), fun _ => ⟨ix8_in ha hk, ix8_in hk hj8, ?_⟩⟩
    rw [ix8_c ha hk, ix8_c hk hj8, h a k ha hk, h k j hk hj8, mix_col hkk, mix_row hkk, iI_add]
    have b1 := hB a k ha hk
    have b2 := hB k j hk hj8
    have b3 := hB a j ha hj8
    have e0 : mixM k S a j a j = S a j := by
      unfold mixM
      rw [if_neg (by omega)]
    refine s_least h ha hj8 rfl (by omega) (by rw [e0]; omega) (fun f' h' => ?_)
    rw [nI_1]
    refine ih (j + 1) f' (by omega) (h'.congr (fun i c hi hc => ?_)) hK
    rw [e0]
    unfold updM
    by_cases q : i = a ∧ c = j
    · rw [if_pos q, q.1, q.2]
      unfold mixM
      rw [if_pos (by omega)]
      rfl
    · rw [if_neg q]
      unfold mixM
      by_cases q2 : i < a ∨ (i = a ∧ c < j)
      · rw [if_pos q2, if_pos (by omega)]
      · rw [if_neg q2, if_neg (by omega)]
theorem s_closes_L10 {post : Int32 → (Nat → Int32) → Prop} {K : Int32 → (Nat → Int32) → Prop} {k : Nat} {S : Mat} (hk : k < 8) (hkk : S k k = 0) (hB : Bd 400000 S) : ∀ (d a : Nat) (f : Nat → Int32), a + d = 8 → RM f (mixM k S a 0) → (∀ f', RM f' (fwk k S) → K (nI 8) f') → w_X6_closes_L10 (nI k) post K (d + 1) (nI a) f := by
  intro d
  induction d with
  | zero =>
    intro a f ha h hK
    have e : a = 8 := by omega
    subst e
    unfold w_X6_closes_L10
    refine ⟨fun _ => hK f (h.congr (fun i c hi hc => ?_)), fun q => absurd ((le8 8 (by omega)).mpr (Nat.le_refl 8)) q⟩
    unfold mixM
    rw [if_pos (by omega)]
  | succ d ih =>
    intro a f ha h hK
    unfold w_X6_closes_L10
    refine ⟨fun q => absurd ((le8 a (by omega)).mp q) (by omega), fun _ => ⟨9, ?_⟩⟩
    refine s_closes_L18 hk (by omega) hkk hB 8 0 f (by omega) h (fun f' h' => ?_)
    rw [nI_1]
    refine ih (a + 1) f' (by omega) (h'.congr (fun i c hi hc => ?_)) hK
    unfold mixM
    by_cases q : i < a ∨ (i = a ∧ c < 8)
    · rw [if_pos q, if_pos (by omega)]
    · rw [if_neg q, if_neg (by omega)]
theorem s_closes_L2 {post : Int32 → (Nat → Int32) → Prop} {K : Int32 → (Nat → Int32) → Prop} {T : Mat} (hd : ∀ k, k ≤ 8 → ∀ a, a < 8 → fws k T a a = 0) (hB : ∀ k, k ≤ 8 → Bd 400000 (fws k T)) : ∀ (d k : Nat) (f : Nat → Int32), k + d = 8 → RM f (fws k T) → (∀ f', RM f' (fws 8 T) → K (nI 8) f') → w_X6_closes_L2 post K (d + 1) (nI k) f := by
  intro d
  induction d with
  | zero =>
    intro k f hk h hK
    have e : k = 8 := by omega
    subst e
    unfold w_X6_closes_L2
    exact ⟨fun _ => hK f h, fun q => absurd ((le8 8 (by omega)).mpr (Nat.le_refl 8)) q⟩
  | succ d ih =>
    intro k f hk h hK
    unfold w_X6_closes_L2
    refine ⟨fun q => absurd ((le8 k (by omega)).mp q) (by omega), fun _ => ⟨9, ?_⟩⟩
    refine s_closes_L10 (S := fws k T) (by omega) (hd k (by omega) k (by omega)) (hB k (by omega)) 8 0 f (by omega) (h.congr (fun i c hi hc => ?_)) (fun f' h' => ?_)
    · unfold mixM
      rw [if_neg (by omega)]
    · rw [nI_1]
      exact ih (k + 1) f' (by omega) h' hK
theorem s_closes_L69 {post : Int32 → (Nat → Int32) → Prop} {K : Int32 → Int32 → (Nat → Int32) → Prop} {T : Mat} (hd : ∀ a, a < 8 → T a a = 0) {f : Nat → Int32} (h : RM f T) (hK : K 1 (nI 8) f) : ∀ (d k : Nat), k + d = 8 → w_X6_closes_L69 post K (d + 1) 1 (nI k) f := by
  intro d
  induction d with
  | zero =>
    intro k hk
    have e : k = 8 := by omega
    subst e
    unfold w_X6_closes_L69
    exact ⟨fun _ => hK, fun q => absurd ((le8 8 (by omega)).mpr (Nat.le_refl 8)) q⟩
  | succ d ih =>
    intro k hk
    have hk8 : k < 8 := by omega
    unfold w_X6_closes_L69
    refine ⟨fun q => absurd ((le8 k (by omega)).mp q) (by omega), fun _ => ⟨fun q => absurd q (by decide), fun _ => ⟨ix8_in hk8 hk8, ?_, ?_⟩⟩⟩
    · rw [ix8_c hk8 hk8, h k k hk8 hk8, hd k hk8]
      intro q
      exact absurd q (by decide)
    · intro _
      rw [nI_1]
      exact ih (k + 1) (by omega)
theorem s_closes {post : Int32 → (Nat → Int32) → Prop} {f : Nat → Int32} {T : Mat} (h : RM f T) (hd : ∀ k, k ≤ 8 → ∀ a, a < 8 → fws k T a a = 0) (hB : ∀ k, k ≤ 8 → Bd 400000 (fws k T)) (hp : ∀ f', RM f' (fws 8 T) → post 1 f') : w_X6_closes f post := by
  unfold w_X6_closes
  refine ⟨9, s_closes_L2 hd hB 8 0 f (by omega) h (fun f' h' => ⟨9, ?_⟩)⟩
  exact s_closes_L69 (hd 8 (by omega)) h' ⟨rfl, hp f' h'⟩ 8 0 (by omega)
