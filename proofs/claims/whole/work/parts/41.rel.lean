/-! the relation between the class's state and the reference's -/
def RX (nc np n nt ne : Nat) (a b c d e : Int32) : Prop := a = nI nc ∧ b = nI np ∧ c = nI n ∧ d = nI nt ∧ e = nI ne
def RPic (nc np n : Nat) (cam clk mrk plc way : Nat → Int32) : Prop :=
  (∀ p, p < n → (∃ c, c < nc ∧ cam p = nI c) ∧ (∃ x : Int, 0 ≤ x ∧ x ≤ 100000 ∧ clk p = iI x) ∧ (∃ m, m < 65536 ∧ mrk p = nI m) ∧ (plc p = -1 ∨ ∃ q, q < np ∧ plc p = nI q)) ∧ ∀ a b, a < 10 → b < 10 → way (10 * b + a) = way (10 * a + b)
/-- the class's tie is the reference's, but for bounds that never bind -/
def Corr (a b : Nat) (lo hi : Int) (es : List Ed) : Prop := (∀ e ∈ es, e ∈ ces a b lo hi) ∧ ∀ e ∈ ces a b lo hi, e ∈ es ∨ 1000000 ≤ e.2.2
def TieP (nc n : Nat) (kind one two : Int32) : Prop := (kind = 2 ∧ ∃ c, c < nc ∧ one = nI c) ∨ (kind ≠ 2 ∧ ∃ p q, p < n ∧ q < n ∧ one = nI p ∧ two = nI q)
def TM (nc n nt ne : Nat) (m1 m2 m5 m6 m7 m8 m9 : Nat → Int32) (mn : Nat → Nat) (ess : Nat → List Ed) : Prop :=
  (∀ k, k < nt → m5 k = nI (mn k) ∧ mn k < ne ∧ TieE (m6 k) (m7 k) (m8 k) (m9 k) m1 m2 (ess k) ∧ TieP nc n (m6 k) (m7 k) (m8 k)) ∧ ∀ k l, k < nt → l < nt → mn k = mn l → k = l
def TX (nt : Nat) (x5 x6 x7 x8 x9 : Nat → Int32) (mn : Nat → Nat) (ess : Nat → List Ed) (pi ca cb : Nat → Nat) (clo chi : Nat → Int) : Prop :=
  (∀ s, s < nt → pi s < nt ∧ x5 s = nI (mn (pi s)) ∧ TieC (x6 s) (x7 s) (x8 s) (x9 s) (ca s) (cb s) (clo s) (chi s) ∧ Corr (ca s) (cb s) (clo s) (chi s) (ess (pi s))) ∧ (∀ s t, s < nt → t < nt → pi s = pi t → s = t) ∧ ∀ k, k < nt → ∃ s, s < nt ∧ pi s = k
def RTie (nc n nt ne : Nat) (x5 x6 x7 x8 x9 x16 m1 m2 m5 m6 m7 m8 m9 : Nat → Int32) : Prop :=
  ∃ (mn : Nat → Nat) (ess : Nat → List Ed) (pi ca cb : Nat → Nat) (clo chi : Nat → Int) (T : Mat), TM nc n nt ne m1 m2 m5 m6 m7 m8 m9 mn ess ∧ TX nt x5 x6 x7 x8 x9 mn ess pi ca cb clo chi ∧ RM x16 (neg T) ∧ Tight (EdOf (esAll ess nt)) T
/-- what the latest put found: nr pictures in the row, npc cameras, offsets o, the row rw, times tm, cameras cm -/
def PutD (nr npc : Nat) (o : Nat → Int) (rw : Nat → Nat) (tm : Nat → Int) (cm : Nat → Nat) (x12 x13 x14 m1 m2 m16 m17 : Nat → Int32) : Prop :=
  (∀ c, c < npc → x12 c = iI (o c) ∧ m16 c = iI (o c) ∧ -200000 ≤ o c ∧ o c ≤ 200000) ∧
  (∀ p, p < nr → cm p < npc ∧ m1 p = nI (cm p) ∧ x13 p = iI (tm p) ∧ ∃ x : Int, 0 ≤ x ∧ x ≤ 100000 ∧ m2 p = iI x ∧ tm p = x + o (cm p)) ∧
  (∀ i, i < nr → rw i < nr ∧ x14 i = nI (rw i) ∧ m17 i = nI (rw i)) ∧ (∀ i j, i < nr → j < nr → rw i = rw j → i = j) ∧ ∀ i j, i < j → j < nr → tm (rw i) ≤ tm (rw j)
def RPut (nc n : Nat) (f8 f9 f10 g9 g10 : Int32) (x12 x13 x14 m1 m2 m16 m17 : Nat → Int32) : Prop :=
  (f8 = 0 ∧ f9 = 0 ∧ f10 = 0 ∧ g9 = -1 ∧ g10 = 0) ∨ (∃ nr npc o rw tm cm, nr ≤ n ∧ npc ≤ nc ∧ f8 = 1 ∧ f9 = nI nr ∧ f10 = nI npc ∧ g9 = nI nr ∧ g10 = nI npc ∧ PutD nr npc o rw tm cm x12 x13 x14 m1 m2 m16 m17)
def RelN (j nc np n nt ne : Nat) (σx σm : St) : Prop :=
  (nc ≤ 8 ∧ np ≤ 10 ∧ n ≤ 120 ∧ nt ≤ 60 ∧ ne ≤ j) ∧ RX nc np n nt ne (σx.1 0) (σx.1 5) (σx.1 4) (σx.1 6) (σx.1 7) ∧ RX nc np n nt ne (σm.1 2) (σm.1 3) (σm.1 4) (σm.1 5) (σm.1 6) ∧
  (σm.1 7 = σx.1 1 ∧ σm.1 1 = σx.1 2 ∧ σm.1 8 = σx.1 3) ∧ (σx.2 0 = σm.2 1 ∧ σx.2 1 = σm.2 2 ∧ σx.2 2 = σm.2 3 ∧ σx.2 3 = σm.2 4 ∧ σx.2 4 = σm.2 0) ∧
  RPic nc np n (σm.2 1) (σm.2 2) (σm.2 3) (σm.2 4) (σm.2 0) ∧
  RTie nc n nt ne (σx.2 5) (σx.2 6) (σx.2 7) (σx.2 8) (σx.2 9) (σx.2 16) (σm.2 1) (σm.2 2) (σm.2 5) (σm.2 6) (σm.2 7) (σm.2 8) (σm.2 9) ∧
  RPut nc n (σx.1 8) (σx.1 9) (σx.1 10) (σm.1 9) (σm.1 10) (σx.2 12) (σx.2 13) (σx.2 14) (σm.2 1) (σm.2 2) (σm.2 16) (σm.2 17)
def Rel (j : Nat) (σx σm : St) : Prop := ∃ nc np n nt ne : Nat, RelN j nc np n nt ne σx σm
theorem Rel.succ {j : Nat} {σx σm : St} (h : Rel j σx σm) : Rel (j + 1) σx σm := by
  obtain ⟨nc, np, n, nt, ne, ⟨a, b, c, d, e⟩, r⟩ := h
  exact ⟨nc, np, n, nt, ne, ⟨a, b, c, d, by omega⟩, r⟩
/-- what a call may leave otherwise in the class's rows for its own use, and in the reference's -/
def KX (σ τ : St) : Prop := τ.1 = σ.1 ∧ ∀ j, j ≠ 10 → j ≠ 11 → j ≠ 15 → τ.2 j = σ.2 j
def KM (σ τ : St) : Prop := (∀ k, k ≠ 0 → τ.1 k = σ.1 k) ∧ ∀ j, j < 10 ∨ 15 < j → τ.2 j = σ.2 j
theorem KX.refl (σ : St) : KX σ σ := ⟨rfl, fun _ _ _ _ => rfl⟩
theorem KM.refl (σ : St) : KM σ σ := ⟨fun _ _ => rfl, fun _ _ => rfl⟩
theorem KX.trans {σ τ υ : St} (h1 : KX σ τ) (h2 : KX τ υ) : KX σ υ := ⟨h2.1.trans h1.1, fun j a b c => (h2.2 j a b c).trans (h1.2 j a b c)⟩
theorem KM.trans {σ τ υ : St} (h1 : KM σ τ) (h2 : KM τ υ) : KM σ υ := ⟨fun k h => (h2.1 k h).trans (h1.1 k h), fun j h => (h2.2 j h).trans (h1.2 j h)⟩
theorem KM.z (σ : St) (v : Int32) : KM σ (va_up σ.1 0 v, σ.2) := ⟨fun k h => va_up_ne _ _ h, fun _ _ => rfl⟩
theorem Same.kx {J : Nat} {σ τ : St} (h : Same J σ τ) (hJ : J = 10 ∨ J = 11 ∨ J = 15) : KX σ τ := ⟨h.1, fun j a b c => h.2 j (by omega)⟩
theorem Same.km {J : Nat} {σ τ : St} (h : Same J σ τ) (hJ : 10 ≤ J ∧ J ≤ 15) : KM σ τ := ⟨fun k _ => by rw [h.1], fun j q => h.2 j (by omega)⟩
theorem Same2.kx {σ τ : St} (h : Same2 10 11 σ τ) : KX σ τ := ⟨h.1, fun j a b _ => h.2 j a b⟩
theorem SameS.km {σ τ : St} (h : SameS σ τ) : KM σ τ := ⟨fun k _ => by rw [h.1], fun j q => h.2 j (by omega) (by omega) (by omega) (by omega)⟩
theorem RelN.keep {j nc np n nt ne : Nat} {σx σm τx τm : St} (h : RelN j nc np n nt ne σx σm) (hx : KX σx τx) (hm : KM σm τm) : RelN j nc np n nt ne τx τm := by
  unfold RelN at h ⊢
  rw [hx.1, hx.2 0 (by decide) (by decide) (by decide), hx.2 1 (by decide) (by decide) (by decide), hx.2 2 (by decide) (by decide) (by decide), hx.2 3 (by decide) (by decide) (by decide), hx.2 4 (by decide) (by decide) (by decide), hx.2 5 (by decide) (by decide) (by decide), hx.2 6 (by decide) (by decide) (by decide), hx.2 7 (by decide) (by decide) (by decide), hx.2 8 (by decide) (by decide) (by decide), hx.2 9 (by decide) (by decide) (by decide), hx.2 12 (by decide) (by decide) (by decide), hx.2 13 (by decide) (by decide) (by decide), hx.2 14 (by decide) (by decide) (by decide), hx.2 16 (by decide) (by decide) (by decide)]
  rw [hm.1 1 (by decide), hm.1 2 (by decide), hm.1 3 (by decide), hm.1 4 (by decide), hm.1 5 (by decide), hm.1 6 (by decide), hm.1 7 (by decide), hm.1 8 (by decide), hm.1 9 (by decide), hm.1 10 (by decide)]
  rw [hm.2 0 (by decide), hm.2 1 (by decide), hm.2 2 (by decide), hm.2 3 (by decide), hm.2 4 (by decide), hm.2 5 (by decide), hm.2 6 (by decide), hm.2 7 (by decide), hm.2 8 (by decide), hm.2 9 (by decide), hm.2 16 (by decide), hm.2 17 (by decide)]
  exact h
theorem RelN.keepM {j nc np n nt ne : Nat} {σx σm τm : St} (h : RelN j nc np n nt ne σx σm) (hm : KM σm τm) : RelN j nc np n nt ne σx τm := h.keep (KX.refl _) hm
theorem RelN.rel {j nc np n nt ne : Nat} {σx σm : St} (h : RelN j nc np n nt ne σx σm) : Rel (j + 1) σx σm := Rel.succ ⟨nc, np, n, nt, ne, h⟩
theorem Rel.keep {j : Nat} {σx σm τx τm : St} (h : Rel j σx σm) (hx : KX σx τx) (hm : KM σm τm) : Rel (j + 1) τx τm := by
  obtain ⟨nc, np, n, nt, ne, h⟩ := h
  exact (h.keep hx hm).rel
theorem Rel.z {j : Nat} {σx σm : St} (h : Rel j σx σm) (v : Int32) : Rel (j + 1) σx (va_up σm.1 0 v, σm.2) := h.keep (KX.refl _) (KM.z σm v)
/-- a trouble more, in both -/
theorem RelN.trouble {j nc np n nt ne : Nat} {σx σm : St} (h : RelN j nc np n nt ne σx σm) (v : Int32) : RelN j nc np n nt ne (va_up σx.1 2 v, σx.2) (va_up σm.1 1 v, σm.2) := by
  obtain ⟨h1, h2, h3, h4, h5, h6, h7, h8⟩ := h
  exact ⟨h1, h2, h3, ⟨h4.1, rfl, h4.2.2⟩, h5, h6, h7, h8⟩
theorem RelN.quarrel {j nc np n nt ne : Nat} {σx σm : St} (h : RelN j nc np n nt ne σx σm) (v : Int32) : RelN j nc np n nt ne (va_up σx.1 3 v, σx.2) (va_up σm.1 8 v, σm.2) := by
  obtain ⟨h1, h2, h3, h4, h5, h6, h7, h8⟩ := h
  exact ⟨h1, h2, h3, ⟨h4.1, h4.2.1, rfl⟩, h5, h6, h7, h8⟩
theorem RelN.gap {j nc np n nt ne : Nat} {σx σm : St} (h : RelN j nc np n nt ne σx σm) (v : Int32) : RelN j nc np n nt ne (va_up σx.1 1 v, σx.2) (va_up σm.1 7 v, σm.2) := by
  obtain ⟨h1, h2, h3, h4, h5, h6, h7, h8⟩ := h
  exact ⟨h1, h2, h3, ⟨rfl, h4.2.1, h4.2.2⟩, h5, h6, h7, h8⟩
/-- numbers that are asked for: none such, or one of n -/
theorem ix_cases (x : Int32) {n : Nat} (hn : n < 2 ^ 31) : (x < 0 ∨ nI n ≤ x) ∨ ∃ p, p < n ∧ x = nI p := by
  rcases pk_ix x hn with h | h | h
  · exact Or.inl (Or.inl h)
  · exact Or.inl (Or.inr h)
  · exact Or.inr h
theorem wi_cases (x lo hi : Int32) : (x < lo ∨ hi < x) ∨ (¬ x < lo ∧ ¬ hi < x) := by
  by_cases h : x < lo
  · exact Or.inl (Or.inl h)
  · by_cases g : hi < x
    · exact Or.inl (Or.inr g)
    · exact Or.inr ⟨h, g⟩
theorem within_n {x lo hi : Int32} {post : Int32 → Unit → Prop} (h : x < lo ∨ hi < x) (hp : post 0 ()) : w_X5_within x lo hi post := by
  unfold w_X5_within
  exact ⟨fun _ => hp, fun q => ⟨fun _ => hp, fun r => (h.elim q r).elim⟩⟩
theorem within_y {x lo hi : Int32} {post : Int32 → Unit → Prop} (h : ¬ x < lo ∧ ¬ hi < x) (hp : post 1 ()) : w_X5_within x lo hi post := by
  unfold w_X5_within
  exact ⟨fun q => absurd q h.1, fun _ => ⟨fun q => absurd q h.2, fun _ => hp⟩⟩
theorem in_n {x lo hi : Int32} {post : Int32 → Unit → Prop} (h : x < lo ∨ hi < x) (hp : post 0 ()) : w_X6_in x lo hi post := by
  unfold w_X6_in
  exact ⟨fun _ => hp, fun q => ⟨fun _ => hp, fun r => (h.elim q r).elim⟩⟩
theorem in_y {x lo hi : Int32} {post : Int32 → Unit → Prop} (h : ¬ x < lo ∧ ¬ hi < x) (hp : post 1 ()) : w_X6_in x lo hi post := by
  unfold w_X6_in
  exact ⟨fun q => absurd q h.1, fun _ => ⟨fun q => absurd q h.2, fun _ => hp⟩⟩
theorem has0_n {x : Int32} {n : Nat} {σ : St} {post : Int32 → St → Prop} (hn : σ.1 4 = nI n) (h : x < 0 ∨ nI n ≤ x) (hp : post 0 σ) : w_X0_has σ x post := by
  unfold w_X0_has
  rw [hn]
  exact ⟨fun _ => hp, fun q => ⟨fun _ => hp, fun r => (h.elim q r).elim⟩⟩
theorem has0_y {p n : Nat} {σ : St} {post : Int32 → St → Prop} (hn : σ.1 4 = nI n) (h : p < n) (hb : n < 2 ^ 31) (hp : post 1 σ) : w_X0_has σ (nI p) post := by
  unfold w_X0_has
  rw [hn]
  exact ⟨fun q => absurd q (nI_pos (by omega)), fun _ => ⟨fun q => absurd q (nI_ge h hb), fun _ => hp⟩⟩
theorem has1_n {x : Int32} {n : Nat} {σ : St} {post : Int32 → St → Prop} (hn : σ.1 5 = nI n) (h : x < 0 ∨ nI n ≤ x) (hp : post 0 σ) : w_X1_has σ x post := by
  unfold w_X1_has
  rw [hn]
  exact ⟨fun _ => hp, fun q => ⟨fun _ => hp, fun r => (h.elim q r).elim⟩⟩
theorem has1_y {p n : Nat} {σ : St} {post : Int32 → St → Prop} (hn : σ.1 5 = nI n) (h : p < n) (hb : n < 2 ^ 31) (hp : post 1 σ) : w_X1_has σ (nI p) post := by
  unfold w_X1_has
  rw [hn]
  exact ⟨fun q => absurd q (nI_pos (by omega)), fun _ => ⟨fun q => absurd q (nI_ge h hb), fun _ => hp⟩⟩
theorem hasC_n {x : Int32} {n : Nat} {σ : St} {post : Int32 → St → Prop} (hn : σ.1 0 = nI n) (h : x < 0 ∨ nI n ≤ x) (hp : post 0 σ) : w_X5_hasCamera σ x post := by
  unfold w_X5_hasCamera
  rw [hn]
  exact ⟨fun _ => hp, fun q => ⟨fun _ => hp, fun r => (h.elim q r).elim⟩⟩
theorem hasC_y {p n : Nat} {σ : St} {post : Int32 → St → Prop} (hn : σ.1 0 = nI n) (h : p < n) (hb : n < 2 ^ 31) (hp : post 1 σ) : w_X5_hasCamera σ (nI p) post := by
  unfold w_X5_hasCamera
  rw [hn]
  exact ⟨fun q => absurd q (nI_pos (by omega)), fun _ => ⟨fun q => absurd q (nI_ge h hb), fun _ => hp⟩⟩
theorem hasP_n {x : Int32} {n : Nat} {σ : St} {post : Int32 → St → Prop} (hn : σ.1 10 = nI n) (h : x < 0 ∨ nI n ≤ x) (hp : post 0 σ) : w_X4_hasCamera σ x post := by
  unfold w_X4_hasCamera
  rw [hn]
  exact ⟨fun _ => hp, fun q => ⟨fun _ => hp, fun r => (h.elim q r).elim⟩⟩
theorem hasP_y {p n : Nat} {σ : St} {post : Int32 → St → Prop} (hn : σ.1 10 = nI n) (h : p < n) (hb : n < 2 ^ 31) (hp : post 1 σ) : w_X4_hasCamera σ (nI p) post := by
  unfold w_X4_hasCamera
  rw [hn]
  exact ⟨fun q => absurd q (nI_pos (by omega)), fun _ => ⟨fun q => absurd q (nI_ge h hb), fun _ => hp⟩⟩
theorem has4_n {x : Int32} {n : Nat} {σ : St} {post : Int32 → St → Prop} (hn : σ.1 9 = nI n) (h : x < 0 ∨ nI n ≤ x) (hp : post 0 σ) : w_X4_has σ x post := by
  unfold w_X4_has
  rw [hn]
  exact ⟨fun _ => hp, fun q => ⟨fun _ => hp, fun r => (h.elim q r).elim⟩⟩
theorem has4_y {p n : Nat} {σ : St} {post : Int32 → St → Prop} (hn : σ.1 9 = nI n) (h : p < n) (hb : n < 2 ^ 31) (hp : post 1 σ) : w_X4_has σ (nI p) post := by
  unfold w_X4_has
  rw [hn]
  exact ⟨fun q => absurd q (nI_pos (by omega)), fun _ => ⟨fun q => absurd q (nI_ge h hb), fun _ => hp⟩⟩
theorem isPl_n {x : Int32} {n : Nat} {σ : St} {post : Int32 → St → Prop} (hn : σ.1 3 = nI n) (h : x < 0 ∨ nI n ≤ x) (hp : post 0 σ) : w_X6_isPlace σ x post := by
  unfold w_X6_isPlace
  rw [hn]
  exact ⟨fun _ => hp, fun q => ⟨fun _ => hp, fun r => (h.elim q r).elim⟩⟩
theorem isPl_y {p n : Nat} {σ : St} {post : Int32 → St → Prop} (hn : σ.1 3 = nI n) (h : p < n) (hb : n < 2 ^ 31) (hp : post 1 σ) : w_X6_isPlace σ (nI p) post := by
  unfold w_X6_isPlace
  rw [hn]
  exact ⟨fun q => absurd q (nI_pos (by omega)), fun _ => ⟨fun q => absurd q (nI_ge h hb), fun _ => hp⟩⟩
theorem isCa_n {x : Int32} {n : Nat} {σ : St} {post : Int32 → St → Prop} (hn : σ.1 2 = nI n) (h : x < 0 ∨ nI n ≤ x) (hp : post 0 σ) : w_X6_isCamera σ x post := by
  unfold w_X6_isCamera
  rw [hn]
  exact ⟨fun _ => hp, fun q => ⟨fun _ => hp, fun r => (h.elim q r).elim⟩⟩
theorem isCa_y {p n : Nat} {σ : St} {post : Int32 → St → Prop} (hn : σ.1 2 = nI n) (h : p < n) (hb : n < 2 ^ 31) (hp : post 1 σ) : w_X6_isCamera σ (nI p) post := by
  unfold w_X6_isCamera
  rw [hn]
  exact ⟨fun q => absurd q (nI_pos (by omega)), fun _ => ⟨fun q => absurd q (nI_ge h hb), fun _ => hp⟩⟩
theorem isPi_n {x : Int32} {n : Nat} {σ : St} {post : Int32 → St → Prop} (hn : σ.1 4 = nI n) (h : x < 0 ∨ nI n ≤ x) (hp : post 0 σ) : w_X6_isPicture σ x post := by
  unfold w_X6_isPicture
  rw [hn]
  exact ⟨fun _ => hp, fun q => ⟨fun _ => hp, fun r => (h.elim q r).elim⟩⟩
theorem isPi_y {p n : Nat} {σ : St} {post : Int32 → St → Prop} (hn : σ.1 4 = nI n) (h : p < n) (hb : n < 2 ^ 31) (hp : post 1 σ) : w_X6_isPicture σ (nI p) post := by
  unfold w_X6_isPicture
  rw [hn]
  exact ⟨fun q => absurd q (nI_pos (by omega)), fun _ => ⟨fun q => absurd q (nI_ge h hb), fun _ => hp⟩⟩
