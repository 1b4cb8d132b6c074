/-! a tie that changes nothing -/
theorem fresh_row {E : Edg} {T : Mat} {x : Nat} (h : Tight E T) (hx : x < 8) (hx0 : x ≠ 0) (hl : ∀ a b w, E a b w → a ≠ x ∧ b ≠ x) : T x 0 = 200000 ∧ T 0 x = 200000 := by
  obtain ⟨v, hv⟩ := tight_feas h
  have b0 := tight_bd0 h hx
  have go : ∀ y : Int, -200000 ≤ y → y ≤ 200000 → Feas E (fun c => if c = x then y else v c) := by
    intro y h1 h2
    refine ⟨?_, fun a ha => ?_, fun a b w ha hb he => ?_⟩
    · show (if 0 = x then y else v 0) = 0
      rw [if_neg (fun e => hx0 e.symm)]
      exact hv.1
    · show -200000 ≤ (if a = x then y else v a) ∧ (if a = x then y else v a) ≤ 200000
      split
      · exact ⟨h1, h2⟩
      · exact hv.2.1 a ha
    · show (if a = x then y else v a) - (if b = x then y else v b) ≤ w
      rw [if_neg (hl a b w he).1, if_neg (hl a b w he).2]
      exact hv.2.2 a b w ha hb he
  have r1 := h.1 _ (go 200000 (by omega) (by omega)) x 0 hx (by omega)
  have r2 := h.1 _ (go (-200000) (by omega) (by omega)) 0 x (by omega) hx
  have r1' : (if x = x then (200000 : Int) else v x) - (if 0 = x then 200000 else v 0) ≤ T x 0 := r1
  have r2' : (if 0 = x then (-200000 : Int) else v 0) - (if x = x then -200000 else v x) ≤ T 0 x := r2
  rw [if_pos rfl, if_neg (fun e => hx0 e.symm)] at r1'
  rw [if_pos rfl, if_neg (fun e => hx0 e.symm)] at r2'
  have := hv.1
  omega
def EP (nc : Nat) (HP : Nat → Prop) (E : Edg) : Prop := ∀ a b w, E a b w → ((a = 0 ∨ b = 0) ∧ (a = 0 ∨ a < nc) ∧ (b = 0 ∨ b < nc)) ∨ (HP a ∧ HP b ∧ a < nc ∧ b < nc)
theorem idle_iff {nc : Nat} {HP : Nat → Prop} {E F : Edg} {T U : Mat} (hT : Tight E T) (hU : Tight F U) (hE : EP nc HP E) (hF : EP nc HP F) : (∀ a b, a < 8 → b < 8 → T a b = U a b) ↔ ∀ a b, a < nc → b < nc → a < 8 → b < 8 → (a = 0 ∨ b = 0 ∨ (HP a ∧ HP b)) → T a b = U a b := by
  constructor
  · exact fun h a b _ _ ha hb _ => h a b ha hb
  · intro h a b ha hb
    have d1 := (tight_closed hT).1
    have d2 := (tight_closed hU).1
    by_cases eab : a = b
    · subst eab; rw [d1 a ha, d2 a ha]
    -- rows and columns of camera 0
    have fr : ∀ {G : Edg} {x : Nat}, EP nc HP G → x ≠ 0 → ¬ x < nc → ∀ a b w, G a b w → a ≠ x ∧ b ≠ x := by
      intro G x hG hx0 hx a b w e
      rcases hG a b w e with ⟨-, q1, q2⟩ | ⟨-, -, q1, q2⟩
      · omega
      · omega
    have z : ∀ x, x < 8 → T x 0 = U x 0 ∧ T 0 x = U 0 x := by
      intro x hx
      by_cases x0 : x = 0
      · subst x0; rw [d1 0 hx, d2 0 hx]; exact ⟨rfl, rfl⟩
      by_cases xn : x < nc
      · exact ⟨h x 0 xn (by omega) hx (by omega) (Or.inr (Or.inl rfl)), h 0 x (by omega) xn (by omega) hx (Or.inl rfl)⟩
      · have g1 := fresh_row hT hx x0 (fr hE x0 xn)
        have g2 := fresh_row hU hx x0 (fr hF x0 xn)
        omega
    by_cases a0 : a = 0
    · subst a0; exact (z b hb).2
    by_cases b0 : b = 0
    · subst b0; exact (z a ha).1
    have lone : ∀ {G : Edg} {x : Nat}, EP nc HP G → (¬ x < nc ∨ ¬ HP x) → ∀ a b w, G a b w → (a = x ∨ b = x) → (a = 0 ∨ b = 0) := by
      intro G x hG hx a b w e hab
      rcases hG a b w e with ⟨q, -, -⟩ | ⟨q1, q2, q3, q4⟩
      · exact q
      · exfalso
        rcases hx with hx | hx
        · omega
        · rcases hab with r | r
          · rw [r] at q1; exact hx q1
          · rw [r] at q2; exact hx q2
    have za := z a ha
    have zb := z b hb
    by_cases qa : a < nc ∧ HP a
    · by_cases qb : b < nc ∧ HP b
      · exact h a b qa.1 qb.1 ha hb (Or.inr (Or.inr ⟨qa.2, qb.2⟩))
      · have nb : ¬ b < nc ∨ ¬ HP b := by
          by_cases r : b < nc
          · exact Or.inr (fun s => qb ⟨r, s⟩)
          · exact Or.inl r
        have g1 := lone_col hT hb ha (fun e => eab e.symm) b0 (lone hE nb)
        have g2 := lone_col hU hb ha (fun e => eab e.symm) b0 (lone hF nb)
        omega
    · have na : ¬ a < nc ∨ ¬ HP a := by
        by_cases r : a < nc
        · exact Or.inr (fun s => qa ⟨r, s⟩)
        · exact Or.inl r
      have g1 := lone_row hT ha hb eab a0 (lone hE na)
      have g2 := lone_row hU ha hb eab a0 (lone hF na)
      omega
/-- a camera has a picture -/
def HasP (n : Nat) (cam : Nat → Int32) (c : Nat) : Prop := ∃ p, p < n ∧ cam p = nI c
theorem tieE_ep {nc np n : Nat} {k o t z : Int32} {m1 m2 m3 m4 m0 : Nat → Int32} {es : List Ed} (hE : TieE k o t z m1 m2 es) (hP : TieP nc n k o t) (h6 : RPic nc np n m1 m2 m3 m4 m0) (hnc : nc ≤ 8) (hn : n ≤ 120) {a b : Nat} {w : Int} (he : (a, b, w) ∈ es) : ((a = 0 ∨ b = 0) ∧ (a = 0 ∨ a < nc) ∧ (b = 0 ∨ b < nc)) ∨ (HasP n m1 a ∧ HasP n m1 b ∧ a < nc ∧ b < nc) := by
  have key : k ≠ 2 → ∀ p q c d : Nat, p < 120 → q < 120 → c < 8 → d < 8 → o = nI p → t = nI q → m1 p = nI c → m1 q = nI d → (HasP n m1 c ∧ HasP n m1 d ∧ c < nc ∧ d < nc) := by
    intro hk p q c d hp hq hc hd e1 e2 e3 e4
    rcases hP with ⟨e, -⟩ | ⟨-, p', q', hp', hq', e5, e6⟩
    · exact absurd e hk
    · have g1 : p = p' := (nI_eq (by omega) (by omega)).mp (e1.symm.trans e5)
      have g2 : q = q' := (nI_eq (by omega) (by omega)).mp (e2.symm.trans e6)
      subst g1 g2
      obtain ⟨⟨c', hc', ec⟩, -⟩ := h6.1 p hp'
      obtain ⟨⟨d', hd', ed⟩, -⟩ := h6.1 q hq'
      have g3 : c = c' := (nI_eq (by omega) (by omega)).mp (e3.symm.trans ec)
      have g4 : d = d' := (nI_eq (by omega) (by omega)).mp (e4.symm.trans ed)
      subst g3 g4
      exact ⟨⟨p, hp', e3⟩, ⟨q, hq', e4⟩, hc', hd'⟩
  rcases hE with ⟨e, p, q, c, d, x, y, m, h1, h2, h3, h4, h5, h6, h7, h8, -, -, -, -, -, -, -, -, -, rfl⟩ | ⟨e, p, q, c, d, x, y, h1, h2, h3, h4, h5, h6, h7, h8, -, -, -, -, -, -, rfl⟩ | ⟨e, c, lo, hi, h1, h2, -, -, -, -, -, rfl⟩
  · obtain ⟨g1, g2, g3, g4⟩ := key (by rw [e]; decide) p q c d h1 h2 h3 h4 h5 h6 h7 h8
    rw [List.mem_cons, List.mem_singleton, Prod.mk.injEq, Prod.mk.injEq, Prod.mk.injEq, Prod.mk.injEq] at he
    rcases he with ⟨rfl, rfl, -⟩ | ⟨rfl, rfl, -⟩
    · exact Or.inr ⟨g1, g2, g3, g4⟩
    · exact Or.inr ⟨g2, g1, g4, g3⟩
  · obtain ⟨g1, g2, g3, g4⟩ := key (by rw [e]; decide) p q c d h1 h2 h3 h4 h5 h6 h7 h8
    rw [List.mem_singleton, Prod.mk.injEq, Prod.mk.injEq] at he
    obtain ⟨rfl, rfl, -⟩ := he
    exact Or.inr ⟨g1, g2, g3, g4⟩
  · have hc : c < nc := by
      rcases hP with ⟨-, c', hc', e2⟩ | ⟨e2, -⟩
      · have : c = c' := (nI_eq (by omega) (by omega)).mp (h2.symm.trans e2)
        omega
      · exact absurd e e2
    rw [List.mem_cons, List.mem_singleton, Prod.mk.injEq, Prod.mk.injEq, Prod.mk.injEq, Prod.mk.injEq] at he
    left
    rcases he with ⟨rfl, rfl, -⟩ | ⟨rfl, rfl, -⟩ <;> omega
theorem s_hasPic {post : Int32 → St → Prop} {σ : St} {n : Nat} {y : Int32} (hn : σ.1 4 = nI n) (hb : n ≤ 120) (h1 : (∃ p, p < n ∧ σ.2 1 p = y) → post 1 σ) (h0 : ¬ (∃ p, p < n ∧ σ.2 1 p = y) → post 0 σ) : w_X6_hasPicture σ y post := by
  have L : ∀ (d k : Nat) (x : Int32), k + d = n → ((x = 0 ∧ ∀ p, p < k → σ.2 1 p ≠ y) ∨ (x = 1 ∧ ∃ p, p < n ∧ σ.2 1 p = y)) → w_X6_hasPicture_L4 y post (fun x _ s => (narrow .boolean (.int x) = .int x ∧ post x s)) (d + 1) x (nI k) σ := by
    intro d
    induction d with
    | zero =>
      intro k x hk h
      have e : k = n := by omega
      subst e
      unfold w_X6_hasPicture_L4
      rw [hn]
      refine ⟨fun _ => ?_, fun q => absurd (nI_le (Nat.le_refl k) (by omega)) q⟩
      rcases h with ⟨rfl, h⟩ | ⟨rfl, h⟩
      · exact ⟨rfl, h0 (fun ⟨p, hp, e⟩ => h p hp e)⟩
      · exact ⟨rfl, h1 h⟩
    | succ d ih =>
      intro k x hk h
      unfold w_X6_hasPicture_L4
      rw [hn, nI_clamp (show k < 2 ^ 31 by omega), nI_1]
      refine ⟨fun q => absurd q (nI_ge (by omega) (by omega)), fun _ => ⟨fun q => ?_, fun q => ⟨vp_in_nI (by omega) (by omega), fun r => ?_, fun r => ?_⟩⟩⟩
      · refine ih (k + 1) 1 (by omega) ?_
        rcases h with ⟨e, -⟩ | ⟨-, h⟩
        · exact absurd e q
        · exact Or.inr ⟨rfl, h⟩
      · refine ih (k + 1) 0 (by omega) ?_
        rcases h with ⟨-, h⟩ | ⟨e, -⟩
        · refine Or.inl ⟨rfl, fun p hp => ?_⟩
          rcases Nat.lt_succ_iff_lt_or_eq.mp hp with z | z
          · exact h p z
          · subst z; exact r
        · exact absurd (q.symm.trans e) (by decide)
      · exact ih (k + 1) 1 (by omega) (Or.inr ⟨rfl, k, by omega, r⟩)
  unfold w_X6_hasPicture
  exact ⟨n + 1, L n 0 0 (by omega) (Or.inl ⟨rfl, fun p q => absurd q (Nat.not_lt_zero p)⟩)⟩
def Fl2 (nc : Nat) (P : Nat → Nat → Prop) (x : Int32) (a b : Nat) : Prop := (x = 1 ∧ ∀ i c, i < nc → c < nc → (i < a ∨ (i = a ∧ c < b)) → P i c) ∨ (x = 0 ∧ ∃ i c, i < nc ∧ c < nc ∧ ¬ P i c)
theorem Fl2.next {nc : Nat} {P : Nat → Nat → Prop} {x : Int32} {a b : Nat} (h : Fl2 nc P x a b) (hp : P a b) : Fl2 nc P x a (b + 1) := by
  rcases h with ⟨e, h⟩ | h
  · refine Or.inl ⟨e, fun i c hi hc q => ?_⟩
    by_cases r : i = a ∧ c = b
    · rw [r.1, r.2]; exact hp
    · exact h i c hi hc (by omega)
  · exact Or.inr h
def IP (HP : Nat → Prop) (T U : Mat) : Nat → Nat → Prop := fun i c => (i = 0 ∨ c = 0 ∨ (HP i ∧ HP c)) → T i c = U i c
theorem s_idle110 {post : Int32 → St → Prop} {K : Int32 → Int32 → St → Prop} {s : St} {nc a b : Nat} {x : Int32} {T U : Mat} {HP : Nat → Prop} (hT : RM (s.2 10) T) (hU : RM (s.2 11) U) (bT : Bd 400000 T) (bU : Bd 400000 U) (hnc : nc ≤ 8) (ha : a < nc) (hb : b < nc) (h : Fl2 nc (IP HP T U) x a b) (hc : a = 0 ∨ b = 0 ∨ (HP a ∧ HP b)) (hK : ∀ x', Fl2 nc (IP HP T U) x' a (b + 1) → K x' (nI (b + 1)) s) : w_X6_idle_J110 post K x (nI a) (nI b) s := by
  have ha8 : a < 8 := by omega
  have hb8 : b < 8 := by omega
  have b1 := bT a b ha8 hb8
  have b2 := bU a b ha8 hb8
  unfold w_X6_idle_J110
  rw [nI_1, ix8_c ha8 hb8, hT a b ha8 hb8, hU a b ha8 hb8]
  refine ⟨fun q => hK 0 ?_, fun q => ⟨ix8_in ha8 hb8, ix8_in ha8 hb8, fun r => hK 0 (Or.inr ⟨rfl, a, b, ha, hb, fun z => r (by rw [z hc])⟩), fun r => hK 1 ?_⟩⟩
  · rcases h with ⟨e, -⟩ | ⟨-, h⟩
    · exact absurd (q.symm.trans e) (by decide)
    · exact Or.inr ⟨rfl, h⟩
  · have e := (iI_eq (by omega) (by omega) (by omega) (by omega)).mp r
    have h1 : Fl2 nc (IP HP T U) 1 a b := by
      rcases h with ⟨-, h⟩ | ⟨e, -⟩
      · exact Or.inl ⟨rfl, h⟩
      · exact absurd e q
    exact h1.next (fun _ => e)
theorem s_idle70 {post : Int32 → St → Prop} {K : Int32 → Int32 → St → Prop} {s : St} {nc n a : Nat} {T U : Mat} (hn : s.1 2 = nI nc) (hn4 : s.1 4 = nI n) (hb : n ≤ 120) (hT : RM (s.2 10) T) (hU : RM (s.2 11) U) (bT : Bd 400000 T) (bU : Bd 400000 U) (hnc : nc ≤ 8) (ha : a < nc)
    (hK : ∀ x', Fl2 nc (IP (HasP n (s.2 1)) T U) x' a nc → K x' (nI nc) s) : ∀ (d b : Nat) (x : Int32), b + d = nc → Fl2 nc (IP (HasP n (s.2 1)) T U) x a b → w_X6_idle_L70 (nI a) post K (d + 1) x (nI b) s := by
  intro d
  induction d with
  | zero =>
    intro b x hbd h
    have e : b = nc := by omega
    subst e
    unfold w_X6_idle_L70
    rw [hn]
    exact ⟨fun _ => hK x h, fun q => absurd (nI_le (Nat.le_refl b) (by omega)) q⟩
  | succ d ih =>
    intro b x hbd h
    have hb : b < nc := by omega
    unfold w_X6_idle_L70
    rw [hn]
    have nx : ∀ x', Fl2 nc (IP (HasP n (s.2 1)) T U) x' a (b + 1) → w_X6_idle_L70 (nI a) post K (d + 1) x' (nI (b + 1)) s := fun x' h' => ih (b + 1) x' (by omega) h'
    refine ⟨fun q => absurd q (nI_ge hb (by omega)), fun _ => ⟨fun a0 => ?_, fun a0 => ⟨fun b0 => ?_, fun b0 => ?_⟩⟩⟩
    · have e : a = 0 := (nI_eq (by omega) (by omega)).mp (a0.trans nI_0.symm)
      exact s_idle110 hT hU bT bU hnc ha hb h (Or.inl e) nx
    · have e : b = 0 := (nI_eq (by omega) (by omega)).mp (b0.trans nI_0.symm)
      exact s_idle110 hT hU bT bU hnc ha hb h (Or.inr (Or.inl e)) nx
    · have ea : a ≠ 0 := fun e => a0 (by rw [e]; rfl)
      have eb : b ≠ 0 := fun e => b0 (by rw [e]; rfl)
      rw [nI_1]
      refine s_hasPic hn4 (by omega) (fun pa => ⟨fun e => absurd e (by decide), fun _ => s_hasPic hn4 (by omega) (fun pb => ⟨fun _ => ?_, fun e => absurd e (by decide)⟩) (fun pb => ⟨fun e => absurd rfl e, fun _ => nx x (h.next (fun z => ?_))⟩)⟩) (fun pa => ⟨fun _ => nx x (h.next (fun z => ?_)), fun e => absurd rfl e⟩)
      · exact s_idle110 hT hU bT bU hnc ha hb h (Or.inr (Or.inr ⟨pa, pb⟩)) nx
      · rcases z with z | z | z
        · exact absurd z ea
        · exact absurd z eb
        · exact absurd z.2 pb
      · rcases z with z | z | z
        · exact absurd z ea
        · exact absurd z eb
        · exact absurd z.1 pa
theorem s_idle58 {post : Int32 → St → Prop} {K : Int32 → Int32 → St → Prop} {s : St} {nc n : Nat} {T U : Mat} (hn : s.1 2 = nI nc) (hn4 : s.1 4 = nI n) (hb : n ≤ 120) (hT : RM (s.2 10) T) (hU : RM (s.2 11) U) (bT : Bd 400000 T) (bU : Bd 400000 U) (hnc : nc ≤ 8)
    (hK : ∀ x', Fl2 nc (IP (HasP n (s.2 1)) T U) x' nc 0 → K x' (nI nc) s) : ∀ (d a : Nat) (x : Int32), a + d = nc → Fl2 nc (IP (HasP n (s.2 1)) T U) x a 0 → w_X6_idle_L58 post K (d + 1) x (nI a) s := by
  intro d
  induction d with
  | zero =>
    intro a x had h
    have e : a = nc := by omega
    subst e
    unfold w_X6_idle_L58
    rw [hn]
    exact ⟨fun _ => hK x h, fun q => absurd (nI_le (Nat.le_refl a) (by omega)) q⟩
  | succ d ih =>
    intro a x had h
    unfold w_X6_idle_L58
    rw [hn]
    refine ⟨fun q => absurd q (nI_ge (by omega) (by omega)), fun _ => ⟨nc + 1, ?_⟩⟩
    refine s_idle70 hn hn4 hb hT hU bT bU hnc (by omega) (fun x' h' => ?_) nc 0 x (by omega) h
    rw [nI_1]
    refine ih (a + 1) x' (by omega) ?_
    rcases h' with ⟨e, h'⟩ | h'
    · exact Or.inl ⟨e, fun i c hi hc q => h' i c hi hc (by omega)⟩
    · exact Or.inr h'
theorem st_idle (j : Nat) (σx σm : St) (y0 : Int32) (hj : j < 512) (h : Rel j σx σm) : w_X5_idle σx y0 (fun r u => w_X6_idle σm y0 (fun r2 u2 => r = r2 ∧ Rel (j + 1) u u2)) := by
  obtain ⟨nc, np, n, nt, ne, h⟩ := h
  obtain ⟨⟨b1, b2, b3, b4, b5⟩, hx, hm, h4, h5, h6, h7, h8⟩ := id h
  have bad : ∀ v : Int32, Rel (j + 1) (va_up σx.1 2 v, σx.2) (va_up (va_up σm.1 0 0) 1 v, σm.2) := fun v => ((h.keepM (KM.z σm 0)).trouble v).rel
  obtain ⟨mn, ess, pi, ca, cb, clo, chi, T, hM, hX, hRM, hT⟩ := id h7
  unfold w_X5_idle w_X6_idle
  refine s_slotOf hx.2.2.2.1 b4 (fun hno => ⟨fun e => absurd rfl e, fun _ => ?_⟩) (fun s hs es => ⟨fun _ => ?_, fun e => absurd e (nI_m1 (by omega))⟩)
  · unfold w_X5_refuse
    refine s_tieAt (σ := (va_up σm.1 0 0, σm.2)) hm.2.2.2.1 b4 (fun _ => ⟨fun e => absurd rfl e, fun _ => ?_⟩) (fun k hk ek => ?_)
    · unfold w_X6_refused
      exact ⟨rfl, bad 1⟩
    · exfalso
      obtain ⟨s, hs, e⟩ := hX.2.2 k hk
      refine hno s hs ?_
      rw [(hX.1 s hs).2.1, e, ← (hM.1 k hk).1]
      exact ek
  have hk := (hX.1 s hs).1
  have hlr : ∀ t, t < nt → (nI t ≠ nI s ↔ nI (pi t) ≠ nI (pi s)) := by
    intro t ht
    have := (hX.1 t ht).1
    constructor
    · intro q e
      exact q (by rw [hX.2.1 t s ht hs ((nI_eq (by omega) (by omega)).mp e)])
    · intro q e
      exact q (by rw [(nI_eq (by omega) (by omega)).mp e])
  have hess := fun i hi => (hM.1 i hi).2.2.1
  have fC : ∃ v, Feas (ClE ess nt (nI (pi s))) v := by
    obtain ⟨v, hv⟩ := tight_feas hT
    exact ⟨v, hv.1, hv.2.1, fun a b w ha hb ⟨i, hi, _, hm2⟩ => hv.2.2 a b w ha hb ((mem_esAll nt).mpr ⟨i, hi, hm2⟩)⟩
  have fA : ∃ v, Feas (ClE ess nt (-1)) v := by
    obtain ⟨v, hv⟩ := tight_feas hT
    exact ⟨v, hv.1, hv.2.1, fun a b w ha hb e => hv.2.2 a b w ha hb ((clE_all ess b4 a b w).mp e)⟩
  have hepr : ∀ r : Int32, EP nc (HasP n (σm.2 1)) (ClE ess nt r) := by
    rintro r a b w ⟨i, hi, -, he⟩
    exact tieE_ep (hess i hi) (hM.1 i hi).2.2.2 h6 b1 b3 he
  have hTc : Tight (ClE ess nt (-1)) T := tight_congr hT (fun a b w _ _ => (clE_all ess b4 a b w).symm)
  unfold w_X3_isOfNoMatter
  refine s_draw_a5 (σ := (va_up σx.1 2 0, σx.2)) (ca := ca) (cb := cb) (clo := clo) (chi := chi) hx.2.2.2.1 b4 (fun t ht => (hX.1 t ht).2.2.1) ?_ (fun τ U hs2 hU hTU => ?_)
  · obtain ⟨v, hv⟩ := fC
    exact ⟨v, (tx_feas hX hlr v).mpr hv⟩
  have hU2 : Tight (ClE ess nt (nI (pi s))) U := tight_feq hTU (fun v => tx_feas hX hlr v)
  have h16 : τ.2 16 = σx.2 16 := hs2.2 16 (by decide)
  have h16R : RM (τ.2 16) (neg T) := by rw [h16]; exact hRM
  have bU0 : Bd 400000 U := fun a b ha hb => tight_bd hU2 ha hb
  have bT0 : Bd 400000 T := fun a b ha hb => tight_bd hT ha hb
  -- the reference's answer
  have ref : ∀ (υ : St) (w : Int32), KX σx υ → ((w = 1 ∧ ∀ a b, a < 8 → b < 8 → T a b = U a b) ∨ (w = 0 ∧ ¬ ∀ a b, a < 8 → b < 8 → T a b = U a b)) → w_X6_tieAt ((va_up σm.1 0 0), σm.2) y0 (fun r_1 u_2 => ((¬ r_1 = (-1) → w_X6_closed_a10 u_2 (-1) (fun r_4 u_5 => ((r_4 = 0 → w_X6_idle_J50 (fun r2 u2 => w = r2 ∧ Rel (j + 1) (va_up υ.1 2 0, υ.2) u2) u_5) ∧ (¬ r_4 = 0 → w_X6_closed_a11 u_5 r_1 (fun r_53 u_54 => ((r_53 = 0 → w_X6_idle_J50 (fun r2 u2 => w = r2 ∧ Rel (j + 1) (va_up υ.1 2 0, υ.2) u2) u_54) ∧ (¬ r_53 = 0 → (∃ n_64, w_X6_idle_L58 (fun r2 u2 => w = r2 ∧ Rel (j + 1) (va_up υ.1 2 0, υ.2) u2) (fun x4_56 x5_57 s_58 => ((x4_56 = 0 → w_X6_done s_58 0 (fun r_60 u_61 => w = r_60 ∧ Rel (j + 1) (va_up υ.1 2 0, υ.2) u_61)) ∧ (¬ x4_56 = 0 → w_X6_done s_58 1 (fun r_62 u_63 => w = r_62 ∧ Rel (j + 1) (va_up υ.1 2 0, υ.2) u_63)))) n_64 1 0 u_54)))))))) ∧ (r_1 = (-1) → w_X6_refused u_2 1 (fun r_65 u_66 => w = r_65 ∧ Rel (j + 1) (va_up υ.1 2 0, υ.2) u_66)))) := by
    intro υ w hυ hw
    refine s_tieAt (σ := (va_up σm.1 0 0, σm.2)) hm.2.2.2.1 b4 (fun hno => ?_) (fun k hkk ek => ⟨fun _ => ?_, fun e => absurd e (nI_m1 (by omega))⟩)
    · exfalso
      refine hno (pi s) hk ?_
      show σm.2 5 (pi s) = y0
      rw [(hM.1 (pi s) hk).1, ← (hX.1 s hs).2.1]
      exact es
    · have ek2 : σm.2 5 k = y0 := ek
      have hkp : k = pi s := by
        refine hM.2 k (pi s) hkk hk ?_
        have q1 := (hM.1 k hkk)
        have q2 := (hM.1 (pi s) hk)
        have q3 := (hX.1 s hs).2.1
        have : nI (mn k) = nI (mn (pi s)) := by rw [← q1.1, ek2, ← es, q3]
        exact (nI_eq (by omega) (by omega)).mp this
      subst hkp
      refine s_closed_a10 (σ := (va_up σm.1 0 0, σm.2)) (ess := ess) hm.2.2.2.1 b4 hess fA (fun τ1 T1 hs3 hT1 hTT1 => ⟨fun e => absurd e (by decide), fun _ => ?_⟩)
      refine s_closed_a11 (σ := τ1) (ess := ess) (by rw [hs3.1]; exact hm.2.2.2.1) b4 (fun i hi => ?_) fC (fun τ2 U1 hs4 hU1 hTU1 => ⟨fun e => absurd e (by decide), fun _ => ⟨nc + 1, ?_⟩⟩)
      · rw [hs3.2 6 (by decide), hs3.2 7 (by decide), hs3.2 8 (by decide), hs3.2 9 (by decide), hs3.2 1 (by decide), hs3.2 2 (by decide)]
        exact hess i hi
      have hkm : KM (va_up σm.1 0 0, σm.2) τ2 := (hs3.km (by decide)).trans (hs4.km (by decide))
      have e1 : τ2.2 1 = σm.2 1 := hkm.2 1 (by decide)
      have hfin := idle_iff (nc := nc) hTT1 hTU1 (hepr _) (hepr _)
      have hTe : ∀ a b, a < 8 → b < 8 → T1 a b = T a b := fun a b ha hb => tight_unique hTT1 hTc ha hb
      have hUe : ∀ a b, a < 8 → b < 8 → U1 a b = U a b := fun a b ha hb => tight_unique hTU1 hU2 ha hb
      have last : Rel (j + 1) (va_up υ.1 2 0, υ.2) (va_up τ2.1 1 0, τ2.2) := ((h.keep hυ ((KM.z σm 0).trans hkm)).trouble 0).rel
      have hn2 : τ2.1 2 = nI nc := by rw [hkm.1 2 (by decide)]; exact hm.1
      have hn4 : τ2.1 4 = nI n := by rw [hkm.1 4 (by decide)]; exact hm.2.2.1
      have hT2 : RM (τ2.2 10) T1 := by rw [hs4.2 10 (by decide)]; exact hT1
      refine s_idle58 (T := T1) (U := U1) hn2 hn4 b3 hT2 hU1 (fun a b ha hb => tight_bd hTT1 ha hb) (fun a b ha hb => tight_bd hTU1 ha hb) b1 (fun x' hx' => ?_) nc 0 1 (by omega) (Or.inl ⟨rfl, fun i c _ _ q => absurd q (by omega)⟩)
      unfold w_X6_done
      rw [e1] at hx'
      rcases hx' with ⟨rfl, hx'⟩ | ⟨rfl, i, c, hi, hc, hx'⟩
      · refine ⟨fun e => absurd e (by decide), fun _ => ⟨?_, last⟩⟩
        have all := hfin.mpr (fun a b ha hb _ _ hc => hx' a b ha hb (by omega) hc)
        rcases hw with ⟨e, -⟩ | ⟨-, q⟩
        · exact e
        · exact absurd (fun a b ha hb => by rw [← hTe a b ha hb, ← hUe a b ha hb]; exact all a b ha hb) q
      · refine ⟨fun _ => ⟨?_, last⟩, fun e => absurd rfl e⟩
        rcases hw with ⟨-, q⟩ | ⟨e, -⟩
        · exfalso
          refine hx' (fun _ => ?_)
          rw [hTe i c (by omega) (by omega), hUe i c (by omega) (by omega)]
          exact q i c (by omega) (by omega)
        · exact e
  have hkx : KX σx (σx.1, va_up (va_up τ.2 15 (τ.2 15)) 16 (τ.2 16)) := by
    refine ⟨rfl, fun J j1 j2 j3 => ?_⟩
    show va_up (va_up τ.2 15 (τ.2 15)) 16 (τ.2 16) J = σx.2 J
    by_cases q : J = 16
    · rw [q, va_up_self]; exact h16
    · rw [va_up_ne _ _ q, va_up_ne _ _ j3]
      exact hs2.2 J j3
  refine s_sameAs (f := (τ.2 15, τ.2 16)) (fun hall => ⟨rfl, fun e => absurd e (by decide), fun _ => ?_⟩) (fun hex => ⟨rfl, fun _ => ?_, fun e => absurd rfl e⟩)
  · have r := ref _ 1 hkx (Or.inl ⟨rfl, fun a b ha hb => ?_⟩)
    · have e1 : τ.1 = va_up σx.1 2 0 := hs2.1
      rw [e1]
      exact r
    · have q := hall (8 * b + a) (by omega)
      have q1 : τ.2 15 (8 * b + a) = τ.2 16 (8 * b + a) := q
      rw [hU b a hb ha, h16R b a hb ha] at q1
      have q2 : iI (U a b) = iI (T a b) := q1
      have c1 := bU0 a b ha hb
      have c2 := bT0 a b ha hb
      exact ((iI_eq (by omega) (by omega) (by omega) (by omega)).mp q2).symm
  · have r := ref _ 0 hkx (Or.inr ⟨rfl, fun all => ?_⟩)
    · have e1 : τ.1 = va_up σx.1 2 0 := hs2.1
      rw [e1]
      exact r
    · obtain ⟨k, hk64, hne⟩ := hex
      refine hne ?_
      show τ.2 15 k = τ.2 16 k
      have ek : k = 8 * (k / 8) + k % 8 := by omega
      rw [ek, hU (k / 8) (k % 8) (by omega) (by omega), h16R (k / 8) (k % 8) (by omega) (by omega)]
      show iI (U (k % 8) (k / 8)) = iI (T (k % 8) (k / 8))
      rw [all (k % 8) (k / 8) (by omega) (by omega)]
