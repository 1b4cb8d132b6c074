/-! a tie is told: both take it, or both refuse it with the same fewest -/
theorem tight_feq {E F : Edg} {T : Mat} (h : Tight E T) (hEF : ∀ v, Feas E v ↔ Feas F v) : Tight F T := by
  refine ⟨fun v hv => h.1 v ((hEF v).mpr hv), fun a b ha hb => ?_⟩
  obtain ⟨v, hv, e⟩ := h.2 a b ha hb
  exact ⟨v, (hEF v).mp hv, e⟩
theorem feas_link {E F : Edg} (h1 : ∀ a b w, a < 8 → b < 8 → F a b w → E a b w) (h2 : ∀ a b w, a < 8 → b < 8 → E a b w → F a b w ∨ 1000000 ≤ w) (v : Nat → Int) : Feas E v ↔ Feas F v := by
  constructor
  · exact fun h => ⟨h.1, h.2.1, fun a b w ha hb e => h.2.2 a b w ha hb (h1 a b w ha hb e)⟩
  · refine fun h => ⟨h.1, h.2.1, fun a b w ha hb e => ?_⟩
    rcases h2 a b w ha hb e with q | q
    · exact h.2.2 a b w ha hb q
    · have := h.2.1 a ha
      have := h.2.1 b hb
      omega
theorem brk_corr {a b : Nat} {lo hi : Int} {es : List Ed} (hR : Corr a b lo hi es) {M : Mat} (hB : Bd 400000 M) (ha : a < 8) (hb : b < 8) : Brk es M ↔ (hi + M a b < 0 ∨ -lo + M b a < 0) := by
  constructor
  · rintro ⟨e, he, h⟩
    rcases List.mem_cons.mp (hR.1 e he) with q | q
    · subst q; exact Or.inl h
    · rw [List.mem_singleton] at q
      subst q; exact Or.inr h
  · have b1 := hB a b ha hb
    have b2 := hB b a hb ha
    rintro (h | h)
    · rcases hR.2 (b, a, hi) List.mem_cons_self with q | q
      · exact ⟨_, q, h⟩
      · have q2 : 1000000 ≤ hi := q
        omega
    · rcases hR.2 (a, b, -lo) (List.mem_cons_of_mem _ List.mem_cons_self) with q | q
      · exact ⟨_, q, h⟩
      · have q2 : 1000000 ≤ -lo := q
        omega
theorem clE_all (ess : Nat → List Ed) {nt : Nat} (hnt : nt ≤ 60) (a b : Nat) (w : Int) : ClE ess nt (-1) a b w ↔ EdOf (esAll ess nt) a b w := by
  unfold ClE EdOf
  rw [mem_esAll]
  constructor
  · rintro ⟨k, hk, -, h⟩
    exact ⟨k, hk, h⟩
  · rintro ⟨k, hk, h⟩
    refine ⟨k, hk, fun e => ?_, h⟩
    have := congrArg Int32.toInt e
    rw [nI_toInt (by omega)] at this
    have z : (k : Int) = -1 := this
    omega
theorem tm_ok {nc n nt ne : Nat} {m1 m2 m5 m6 m7 m8 m9 : Nat → Int32} {mn : Nat → Nat} {ess : Nat → List Ed} (hM : TM nc n nt ne m1 m2 m5 m6 m7 m8 m9 mn ess) : EdOk (esAll ess nt) := by
  intro e he
  obtain ⟨k, hk, hm⟩ := (mem_esAll nt).mp he
  have := tieE_ok (hM.1 k hk).2.2.1 e hm
  exact ⟨this.1, this.2.1⟩
theorem tx_link {nt : Nat} {x5 x6 x7 x8 x9 : Nat → Int32} {mn : Nat → Nat} {ess : Nat → List Ed} {pi ca cb : Nat → Nat} {clo chi : Nat → Int} (hX : TX nt x5 x6 x7 x8 x9 mn ess pi ca cb clo chi) : Link (esAll ess nt) nt ca cb clo chi := by
  refine ⟨fun e he => ?_, fun s hs e he => ?_⟩
  · obtain ⟨k, hk, hm⟩ := (mem_esAll nt).mp he
    obtain ⟨s, hs, rfl⟩ := hX.2.2 k hk
    exact ⟨s, hs, (hX.1 s hs).2.2.2.1 e hm⟩
  · obtain ⟨h1, h2, h3, h4⟩ := hX.1 s hs
    have hab : e.1 < 8 ∧ e.2.1 < 8 := by
      rcases List.mem_cons.mp he with q | q
      · subst q; exact ⟨h3.2.1, h3.1⟩
      · rw [List.mem_singleton] at q
        subst q; exact ⟨h3.1, h3.2.1⟩
    refine ⟨hab.1, hab.2, ?_⟩
    rcases h4.2 e he with q | q
    · exact Or.inl ((mem_esAll nt).mpr ⟨pi s, h1, q⟩)
    · exact Or.inr q
/-- the class's fewest against a tie's two limits -/
theorem s_xfew {post : Int32 → St → Prop} {σ : St} {nt : Nat} {ca cb : Nat → Nat} {clo chi : Nat → Int} {es : List Ed} {T : Mat} {a b : Nat} {lo hi : Int} (hn : σ.1 6 = nI nt) (hnt : nt ≤ 60) (hC : TiesC σ nt ca cb clo chi) (hok : EdOk es) (hl : Link es nt ca cb clo chi) (hT : Tight (EdOf es) T) (ha : a < 8) (hb : b < 8) (hw : -1000000 ≤ lo ∧ lo ≤ 1000000 ∧ -1000000 ≤ hi ∧ hi ≤ 1000000)
    (hp : ∀ τ N, Same2 10 11 σ τ → N ≤ 8 → (∀ i, i < N → 0 ≤ hi + layL es i a b ∧ 0 ≤ -lo + layL es i b a) → (N = 8 ∨ hi + layL es N a b < 0 ∨ -lo + layL es N b a < 0) → post (nI N) τ) : w_X3_fewestAgainst σ (nI a) (nI b) (iI lo) (iI hi) post := by
  unfold w_X3_fewestAgainst
  refine s_lim hn hnt hC hok hl hT ha hb (by omega) (fun τ n1 hs1 l1 g1 g2 => ?_)
  rw [iI_neg]
  refine s_lim (ca := ca) (cb := cb) (clo := clo) (chi := chi) (by rw [hs1.1]; exact hn) hnt (fun k hk => ?_) hok hl hT hb ha (by omega) (fun τ2 n2 hs2 l2 g3 g4 => ?_)
  · have g := hC k hk
    rw [← hs1.2 6 (by decide) (by decide), ← hs1.2 7 (by decide) (by decide), ← hs1.2 8 (by decide) (by decide), ← hs1.2 9 (by decide) (by decide)] at g
    exact g
  · by_cases q : n2 < n1
    · rw [if_pos (nI_lt q (by omega))]
      refine hp τ2 n2 (hs1.trans hs2) l2 (fun i hi => ⟨?_, ?_⟩) ?_
      · have := g1 i (by omega); omega
      · have := g3 i hi; omega
      · rcases g4 with g4 | g4
        · exact Or.inl g4
        · exact Or.inr (Or.inr (by omega))
    · rw [if_neg (nI_nlt (by omega) (by omega))]
      refine hp τ2 n1 (hs1.trans hs2) l1 (fun i hi => ⟨?_, ?_⟩) ?_
      · have := g1 i hi; omega
      · have := g3 i (by omega); omega
      · rcases g2 with g2 | g2
        · exact Or.inl g2
        · exact Or.inr (Or.inl (by omega))
theorem s_xtake {post : Int32 → St → Prop} {σ : St} {nt ne : Nat} {E : Edg} {T : Mat} {a b : Nat} {lo hi : Int} (hn : σ.1 6 = nI nt) (hb : nt < 60) (he : σ.1 7 = nI ne) (hRM : RM (σ.2 16) (neg T)) (hT : Tight E T) (hC : TieC (nI a) (nI b) (iI lo) (iI hi) a b lo hi) (h1 : 0 ≤ hi + T a b) (h2 : 0 ≤ T b a - lo)
    (hp : ∀ f U, RM f (neg U) → Tight (TieX E a b lo hi) U → post (nI ne) (va_up (va_up σ.1 6 (nI nt + 1)) 7 (nI ne + 1), va_up (va_up (va_up (va_up (va_up (va_up σ.2 5 (upd (σ.2 5) nt (nI ne))) 6 (upd (σ.2 6) nt (nI a))) 7 (upd (σ.2 7) nt (nI b))) 8 (upd (σ.2 8) nt (iI lo))) 9 (upd (σ.2 9) nt (iI hi))) 16 f)) : w_X3_take σ (nI a) (nI b) (iI lo) (iI hi) post := by
  obtain ⟨ha8, hb8, -, -, -, -, l1, l2, l3, l4, l5⟩ := hC
  unfold w_X3_take
  have hin : vp_in (nI nt) 60 := vp_in_nI hb (by omega)
  rw [hn, he, nI_clamp (show nt < 2 ^ 31 by omega)]
  have e1 : nI ne + 1 - 1 = nI ne := by
    rw [nI_1, show (1 : Int32) = nI 1 from rfl, pk_sub (by omega)]
    rfl
  rw [e1]
  exact ⟨hin, hin, hin, hin, hin, s_tighten hRM hT ha8 hb8 l1 ⟨l2, l5, l4, l3⟩ h1 h2 hp⟩
def σt (σ : St) (nt : Nat) (k o t z : Int32) : St := (σ.1, va_up (va_up (va_up (va_up σ.2 6 (upd (σ.2 6) nt k)) 7 (upd (σ.2 7) nt o)) 8 (upd (σ.2 8) nt t)) 9 (upd (σ.2 9) nt z))
/-- the reference's tie, both ways -/
theorem s_mtie {post : Int32 → St → Prop} {σ : St} {nt : Nat} {ess : Nat → List Ed} {esn : List Ed} {T : Mat} {k o t z : Int32} (hn : σ.1 5 = nI nt) (hnt : nt < 60) (hess : ∀ k, k < nt → TieE (σ.2 6 k) (σ.2 7 k) (σ.2 8 k) (σ.2 9 k) (σ.2 1) (σ.2 2) (ess k)) (hE : TieE k o t z (σ.2 1) (σ.2 2) esn) (hT : Tight (EdOf (esAll ess nt)) T)
    (hy : ¬ Brk esn T → ∀ τ, τ.1 = σ.1 → KM (σt σ nt k o t z) τ → post (σ.1 6 + 1 - 1) (va_up (va_up (va_up τ.1 5 (nI nt + 1)) 6 (τ.1 6 + 1)) 1 0, va_up τ.2 5 (upd (τ.2 5) nt (τ.1 6))))
    (hno : Brk esn T → ∃ N, Brk esn (layR (esAll ess nt) N) ∧ (∀ i, i < N → ¬ Brk esn (layR (esAll ess nt) i)) ∧ ∀ τ, τ.1 = σ.1 → KM (σt σ nt k o t z) τ → post (-1) (va_up (va_up τ.1 8 (nI N)) 1 4, τ.2)) : w_X6_tie σ k o t z post := by
  unfold w_X6_tie
  rw [hn, nI_clamp (show nt < 2 ^ 31 by omega)]
  have hin : vp_in (nI nt) 61 := vp_in_nI (by omega) (by omega)
  refine ⟨fun _ => ⟨hin, hin, hin, hin, ?_⟩, fun e => absurd ((nI_eq (b := 60) (by omega) (by omega)).mp e) (by omega)⟩
  have hessS : ∀ i, i < nt → TieE ((σt σ nt k o t z).2 6 i) ((σt σ nt k o t z).2 7 i) ((σt σ nt k o t z).2 8 i) ((σt σ nt k o t z).2 9 i) ((σt σ nt k o t z).2 1) ((σt σ nt k o t z).2 2) (ess i) := by
    intro i hi
    show TieE (upd (σ.2 6) nt k i) (upd (σ.2 7) nt o i) (upd (σ.2 8) nt t i) (upd (σ.2 9) nt z i) (σ.2 1) (σ.2 2) (ess i)
    rw [pk_un (by omega), pk_un (by omega), pk_un (by omega), pk_un (by omega)]
    exact hess i hi
  have hnewS : TieE ((σt σ nt k o t z).2 6 nt) ((σt σ nt k o t z).2 7 nt) ((σt σ nt k o t z).2 8 nt) ((σt σ nt k o t z).2 9 nt) ((σt σ nt k o t z).2 1) ((σt σ nt k o t z).2 2) esn := by
    show TieE (upd (σ.2 6) nt k nt) (upd (σ.2 7) nt o nt) (upd (σ.2 8) nt t nt) (upd (σ.2 9) nt z nt) (σ.2 1) (σ.2 2) esn
    rw [pk_us, pk_us, pk_us, pk_us]
    exact hE
  have mv : ∀ {τ : St} {i : Nat} {es : List Ed}, KM (σt σ nt k o t z) τ → TieE ((σt σ nt k o t z).2 6 i) ((σt σ nt k o t z).2 7 i) ((σt σ nt k o t z).2 8 i) ((σt σ nt k o t z).2 9 i) ((σt σ nt k o t z).2 1) ((σt σ nt k o t z).2 2) es → TieE (τ.2 6 i) (τ.2 7 i) (τ.2 8 i) (τ.2 9 i) (τ.2 1) (τ.2 2) es := by
    intro τ i es hk h
    rw [hk.2 6 (by decide), hk.2 7 (by decide), hk.2 8 (by decide), hk.2 9 (by decide), hk.2 1 (by decide), hk.2 2 (by decide)]
    exact h
  refine s_closed_a10 (σ := σt σ nt k o t z) (ess := ess) hn (by omega) hessS ?_ (fun τ U hs hU hTU => ?_)
  · obtain ⟨v, hv⟩ := tight_feas hT
    exact ⟨v, hv.1, hv.2.1, fun a b w ha hb e => hv.2.2 a b w ha hb ((clE_all ess (by omega) a b w).mp e)⟩
  have hTU2 : Tight (EdOf (esAll ess nt)) U := tight_congr hTU (fun a b w _ _ => clE_all ess (by omega) a b w)
  have eqU : ∀ a b, a < 8 → b < 8 → U a b = T a b := fun a b ha hb => tight_unique hTU2 hT ha hb
  have hkm := hs.km (by decide)
  have brkU : Brk esn U ↔ Brk esn T := by
    have hok := tieE_ok hE
    constructor
    · rintro ⟨e, he, h⟩
      exact ⟨e, he, by rw [← eqU e.2.1 e.1 (hok e he).2.1 (hok e he).1]; exact h⟩
    · rintro ⟨e, he, h⟩
      exact ⟨e, he, by rw [eqU e.2.1 e.1 (hok e he).2.1 (hok e he).1]; exact h⟩
  have hn1 : τ.1 5 = nI nt := by rw [hs.1]; exact hn
  refine s_breaks_a10 hn1 (by omega) (mv hkm hnewS) hU (fun a b ha hb => tight_bd hTU2 ha hb) (fun hb τ2 hs2 => ?_) (fun hb τ2 hs2 => ?_)
  · obtain ⟨N, g1, g2, g3⟩ := hno (brkU.mp hb)
    have hkm2 := hkm.trans (hs2.km (by decide))
    refine ⟨fun e => absurd e (by decide), fun _ => ?_⟩
    refine s_fewest (σ := τ2) (ess := ess) (by rw [hs2.1]; exact hn1) (by omega) (fun i hi => mv hkm2 (hessS i hi)) (mv hkm2 hnewS) hT g1 g2 (fun τ3 hs3 => ?_)
    unfold w_X6_refused
    refine g3 τ3 ?_ (hkm2.trans hs3.km)
    rw [hs3.1, hs2.1, hs.1]
    rfl
  · have hkm2 := hkm.trans (hs2.km (by decide))
    have e2 : τ2.1 = σ.1 := by
      rw [hs2.1, hs.1]
      rfl
    refine ⟨fun _ => ?_, fun e => absurd rfl e⟩
    have hn2 : τ2.1 5 = nI nt := by rw [e2]; exact hn
    rw [hn2, nI_clamp (show nt < 2 ^ 31 by omega)]
    refine ⟨hin, ?_⟩
    unfold w_X6_done
    have g := hy (fun q => hb (brkU.mpr q)) τ2 e2 hkm2
    rw [← e2] at g
    exact g
