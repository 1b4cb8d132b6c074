theorem non_feas : ∃ v, Feas Non v := tight_feas fst0_tight
theorem cov_non : Cov Non fst0 := ⟨fun _ _ _ _ => Int.le_refl _, fun _ _ _ _ _ h => h.elim, fun _ _ _ _ => Or.inl rfl⟩
theorem layR_bd {es : List Ed} {T : Mat} (hok : EdOk es) (hT : Tight (EdOf es) T) (n : Nat) : Bd 400000 (layR es n) := by
  intro a b ha hb
  rw [layR_eq]
  have g1 := layL_ge hok hT n a b ha hb
  have g2 := tight_bd hT ha hb
  have g3 : layL es n a b ≤ fst0 a b := by
    clear g1
    induction n with
    | zero => exact Int.le_refl _
    | succ n ih =>
      have := (layL_le es n a b).1
      omega
  have g4 := (fst0_nn a b).2
  omega
theorem sti_next {es : List Ed} {n : Nat} {Sg Lg : Mat} (hok : EdOk es) (hS : SgI es Sg) (hw : ∀ e ∈ es, e.2.2 ≤ 200000) (h : StI es (layR es n) Sg Lg 8 0 0 0) {a b : Nat} (ha : a < 8) (hb : b < 8) : Lg a b = layR es (n + 1) a b := by
  have h1 : Lg a b ≤ layR es (n + 1) a b := by
    rcases layR_at es n a b with q | ⟨e, he, q⟩
    · have := h.1 a b ha hb
      omega
    · have o := hok e he
      have g := hS.1 e he
      have g2 := hw e he
      have := h.2.2.1 e.1 e.2.1 o.1 o.2 (by omega) (by omega) a b ha hb
      omega
  have h2 : layR es (n + 1) a b ≤ Lg a b := by
    rcases h.2.1 a b ha hb with q | ⟨e, he, q⟩
    · have := (layR_le es n a b).1
      omega
    · have := (layR_le es n a b).2 e he
      omega
  omega
theorem s_fewest {post : Int32 → St → Prop} {σ : St} {nt : Nat} {ess : Nat → List Ed} {esn : List Ed} {T : Mat} {N : Nat} (hn : σ.1 5 = nI nt) (hnt : nt ≤ 60) (hess : ∀ k, k < nt → TieE (σ.2 6 k) (σ.2 7 k) (σ.2 8 k) (σ.2 9 k) (σ.2 1) (σ.2 2) (ess k)) (hnew : TieE (σ.2 6 nt) (σ.2 7 nt) (σ.2 8 nt) (σ.2 9 nt) (σ.2 1) (σ.2 2) esn)
    (hT : Tight (EdOf (esAll ess nt)) T) (hN : Brk esn (layR (esAll ess nt) N)) (hmin : ∀ i, i < N → ¬ Brk esn (layR (esAll ess nt) i)) (hp : ∀ τ, SameS σ τ → post (nI N) τ) : w_X6_fewest σ post := by
  have hok4 : ∀ e ∈ esAll ess nt, e.1 < 8 ∧ e.2.1 < 8 ∧ -200001 ≤ e.2.2 ∧ e.2.2 ≤ 200000 := by
    intro e he
    obtain ⟨k, hk, hm⟩ := (mem_esAll nt).mp he
    exact tieE_ok (hess k hk) e hm
  have hok : EdOk (esAll ess nt) := fun e he => ⟨(hok4 e he).1, (hok4 e he).2.1⟩
  have tie : ∀ {s : St} {k : Nat} {es : List Ed}, SameS σ s → TieE (σ.2 6 k) (σ.2 7 k) (σ.2 8 k) (σ.2 9 k) (σ.2 1) (σ.2 2) es → TieE (s.2 6 k) (s.2 7 k) (s.2 8 k) (s.2 9 k) (s.2 1) (s.2 2) es := by
    intro s k es hs h
    rw [← hs.2 6 (by decide) (by decide) (by decide) (by decide), ← hs.2 7 (by decide) (by decide) (by decide) (by decide), ← hs.2 8 (by decide) (by decide) (by decide) (by decide), ← hs.2 9 (by decide) (by decide) (by decide) (by decide), ← hs.2 1 (by decide) (by decide) (by decide) (by decide), ← hs.2 2 (by decide) (by decide) (by decide) (by decide)] at h
    exact h
  have L44 : ∀ (d n : Nat) (s : St), n + d = N → SameS σ s → RM (s.2 13) (layR (esAll ess nt) n) → RM (s.2 15) fst0 → w_X6_fewest_L44 post (fun x2 s => post x2 s) (d + 1) (nI n) s := by
    intro d
    induction d with
    | zero =>
      intro n s hnd hs h13 h15
      have e : n = N := by omega
      subst e
      unfold w_X6_fewest_L44
      refine s_breaks_a13 (by rw [hs.1]; exact hn) (by omega) (tie hs hnew) h13 (layR_bd hok hT n) (fun hb τ hs2 => ⟨fun _ => hp τ (hs.trans (Same.s (by omega) hs2)), fun q => absurd q (by decide)⟩) (fun hb => absurd hN hb)
    | succ d ih =>
      intro n s hnd hs h13 h15
      unfold w_X6_fewest_L44
      refine s_breaks_a13 (by rw [hs.1]; exact hn) (by omega) (tie hs hnew) h13 (layR_bd hok hT n) (fun hb => absurd hb (hmin n (by omega))) (fun hb τ hs2 => ⟨fun q => absurd rfl q, fun _ => ⟨65, ?_⟩⟩)
      have hsτ := hs.trans (Same.s (by omega) hs2)
      refine s_few60 64 0 τ τ (by omega) ⟨rfl, fun _ _ _ => rfl⟩ (fun i q => absurd q (Nat.not_lt_zero i)) (fun s1 hs1 h1 => ⟨nt + 1, ?_⟩)
      have hσ1 : SameS σ s1 := hsτ.trans ⟨hs1.1, fun j j1 j2 j3 j4 => hs1.2 j j1 j3⟩
      refine s_few94 (by rw [hσ1.1]; exact hn) hnt (fun k hk => tie hσ1 (hess k hk)) nt 0 s1 farM (by omega) (Same.refl 12 s1) (fun a b ha hb => ?_) ⟨fun e he => (List.not_mem_nil he).elim, fun a b => Or.inl rfl⟩ (fun s2 Sg hss2 hSg hSI => ⟨9, ?_⟩)
      · rw [(h1 (8 * a + b) (by omega)).2]
        rfl
      have hσ2 : SameS σ s2 := hσ1.trans (Same.s (by omega) hss2)
      have w13 : RM (s2.2 13) (layR (esAll ess nt) n) := by
        rw [hss2.2 13 (by decide), hs1.2 13 (by decide) (by decide), hs2.2 13 (by decide)]
        exact h13
      have w15 : RM (s2.2 15) fst0 := by
        rw [hss2.2 15 (by decide), hs1.2 15 (by decide) (by decide), hs2.2 15 (by decide)]
        exact h15
      have w14 : RM (s2.2 14) (layR (esAll ess nt) n) := by
        intro a b ha hb
        rw [hss2.2 14 (by decide), (h1 (8 * a + b) (by omega)).1, hs1.2 13 (by decide) (by decide), hs2.2 13 (by decide)]
        exact h13 a b ha hb
      have bS : ∀ a b, a < 8 → b < 8 → -200001 ≤ Sg a b ∧ Sg a b ≤ 200000 ∨ Sg a b = 100000000 := by
        intro a b _ _
        rcases hSI.2 a b with q | q
        · exact Or.inr q
        · have := hok4 _ q
          dsimp only at this
          exact Or.inl ⟨by omega, by omega⟩
      refine s_few119 (σ := σ) (layR_bd hok hT n) bS hok4 (fun a b _ _ hne => (hSI.2 a b).resolve_left hne) 8 0 s2 _ (by omega) ⟨hσ2, hSg, w13, w15⟩ w14 ⟨fun _ _ _ _ => Int.le_refl _, fun _ _ _ _ => Or.inl rfl, fun i j _ _ q => absurd q (by omega), fun x y _ _ q => absurd q (by omega)⟩ (fun s3 Lg hc3 hL3 hI3 => ⟨65, ?_⟩)
      refine s_few251 64 0 s3 s3 (by omega) (Same.refl 13 s3) (fun i q => absurd q (Nat.not_lt_zero i)) (fun s4 hs4 h4 => ?_)
      rw [nI_1]
      refine ih (n + 1) s4 (by omega) (hc3.1.trans (Same.s (by omega) hs4)) (fun a b ha hb => ?_) ?_
      · rw [h4 (8 * a + b) (by omega), hs4.2 14 (by decide), hL3 a b ha hb, sti_next hok hSI (fun e he => (hok4 e he).2.2.2) hI3 ha hb]
      · rw [hs4.2 15 (by decide)]
        exact hc3.2.2.2
  unfold w_X6_fewest
  refine s_first_a15 (fun τ0 hs0 h0 => ?_)
  obtain ⟨g1, g2, g3⟩ := cov_fw cov_non non_feas
  refine s_closes h0 g1 g2 (fun f hf => ⟨65, ?_⟩)
  refine s_few18 64 0 _ (τ0.1, va_up τ0.2 15 f) (by omega) (Same.refl 13 _) (fun i q => absurd q (Nat.not_lt_zero i)) (fun s hs h => ⟨N + 1, ?_⟩)
  have hf0 : RM f fst0 := hf.congr (fun a b ha hb => tight_unique g3 fst0_tight ha hb)
  have h15 : s.2 15 = f := hs.2 15 (by decide)
  have hσ : SameS σ s := (Same.s (by omega) (hs0.trans (Same.up 15 τ0 f))).trans (Same.s (by omega) hs)
  refine L44 N 0 s (by omega) hσ (fun a b ha hb => ?_) (by rw [h15]; exact hf0)
  rw [h (8 * a + b) (by omega), h15]
  exact hf0 a b ha hb
