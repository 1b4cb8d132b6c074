/-! bits counted, by the JDK and by the reference -/
theorem nI_and {a b : Nat} (ha : a < 2 ^ 32) (hb : b < 2 ^ 32) : nI a &&& nI b = nI (a &&& b) := by
  apply Int32.toBitVec_inj.mp
  apply BitVec.eq_of_toNat_eq
  rw [Int32.toBitVec_and, BitVec.toNat_and, pk_tn ha, pk_tn hb, pk_tn (Nat.lt_of_le_of_lt Nat.and_le_left ha)]
theorem nI_or {a b : Nat} (ha : a < 2 ^ 32) (hb : b < 2 ^ 32) : nI a ||| nI b = nI (a ||| b) := by
  apply Int32.toBitVec_inj.mp
  apply BitVec.eq_of_toNat_eq
  rw [Int32.toBitVec_or, BitVec.toNat_or, pk_tn ha, pk_tn hb, pk_tn (Nat.or_lt_two_pow ha hb)]
theorem nI_xor {a b : Nat} (ha : a < 2 ^ 32) (hb : b < 2 ^ 32) : nI a ^^^ nI b = nI (a ^^^ b) := by
  apply Int32.toBitVec_inj.mp
  apply BitVec.eq_of_toNat_eq
  rw [Int32.toBitVec_xor, BitVec.toNat_xor, pk_tn ha, pk_tn hb, pk_tn (Nat.xor_lt_two_pow ha hb)]
def bcA (m : Nat) : Nat := Nat.sub m (Nat.land (Nat.div m 2) 1431655765)
def bcB (a : Nat) : Nat := Nat.add (Nat.land a 858993459) (Nat.land (Nat.div a 4) 858993459)
def bcC (b : Nat) : Nat := Nat.land (Nat.add b (Nat.div b 16)) 252645135
def bcD (c : Nat) : Nat := Nat.add c (Nat.div c 256)
def bcE (d : Nat) : Nat := Nat.land (Nat.add d (Nat.div d 65536)) 63
noncomputable def pcF (n : Nat) : Nat → Nat := Nat.rec (motive := fun _ => Nat → Nat) (fun _ => 1000) (fun _ ih m => cond (Nat.beq m 0) 0 (Nat.add (ih (Nat.land m (Nat.sub m 1))) 1)) n
noncomputable def pcB (m : Nat) : Nat := pcF 17 m
noncomputable def bcK (m : Nat) : Bool := and (Nat.beq (bcE (bcD (bcC (bcB (bcA m))))) (pcF 17 m)) (Nat.ble (pcF 17 m) 16)
theorem bcT_0 : (List.range 4096).all (fun i => bcK (0 + i)) = true := by decide +kernel
theorem bcT_1 : (List.range 4096).all (fun i => bcK (4096 + i)) = true := by decide +kernel
theorem bcT_2 : (List.range 4096).all (fun i => bcK (8192 + i)) = true := by decide +kernel
theorem bcT_3 : (List.range 4096).all (fun i => bcK (12288 + i)) = true := by decide +kernel
theorem bcT_4 : (List.range 4096).all (fun i => bcK (16384 + i)) = true := by decide +kernel
theorem bcT_5 : (List.range 4096).all (fun i => bcK (20480 + i)) = true := by decide +kernel
theorem bcT_6 : (List.range 4096).all (fun i => bcK (24576 + i)) = true := by decide +kernel
theorem bcT_7 : (List.range 4096).all (fun i => bcK (28672 + i)) = true := by decide +kernel
theorem bcT_8 : (List.range 4096).all (fun i => bcK (32768 + i)) = true := by decide +kernel
theorem bcT_9 : (List.range 4096).all (fun i => bcK (36864 + i)) = true := by decide +kernel
theorem bcT_10 : (List.range 4096).all (fun i => bcK (40960 + i)) = true := by decide +kernel
theorem bcT_11 : (List.range 4096).all (fun i => bcK (45056 + i)) = true := by decide +kernel
theorem bcT_12 : (List.range 4096).all (fun i => bcK (49152 + i)) = true := by decide +kernel
theorem bcT_13 : (List.range 4096).all (fun i => bcK (53248 + i)) = true := by decide +kernel
theorem bcT_14 : (List.range 4096).all (fun i => bcK (57344 + i)) = true := by decide +kernel
theorem bcT_15 : (List.range 4096).all (fun i => bcK (61440 + i)) = true := by decide +kernel
theorem bcK_all {m : Nat} (h : m < 65536) : bcK m = true := by
  by_cases q0 : m < 4096
  · have := List.all_eq_true.mp bcT_0 (m - 0) (List.mem_range.mpr (by omega))
    rw [show 0 + (m - 0) = m by omega] at this
    exact this
  by_cases q1 : m < 8192
  · have := List.all_eq_true.mp bcT_1 (m - 4096) (List.mem_range.mpr (by omega))
    rw [show 4096 + (m - 4096) = m by omega] at this
    exact this
  by_cases q2 : m < 12288
  · have := List.all_eq_true.mp bcT_2 (m - 8192) (List.mem_range.mpr (by omega))
    rw [show 8192 + (m - 8192) = m by omega] at this
    exact this
  by_cases q3 : m < 16384
  · have := List.all_eq_true.mp bcT_3 (m - 12288) (List.mem_range.mpr (by omega))
    rw [show 12288 + (m - 12288) = m by omega] at this
    exact this
  by_cases q4 : m < 20480
  · have := List.all_eq_true.mp bcT_4 (m - 16384) (List.mem_range.mpr (by omega))
    rw [show 16384 + (m - 16384) = m by omega] at this
    exact this
  by_cases q5 : m < 24576
  · have := List.all_eq_true.mp bcT_5 (m - 20480) (List.mem_range.mpr (by omega))
    rw [show 20480 + (m - 20480) = m by omega] at this
    exact this
  by_cases q6 : m < 28672
  · have := List.all_eq_true.mp bcT_6 (m - 24576) (List.mem_range.mpr (by omega))
    rw [show 24576 + (m - 24576) = m by omega] at this
    exact this
  by_cases q7 : m < 32768
  · have := List.all_eq_true.mp bcT_7 (m - 28672) (List.mem_range.mpr (by omega))
    rw [show 28672 + (m - 28672) = m by omega] at this
    exact this
  by_cases q8 : m < 36864
  · have := List.all_eq_true.mp bcT_8 (m - 32768) (List.mem_range.mpr (by omega))
    rw [show 32768 + (m - 32768) = m by omega] at this
    exact this
  by_cases q9 : m < 40960
  · have := List.all_eq_true.mp bcT_9 (m - 36864) (List.mem_range.mpr (by omega))
    rw [show 36864 + (m - 36864) = m by omega] at this
    exact this
  by_cases q10 : m < 45056
  · have := List.all_eq_true.mp bcT_10 (m - 40960) (List.mem_range.mpr (by omega))
    rw [show 40960 + (m - 40960) = m by omega] at this
    exact this
  by_cases q11 : m < 49152
  · have := List.all_eq_true.mp bcT_11 (m - 45056) (List.mem_range.mpr (by omega))
    rw [show 45056 + (m - 45056) = m by omega] at this
    exact this
  by_cases q12 : m < 53248
  · have := List.all_eq_true.mp bcT_12 (m - 49152) (List.mem_range.mpr (by omega))
    rw [show 49152 + (m - 49152) = m by omega] at this
    exact this
  by_cases q13 : m < 57344
  · have := List.all_eq_true.mp bcT_13 (m - 53248) (List.mem_range.mpr (by omega))
    rw [show 53248 + (m - 53248) = m by omega] at this
    exact this
  by_cases q14 : m < 61440
  · have := List.all_eq_true.mp bcT_14 (m - 57344) (List.mem_range.mpr (by omega))
    rw [show 57344 + (m - 57344) = m by omega] at this
    exact this
  have := List.all_eq_true.mp bcT_15 (m - 61440) (List.mem_range.mpr (by omega))
  rw [show 61440 + (m - 61440) = m by omega] at this
  exact this
theorem pcB_spec {m : Nat} (h : m < 65536) : bcE (bcD (bcC (bcB (bcA m)))) = pcB m ∧ pcB m ≤ 16 := by
  have k : (Nat.beq (bcE (bcD (bcC (bcB (bcA m))))) (pcF 17 m) && Nat.ble (pcF 17 m) 16) = true := bcK_all h
  rw [Bool.and_eq_true] at k
  exact ⟨Nat.eq_of_beq_eq_true k.1, Nat.le_of_ble_eq_true k.2⟩
theorem x_bitCount {m : Nat} (h : m < 65536) {post : Int32 → Unit → Prop} (hq : post (nI (pcB m)) ()) : w_J6_bitCount_0f7a4 (nI m) post := by
  have e1 : nI m - ((Int32.toUInt32 (nI m) >>> (Int32.toUInt32 1 &&& Int32.toUInt32 31)).toInt32 &&& 1431655765) = nI (bcA m) := by
    rw [pk_ushrN (show m < 2 ^ 32 by omega) 1 1 (by decide), show (1431655765 : Int32) = nI 1431655765 from rfl, nI_and (by omega) (by omega), pk_sub (Nat.le_trans Nat.and_le_left (Nat.div_le_self _ _))]
    rfl
  have l1 : bcA m ≤ m := Nat.sub_le _ _
  have e2 : (nI (bcA m) &&& 858993459) + ((Int32.toUInt32 (nI (bcA m)) >>> (Int32.toUInt32 2 &&& Int32.toUInt32 31)).toInt32 &&& 858993459) = nI (bcB (bcA m)) := by
    rw [pk_ushrN (show bcA m < 2 ^ 32 by omega) 2 2 (by decide), show (858993459 : Int32) = nI 858993459 from rfl, nI_and (by omega) (by omega), nI_and (by omega) (by omega), nI_add]
    rfl
  have l2 : bcB (bcA m) ≤ bcA m + bcA m / 4 := Nat.add_le_add Nat.and_le_left Nat.and_le_left
  have e3 : (nI (bcB (bcA m)) + (Int32.toUInt32 (nI (bcB (bcA m))) >>> (Int32.toUInt32 4 &&& Int32.toUInt32 31)).toInt32) &&& 252645135 = nI (bcC (bcB (bcA m))) := by
    rw [pk_ushrN (show bcB (bcA m) < 2 ^ 32 by omega) 4 4 (by decide), nI_add, show (252645135 : Int32) = nI 252645135 from rfl, nI_and (by omega) (by omega)]
    rfl
  have l3 : bcC (bcB (bcA m)) ≤ bcB (bcA m) + bcB (bcA m) / 16 := Nat.and_le_left
  have e4 : nI (bcC (bcB (bcA m))) + (Int32.toUInt32 (nI (bcC (bcB (bcA m)))) >>> (Int32.toUInt32 8 &&& Int32.toUInt32 31)).toInt32 = nI (bcD (bcC (bcB (bcA m)))) := by
    rw [pk_ushrN (show bcC (bcB (bcA m)) < 2 ^ 32 by omega) 8 8 (by decide), nI_add]
    rfl
  have l4 : bcD (bcC (bcB (bcA m))) = bcC (bcB (bcA m)) + bcC (bcB (bcA m)) / 256 := rfl
  have e5 : (nI (bcD (bcC (bcB (bcA m)))) + (Int32.toUInt32 (nI (bcD (bcC (bcB (bcA m))))) >>> (Int32.toUInt32 16 &&& Int32.toUInt32 31)).toInt32) &&& 63 = nI (bcE (bcD (bcC (bcB (bcA m))))) := by
    rw [pk_ushrN (show bcD (bcC (bcB (bcA m))) < 2 ^ 32 by omega) 16 16 (by decide), nI_add, show (63 : Int32) = nI 63 from rfl, nI_and (by omega) (by omega)]
    rfl
  unfold w_J6_bitCount_0f7a4
  rw [e1, e2, e3, e4, e5, (pcB_spec h).1]
  exact hq
theorem m_bitsL {post : Int32 → Unit → Prop} {K : Int32 → Int32 → Prop} : ∀ (n m k : Nat), m < 2 ^ 31 → pcF n m < 1000 → K (nI (k + pcF n m)) 0 → w_X6_bits_L4 post K n (nI k) (nI m) := by
  intro n
  induction n with
  | zero =>
    intro m k hm hp
    exact absurd hp (show ¬ 1000 < 1000 by omega)
  | succ n ih =>
    intro m k hm hp hK
    unfold w_X6_bits_L4
    have k0 : nI m = 0 ↔ m = 0 := by rw [← nI_0]; exact nI_eq (by omega) (by omega)
    refine ⟨fun q => ?_, fun q => ?_⟩
    · have e := k0.mp q
      subst e
      have e : pcF (n + 1) 0 = 0 := rfl
      rw [e] at hK
      rw [nI_0]
      exact hK
    · have e : m ≠ 0 := fun z => q (k0.mpr z)
      obtain ⟨a, rfl⟩ : ∃ a, m = a + 1 := ⟨m - 1, by omega⟩
      have e2 : pcF (n + 1) (a + 1) = pcF n ((a + 1) &&& a) + 1 := rfl
      have e3 : (a + 1) &&& a ≤ a + 1 := Nat.and_le_left
      rw [nI_1, nI_pred, nI_and (by omega) (by omega)]
      rw [e2] at hp hK
      refine ih ((a + 1) &&& a) (k + 1) (by omega) (by omega) ?_
      rw [show k + 1 + pcF n ((a + 1) &&& a) = k + (pcF n ((a + 1) &&& a) + 1) by omega]
      exact hK
theorem m_bits {m : Nat} (h : m < 65536) {post : Int32 → Unit → Prop} (hq : post (nI (pcB m)) ()) : w_X6_bits (nI m) post := by
  unfold w_X6_bits
  have l := (pcB_spec h).2
  have g := m_bitsL (post := post) (K := fun x1 _ => post x1 ()) 17 m 0 (by omega) (show pcB m < 1000 by omega) (by rw [Nat.zero_add]; exact hq)
  rw [nI_0] at g
  exact ⟨17, g⟩
