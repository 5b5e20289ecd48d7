/-! bits -/
def m_b (x : Int32) (i : Nat) : Bool := x.toBitVec.getLsbD i
theorem m_b_ext {x y : Int32} (h : ∀ i, i < 32 → m_b x i = m_b y i) : x = y := Int32.toBitVec_inj.mp (BitVec.eq_of_getLsbD_eq (fun i hi => h i hi))
theorem m_b_or (x y : Int32) (i : Nat) : m_b (x ||| y) i = (m_b x i || m_b y i) := by unfold m_b; rw [Int32.toBitVec_or, BitVec.getLsbD_or]
theorem m_b_and (x y : Int32) (i : Nat) : m_b (x &&& y) i = (m_b x i && m_b y i) := by unfold m_b; rw [Int32.toBitVec_and, BitVec.getLsbD_and]
theorem m_b_xor (x y : Int32) (i : Nat) : m_b (x ^^^ y) i = (m_b x i ^^ m_b y i) := by unfold m_b; rw [Int32.toBitVec_xor, BitVec.getLsbD_xor]
theorem m_b_big {x : Int32} {i : Nat} (h : 32 ≤ i) : m_b x i = false := BitVec.getLsbD_of_ge _ _ h
theorem m_b_0 (i : Nat) : m_b 0 i = false := by
  rcases Nat.lt_or_ge i 32 with h | h
  · exact (by decide +kernel : ∀ i, i < 32 → m_b 0 i = false) i h
  · exact m_b_big h
theorem m_b_1 (i : Nat) : m_b 1 i = decide (i = 0) := by
  rcases Nat.lt_or_ge i 32 with h | h
  · exact (by decide +kernel : ∀ i, i < 32 → m_b 1 i = decide (i = 0)) i h
  · rw [m_b_big h, decide_eq_false (by omega)]
theorem m_b_31 (i : Nat) : m_b 31 i = decide (i < 5) := by
  rcases Nat.lt_or_ge i 32 with h | h
  · exact (by decide +kernel : ∀ i, i < 32 → m_b 31 i = decide (i < 5)) i h
  · rw [m_b_big h, decide_eq_false (by omega)]
theorem m_b_m1 {i : Nat} (h : i < 32) : m_b (-1) i = true := (by decide +kernel : ∀ i, i < 32 → m_b (-1) i = true) i h
theorem m_b_not {i : Nat} (x : Int32) (h : i < 32) : m_b (x ^^^ (-1)) i = !m_b x i := by
  rw [m_b_xor, m_b_m1 h, Bool.xor_true]
theorem m_b_nI {n : Nat} (i : Nat) (h : n < 2 ^ 31) : m_b (nI n) i = n.testBit i := by
  show (BitVec.ofNat 32 n).getLsbD i = n.testBit i
  rw [BitVec.getLsbD_ofNat]
  rcases Nat.lt_or_ge i 32 with hi | hi
  · rw [decide_eq_true hi, Bool.true_and]
  · rw [decide_eq_false (by omega), Bool.false_and]
    refine (Nat.testBit_lt_two_pow (Nat.lt_of_lt_of_le h ?_)).symm
    exact Nat.pow_le_pow_right (by omega) (by omega)
theorem m_sl5 : ∀ n, n < 32 → ((nI n &&& 31).toBitVec.smod 32).toNat = n := by decide +kernel
theorem m_b_shl {k i : Nat} (hk : k < 32) (hi : i < 32) : m_b (g_ishl 1 (nI k)) i = decide (i = k) := (by decide +kernel : ∀ k, k < 32 → ∀ i, i < 32 → m_b (g_ishl 1 (nI k)) i = decide (i = k)) k hk i hi
theorem m_b_shl8 {k i : Nat} (hk : k < 2) (hi : i < 32) : m_b (g_ishl 8 (nI k)) i = decide (i = k + 3) := (by decide +kernel : ∀ k, k < 2 → ∀ i, i < 32 → m_b (g_ishl 8 (nI k)) i = decide (i = k + 3)) k hk i hi
theorem m_ishl {a k : Nat} (hk : k < 32) (h : a * 2 ^ k < 2 ^ 32) : g_ishl (nI a) (nI k) = nI (a * 2 ^ k) := pk_shlN _ k (m_sl5 k hk) h
theorem m_ishr {a k : Nat} (hk : k < 32) (h : a < 2 ^ 31) : g_ishr (nI a) (nI k) = nI (a / 2 ^ k) := pk_shrN h _ k (m_sl5 k hk)
theorem m_and1 {a : Nat} (h : a < 2 ^ 31) : nI a &&& 1 = nI (a % 2) := pk_andN (by omega) 1 (by decide)
theorem m_shr_bit (x : Int32) {k : Nat} (hk : k < 32) : g_ishr x (nI k) &&& 1 = if m_b x k then 1 else 0 := by
  apply m_b_ext
  intro i hi
  rw [m_b_and, m_b_1]
  by_cases h0 : i = 0
  · subst h0
    have h1 : m_b (g_ishr x (nI k)) 0 = m_b x k := by
      unfold m_b g_ishr
      rw [Int32.toBitVec_shiftRight]
      show (x.toBitVec.sshiftRight ((nI k &&& 31).toBitVec.smod 32).toNat).getLsbD 0 = _
      rw [m_sl5 k hk, BitVec.getLsbD_sshiftRight]
      simp [hk]
    rw [h1]
    cases m_b x k <;> decide
  · rw [decide_eq_false h0, Bool.and_false]
    by_cases hb : m_b x k = true
    · rw [if_pos hb, m_b_1, decide_eq_false h0]
    · rw [if_neg hb, m_b_0]
theorem m_has (x : Int32) {k : Nat} (hk : k < 32) : F_M_has x (nI k) = if m_b x k then 1 else 0 := by
  unfold F_M_has
  rw [m_shr_bit x hk]
  by_cases hb : m_b x k = true
  · rw [if_pos hb, if_pos rfl]
  · rw [if_neg hb, if_neg (by decide)]
/-! bits of longs -/
def m_B (x : Int64) (i : Nat) : Bool := x.toBitVec.getLsbD i
theorem m_B_ext {x y : Int64} (h : ∀ i, i < 64 → m_B x i = m_B y i) : x = y := Int64.toBitVec_inj.mp (BitVec.eq_of_getLsbD_eq (fun i hi => h i hi))
theorem m_B_or (x y : Int64) (i : Nat) : m_B (x ||| y) i = (m_B x i || m_B y i) := by unfold m_B; rw [Int64.toBitVec_or, BitVec.getLsbD_or]
theorem m_B_and (x y : Int64) (i : Nat) : m_B (x &&& y) i = (m_B x i && m_B y i) := by unfold m_B; rw [Int64.toBitVec_and, BitVec.getLsbD_and]
theorem m_B_xor (x y : Int64) (i : Nat) : m_B (x ^^^ y) i = (m_B x i ^^ m_B y i) := by unfold m_B; rw [Int64.toBitVec_xor, BitVec.getLsbD_xor]
theorem m_B_big {x : Int64} {i : Nat} (h : 64 ≤ i) : m_B x i = false := BitVec.getLsbD_of_ge _ _ h
theorem m_B_0 (i : Nat) : m_B 0 i = false := by
  rcases Nat.lt_or_ge i 64 with h | h
  · exact (by decide +kernel : ∀ i, i < 64 → m_B 0 i = false) i h
  · exact m_B_big h
theorem m_B_1 (i : Nat) : m_B 1 i = decide (i = 0) := by
  rcases Nat.lt_or_ge i 64 with h | h
  · exact (by decide +kernel : ∀ i, i < 64 → m_B 1 i = decide (i = 0)) i h
  · rw [m_B_big h, decide_eq_false (by omega)]
theorem m_B_m1 {i : Nat} (h : i < 64) : m_B (-1) i = true := (by decide +kernel : ∀ i, i < 64 → m_B (-1) i = true) i h
theorem m_B_not {i : Nat} (x : Int64) (h : i < 64) : m_B (x ^^^ (-1)) i = !m_B x i := by
  rw [m_B_xor, m_B_m1 h, Bool.xor_true]
theorem m_sl6 : ∀ k, k < 64 → (((nI k).toInt64 &&& 63).toBitVec.smod 64).toNat = k := by decide +kernel
theorem m_su6 : ∀ k, k < 64 → ((nI k).toInt64.toUInt64 &&& Int64.toUInt64 63).toNat = k := by decide +kernel
theorem m_B_shl (x : Int64) {k i : Nat} (hk : k < 64) (hi : i < 64) : m_B (g_lshl x (nI k)) i = (decide (k ≤ i) && m_B x (i - k)) := by
  unfold m_B g_lshl
  rw [Int64.toBitVec_shiftLeft]
  show (x.toBitVec <<< (((nI k).toInt64 &&& 63).toBitVec.smod 64).toNat).getLsbD i = _
  rw [m_sl6 k hk, BitVec.getLsbD_shiftLeft]
  rcases Nat.lt_or_ge i k with h | h
  · simp [h, Nat.not_le.mpr h]
  · simp [hi, h, Nat.not_lt.mpr h]
theorem m_B_one {k i : Nat} (hk : k < 64) (hi : i < 64) : m_B (g_lshl 1 (nI k)) i = decide (i = k) := by
  rw [m_B_shl 1 hk hi, m_B_1]
  by_cases h : i = k
  · subst h
    simp
  · rw [decide_eq_false h]
    by_cases h2 : k ≤ i
    · rw [decide_eq_false (show ¬ i - k = 0 by omega), Bool.and_false]
    · rw [decide_eq_false h2, Bool.false_and]
theorem m_Lcmp (x : Int64) : lg_cmp x 0 = 0 ↔ x = 0 := by
  unfold lg_cmp
  by_cases h : x > 0
  · rw [if_pos h]
    refine ⟨fun z => absurd z (by decide), fun z => ?_⟩
    subst z
    exact absurd h (by decide)
  · rw [if_neg h]
    by_cases h2 : x = 0
    · rw [if_pos h2]
      exact ⟨fun _ => h2, fun _ => rfl⟩
    · rw [if_neg h2]
      exact ⟨fun z => absurd z (by decide), fun z => absurd z h2⟩
theorem m_B_ne (x : Int64) : ¬ x = 0 ↔ ∃ i, i < 64 ∧ m_B x i = true := by
  refine ⟨fun h => Classical.byContradiction fun z => h (m_B_ext fun i hi => ?_), fun ⟨i, _, h⟩ z => ?_⟩
  · rw [m_B_0]
    cases hb : m_B x i with
    | false => rfl
    | true => exact absurd ⟨i, hi, hb⟩ z
  · rw [z, m_B_0] at h
    cases h
theorem m_B_ez (x : Int64) : x = 0 ↔ ∀ i, i < 64 → m_B x i = false := by
  refine ⟨fun h i _ => by rw [h, m_B_0], fun h => m_B_ext fun i hi => by rw [h i hi, m_B_0]⟩
theorem m_Thas (x : Int64) {k : Nat} (hk : k < 64) : F_T_has x (nI k) = if m_B x k then 1 else 0 := by
  have e : (g_lushr x (nI k)).toBitVec = x.toBitVec >>> k := by
    apply BitVec.eq_of_toNat_eq
    show (x.toUInt64 >>> ((nI k).toInt64.toUInt64 &&& Int64.toUInt64 63)).toNat = _
    rw [UInt64.toNat_shiftRight, m_su6 k hk, Nat.mod_eq_of_lt hk, BitVec.toNat_ushiftRight]
    rfl
  have h1 : ∀ i, m_B (g_lushr x (nI k) &&& 1) i = (m_B x k && decide (i = 0)) := fun i => by
    rw [m_B_and, m_B_1]
    by_cases h0 : i = 0
    · subst h0
      rw [show m_B (g_lushr x (nI k)) 0 = m_B x k by unfold m_B; rw [e, BitVec.getLsbD_ushiftRight, Nat.add_zero]]
    · rw [decide_eq_false h0, Bool.and_false, Bool.and_false]
  unfold F_T_has
  by_cases hb : m_B x k = true
  · rw [if_pos hb, if_neg]
    rw [m_Lcmp, m_B_ez]
    intro z
    have := z 0 (by omega)
    rw [h1, hb] at this
    cases this
  · rw [if_neg hb, if_pos]
    rw [m_Lcmp, m_B_ez]
    intro i _
    rw [h1, Bool.eq_false_iff.mpr hb, Bool.false_and]
theorem m_isIn (x : Int64) {k : Nat} (hk : k < 64) : F_M_isIn x (nI k) = if m_B x k then 1 else 0 := by
  have h1 : ∀ i, i < 64 → m_B (g_lshr x (nI k) &&& 1) i = (m_B x k && decide (i = 0)) := fun i hi => by
    rw [m_B_and, m_B_1]
    by_cases h0 : i = 0
    · subst h0
      have h2 : m_B (g_lshr x (nI k)) 0 = m_B x k := by
        unfold m_B g_lshr
        rw [Int64.toBitVec_shiftRight]
        show (x.toBitVec.sshiftRight (((nI k).toInt64 &&& 63).toBitVec.smod 64).toNat).getLsbD 0 = _
        rw [m_sl6 k hk, BitVec.getLsbD_sshiftRight]
        simp [hk]
      rw [h2]
    · rw [decide_eq_false h0, Bool.and_false, Bool.and_false]
  unfold F_M_isIn
  by_cases hb : m_B x k = true
  · have e : g_lshr x (nI k) &&& 1 = 1 := m_B_ext fun i hi => by rw [h1 i hi, hb, m_B_1, Bool.true_and]
    rw [if_pos hb, e, if_pos (by decide)]
  · have e : g_lshr x (nI k) &&& 1 = 0 := m_B_ext fun i hi => by rw [h1 i hi, Bool.eq_false_iff.mpr hb, m_B_0, Bool.false_and]
    rw [if_neg hb, e, if_neg (by decide)]
theorem m_first : ∀ n, n ≤ 64 → ∀ i, i < 64 → m_B (F_T_firstNodes (nI n)) i = decide (i < n) := by
  have h : ∀ n, n < 65 → ∀ i, i < 64 → m_B (F_T_firstNodes (nI n)) i = decide (i < n) := by decide +kernel
  exact fun n hn => h n (by omega)
/-- the nodes of a place -/
theorem m_nodesOf {P G q i : Nat} (hG : G ≤ 3) (hP : P ≤ 8) (hq : q < P) (hi : i < 64) : m_B (F_T_nodesOf (nI P) (nI G) (F_T_firstNodes (nI (2 ^ G))) (nI q)) i = decide (i / 2 ^ G = q) := by
  have hG2 : 2 ^ G ≤ 8 := by
    rcases (show G = 0 ∨ G = 1 ∨ G = 2 ∨ G = 3 by omega) with rfl | rfl | rfl | rfl <;> decide
  have hG1 : 0 < 2 ^ G := Nat.pow_pos (by omega)
  have hq2 : q * 2 ^ G < 64 := by
    have : q * 2 ^ G ≤ 7 * 2 ^ G := Nat.mul_le_mul_right _ (by omega)
    omega
  have e : F_T_nodesOf (nI P) (nI G) (F_T_firstNodes (nI (2 ^ G))) (nI q) = g_lshl (F_T_firstNodes (nI (2 ^ G))) (nI (q * 2 ^ G)) := by
    simp (disch := omega) only [F_T_nodesOf, m_0lt, m_lt, if_false, if_pos]
    rw [m_ishl (by omega) (by omega)]
  rw [e, m_B_shl _ hq2 hi, m_first _ (by omega) _ (by omega)]
  by_cases h : i / 2 ^ G = q
  · have h1 := Nat.div_add_mod i (2 ^ G)
    have h2 := Nat.mod_lt i hG1
    rw [h, Nat.mul_comm] at h1
    rw [decide_eq_true h, decide_eq_true (show q * 2 ^ G ≤ i by omega), decide_eq_true (show i - q * 2 ^ G < 2 ^ G by omega)]
    rfl
  · rw [decide_eq_false h]
    by_cases h1 : q * 2 ^ G ≤ i
    · rw [decide_eq_false (show ¬ i - q * 2 ^ G < 2 ^ G from fun z => h ?_), Bool.and_false]
      apply Nat.div_eq_of_lt_le h1
      rw [Nat.add_mul]
      omega
    · rw [decide_eq_false h1, Bool.false_and]
