/-! the class: formulas told -/
theorem m_labelled {P G : Nat} (hG : G ≤ 3) (hP : P ≤ 8) (lab : Nat → Int32) {k : Nat} (hk : k < 32) : ∃ x, F_T_labelled m_N lab (nI P) (nI G) (F_T_firstNodes (nI (2 ^ G))) (nI k) = some x ∧ ∀ a, a < P * 2 ^ G → m_B x a = m_b (lab (a / 2 ^ G)) k := by
  have h8 := m_p8 hG
  obtain ⟨x, h1, h2⟩ := m_it (fun m s x => T_labelled_l1 (nI P) lab (nI k) (nI G) (F_T_firstNodes (nI (2 ^ G))) m x (nI s)) id P (fun s0 x => ∀ a, a < 64 → (m_B x a = true ↔ a / 2 ^ G < s0 ∧ m_b (lab (a / 2 ^ G)) k = true))
    (fun m x _ => by simp (disch := omega) only [T_labelled_l1_s, m_le, if_pos, id])
    (fun m s x hs hI => by
      refine ⟨if m_b (lab s) k = true then x ||| F_T_nodesOf (nI P) (nI G) (F_T_firstNodes (nI (2 ^ G))) (nI s) else x, fun a ha => ?_, ?_⟩
      · have hn := m_nodesOf (i := a) hG hP hs ha
        by_cases hb : m_b (lab s) k = true
        · rw [if_pos hb, m_B_or, Bool.or_eq_true, hI a ha, hn]
          refine ⟨fun z => ?_, fun ⟨z1, z2⟩ => ?_⟩
          · rcases z with z | z
            · exact ⟨by omega, z.2⟩
            · have := of_decide_eq_true z
              exact ⟨by omega, by rw [this]; exact hb⟩
          · by_cases he : a / 2 ^ G = s
            · exact Or.inr (decide_eq_true he)
            · exact Or.inl ⟨by omega, z2⟩
        · rw [if_neg hb, hI a ha]
          refine ⟨fun z => ⟨by omega, z.2⟩, fun ⟨z1, z2⟩ => ⟨?_, z2⟩⟩
          have : a / 2 ^ G ≠ s := fun z => hb (by rw [← z]; exact z2)
          omega
      · simp (disch := omega) only [T_labelled_l1_s, m_e8, m_le, if_neg, m_inb, m_chkT, nI_clamp, nI_1, m_shr_bit]
        cases m_b (lab s) k with
        | true => rw [if_neg (by decide), if_pos rfl]
        | false => rw [if_pos (by decide), if_neg (by decide)])
    P 0 m_N 0 (by omega) (by show _ < 5000; omega) (fun a ha => by rw [m_B_0]; exact ⟨fun z => absurd z (by decide), fun z => absurd z.1 (Nat.not_lt_zero _)⟩)
  refine ⟨x, ?_, fun a ha => ?_⟩
  · simp only [F_T_labelled]
    rw [show T_labelled_l1 (nI P) lab (nI k) (nI G) (F_T_firstNodes (nI (2 ^ G))) m_N 0 0 = _ from h1]
    rfl
  · have hd : a / 2 ^ G < P := (m_lt_node h8.1).mp ha
    have h64 : P * 2 ^ G ≤ 8 * 8 := Nat.mul_le_mul hP h8.2
    have := h2 a (by omega)
    cases hb : m_b (lab (a / 2 ^ G)) k with
    | true => exact this.mpr ⟨hd, hb⟩
    | false =>
      refine Bool.eq_false_iff.mpr fun z => ?_
      have := (this.mp z).2
      rw [hb] at this
      cases this
theorem m_bitOf {a j : Nat} (ha : a < 2 ^ 31) (hj : j < 32) : (g_ishr (nI a) (nI j) &&& 1 = 0) = (a.testBit j = false) := by
  rw [m_shr_bit _ hj, m_b_nI j ha, m_i0]
theorem m_addLater {N G j : Nat} (hN : N ≤ 64) (hG : G ≤ 3) (hj : j < G) (all : Int64) (wt mw gl : Nat → Int64) (an : Nat → Int32) (a1 a2 : Int32) (a3 a5 : Int64) : ∃ gs, F_T_addLater m_N (nI G) (nI N) all (nI j) wt mw gl an a1 a2 a3 a5 = some (gs, nI (j + 1), vp_updL wt j (if a2 = 0 then gs else (all &&& (gs ^^^ (-1 : Int64)))), vp_updL mw j a3, vp_updL gl j a5, upd an j (vp_nar .boolean a1)) ∧ ∀ a, a < N → m_B gs a = a.testBit j := by
  obtain ⟨gs, h1, h2⟩ := m_it (fun m a gs => T_addLater_l1 (nI N) (nI j) m gs (nI a)) id N (fun a0 gs => ∀ a, a < 64 → (m_B gs a = true ↔ a < a0 ∧ a.testBit j = true))
    (fun m gs _ => by simp (disch := omega) only [T_addLater_l1_s, m_le, if_pos, id])
    (fun m a gs ha hI => by
      refine ⟨if a.testBit j = false then gs else gs ||| g_lshl 1 (nI a), fun b hb => ?_, ?_⟩
      · by_cases ht : a.testBit j = false
        · rw [if_pos ht, hI b hb]
          refine ⟨fun z => ⟨by omega, z.2⟩, fun z => ⟨?_, z.2⟩⟩
          have : b ≠ a := fun y => by subst y; rw [ht] at z; exact absurd z.2 (by decide)
          omega
        · rw [if_neg ht, m_B_or, Bool.or_eq_true, hI b hb, m_B_one (by omega) hb]
          refine ⟨fun z => ?_, fun z => ?_⟩
          · rcases z with z | z
            · exact ⟨by omega, z.2⟩
            · have := of_decide_eq_true z
              subst this
              exact ⟨by omega, by simpa using ht⟩
          · by_cases he : b = a
            · exact Or.inr (decide_eq_true he)
            · exact Or.inl ⟨by omega, z.2⟩
      · simp (disch := omega) only [T_addLater_l1_s, m_le, if_neg, nI_1, m_bitOf])
    N 0 m_N 0 (by omega) (by show _ < 5000; omega) (fun a ha => by rw [m_B_0]; exact ⟨fun z => absurd z (by decide), fun z => absurd z.1 (Nat.not_lt_zero _)⟩)
  refine ⟨gs, ?_, fun a ha => ?_⟩
  · simp (disch := omega) only [F_T_addLater, m_0lt, if_false, m_le, if_neg, m_lt, m_e3, if_pos]
    rw [show T_addLater_l1 (nI N) (nI j) m_N 0 0 = _ from h1, Option.bind_some]
    simp (disch := omega) only [m_inb, m_chkT, nI_clamp, nI_1, id]
  · have := h2 a (by omega)
    cases hb : a.testBit j with
    | true => exact this.mpr ⟨ha, hb⟩
    | false =>
      refine Bool.eq_false_iff.mpr fun z => ?_
      have := (this.mp z).2
      rw [hb] at this
      cases this
/-- what is kept of a later part -/
def m_dat (c : Int32) (N : Nat) (x f s : Int64) (wt mw gl : Nat → Int64) (an : Nat → Int32) (j : Nat) : Prop := an j = (if c = 120 then 1 else 0) ∧ ∀ a, a < N → m_B (wt j) a = (if c = 103 then !m_B x a else m_B x a) ∧ m_B (mw j) a = (if c = 117 then m_B f a else true) ∧ m_B (gl j) a = (if c = 117 then m_B s a else if c = 103 then !m_B f a else m_B f a)
abbrev m_all (N : Nat) : Int64 := F_T_firstNodes (nI N)
theorem m_all_b {N a : Nat} (hN : N ≤ 64) (ha : a < 64) : m_B (m_all N) a = decide (a < N) := m_first N hN a ha
theorem m_nodesWhere {le : Nat → Int32} {n P G j0 : Nat} (hn : n ≤ 16) (hw : m_WF le n) (hG : G ≤ 3) (hP : P ≤ 8) (lab : Nat → Int32) (so wt mw gl : Nat → Int64) (an : Nat → Int32) {p : Nat} (hp : p < n) (hj : m_lat (le p) → j0 < G) : ∃ x lt' wt' mw' gl' an', F_T_nodesWhere m_N lab (nI P) (nI G) (nI (P * 2 ^ G)) (m_all (P * 2 ^ G)) (F_T_firstNodes (nI (2 ^ G))) so (nI j0) wt mw gl an (nI n) le (nI p) = some (x, nI lt', wt', mw', gl', an') ∧ (∀ a, a < P * 2 ^ G → m_B x a = m_sem (le p) (lab (a / 2 ^ G)) (a.testBit j0) (m_B (so (p + 1)) a) (m_B (so (m_E le n (p + 1))) a)) ∧ ((¬ m_lat (le p) ∧ lt' = j0 ∧ wt' = wt ∧ mw' = mw ∧ gl' = gl ∧ an' = an) ∨ (m_lat (le p) ∧ lt' = j0 + 1 ∧ (∀ j, j ≠ j0 → wt' j = wt j ∧ mw' j = mw j ∧ gl' j = gl j ∧ an' j = an j) ∧ m_dat (le p) (P * 2 ^ G) x (so (p + 1)) (so (m_E le n (p + 1))) wt' mw' gl' an' j0)) := by
  have h8 := m_p8 hG
  have h64 : P * 2 ^ G ≤ 64 := by
    have : P * 2 ^ G ≤ 8 * 8 := Nat.mul_le_mul hP h8.2
    omega
  have hlt := m_letters (hw.1 p hp).1
  have e1 := m_letterOf hn hp le
  obtain ⟨q1, q2, q3⟩ := m_Es hw hp
  obtain ⟨k, hk, k1, k2, -⟩ : ∃ k : Nat, k ≤ 2 ∧ m_ar (le p) = (k : Int) ∧ F_L_innerCount (le p) = nI k ∧ True := by
    rcases m_arc (le p) with ⟨k, hk, k1, k2, k3⟩ | ⟨k1, _⟩
    · exact ⟨k, hk, k1, k2, trivial⟩
    · have := (hw.1 p hp).1
      omega
  obtain ⟨o3, e3, e3'⟩ : ∃ o3 : Nat, (if F_L_innerCount (le p) = (2 : Int32) then ((F_F_spanOf m_N (nI n) le (nI p + (1 : Int32))).bind fun o4 => (some ((nI p + (1 : Int32)) + o4))) else (some (nI p + (1 : Int32)))) = some (nI o3) ∧ (k = 2 → o3 = m_E le n (p + 1)) := by
    by_cases hk2 : k = 2
    · subst hk2
      rcases q3 with ⟨b1, b2⟩ | ⟨b1, b2, b3⟩ | ⟨b1, b2, b3, b4, b5⟩
      · omega
      · omega
      · refine ⟨m_E le n (p + 1), ?_, fun _ => rfl⟩
        rw [k2, if_pos (show nI 2 = 2 from rfl), nI_1, m_span hn hw b2, Option.bind_some, nI_add]
        congr 2
        omega
    · refine ⟨p + 1, ?_, fun z => absurd z hk2⟩
      rw [k2, if_neg (by rw [m_e2, m_eq (by omega) (by omega)]; exact hk2), nI_1]
  obtain ⟨x7, e7, e7'⟩ : ∃ x7 : Int64, (if F_L_innerCount (le p) < (1 : Int32) then (some (0 : Int64)) else (if (16 : Int32) ≤ (nI p + (1 : Int32)) then (some (0 : Int64)) else (g_chk (g_inb (nI p + (1 : Int32)) 16) (some (so ((nI p + (1 : Int32))).toNatClampNeg))))) = some x7 ∧ (1 ≤ k → x7 = so (p + 1)) := by
    by_cases hk1 : k = 0
    · subst hk1
      exact ⟨0, by rw [k2, if_pos (by decide)], fun z => by omega⟩
    · have hpn : p + 1 < n := by
        rcases q3 with ⟨b1, b2⟩ | ⟨b1, b2, b3⟩ | ⟨b1, b2, b3, b4, b5⟩
        · omega
        · exact b2
        · exact b2
      refine ⟨so (p + 1), ?_, fun _ => rfl⟩
      rw [k2, if_neg (by rw [show (1 : Int32) = nI 1 from rfl, m_lt (by omega) (by omega)]; omega)]
      simp (disch := omega) only [nI_1, m_e16, m_le, if_neg, nI_add, m_inb, m_chkT, nI_clamp]
  obtain ⟨x12, e12, e12'⟩ : ∃ x12 : Int64, (if F_L_innerCount (le p) = (2 : Int32) then (if (16 : Int32) ≤ nI o3 then (some (0 : Int64)) else (g_chk (g_inb (nI o3) 16) (some (so (nI o3).toNatClampNeg)))) else (some (0 : Int64))) = some x12 ∧ (k = 2 → x12 = so (m_E le n (p + 1))) := by
    by_cases hk2 : k = 2
    · subst hk2
      rcases q3 with ⟨b1, b2⟩ | ⟨b1, b2, b3⟩ | ⟨b1, b2, b3, b4, b5⟩
      · omega
      · omega
      · refine ⟨so (m_E le n (p + 1)), ?_, fun _ => rfl⟩
        rw [k2, if_pos (show nI 2 = 2 from rfl), e3' rfl]
        simp (disch := omega) only [m_e16, m_le, if_neg, nI_add, m_inb, m_chkT, nI_clamp]
    · exact ⟨0, by rw [k2, if_neg (by rw [m_e2, m_eq (by omega) (by omega)]; exact hk2)], fun z => absurd z hk2⟩
  have hall : ∀ a, a < P * 2 ^ G → m_B (m_all (P * 2 ^ G)) a = true := fun a ha => by
    rw [m_all_b h64 (by omega)]
    exact decide_eq_true ha
  simp only [F_T_nodesWhere, e1, Option.bind_some, e3, e7, e12]
  clear e1 e3 e7 e12 q3
  generalize le p = c at hlt k1 k2 hj ⊢
  rcases hlt with rfl | rfl | rfl | rfl | rfl | rfl | rfl | rfl | rfl | rfl | rfl | rfl
  · obtain ⟨x, h1, h2⟩ := m_labelled hG hP lab (k := 0) (by omega)
    refine ⟨x, j0, wt, mw, gl, an, ?_, fun a ha => h2 a ha, Or.inl ⟨by unfold m_lat; decide, rfl, rfl, rfl, rfl, rfl⟩⟩
    simp only [show ((97 : Int32) = 48) = False from eq_false (by decide), show ((97 : Int32) = 49) = False from eq_false (by decide), show ((97 : Int32) = 98) = False from eq_false (by decide), show ((97 : Int32) = 99) = False from eq_false (by decide), show ((97 : Int32) = 102) = False from eq_false (by decide), show ((97 : Int32) = 103) = False from eq_false (by decide), show ((97 : Int32) = 107) = False from eq_false (by decide), show ((97 : Int32) = 110) = False from eq_false (by decide), show ((97 : Int32) = 111) = False from eq_false (by decide), show ((97 : Int32) = 117) = False from eq_false (by decide), show ((97 : Int32) = 120) = False from eq_false (by decide), if_true, if_false]
    rw [show F_T_labelled m_N lab (nI P) (nI G) (F_T_firstNodes (nI (2 ^ G))) 0 = _ from h1, Option.bind_some]
  · obtain ⟨x, h1, h2⟩ := m_labelled hG hP lab (k := 1) (by omega)
    refine ⟨x, j0, wt, mw, gl, an, ?_, fun a ha => h2 a ha, Or.inl ⟨by unfold m_lat; decide, rfl, rfl, rfl, rfl, rfl⟩⟩
    simp only [show ((98 : Int32) = 48) = False from eq_false (by decide), show ((98 : Int32) = 49) = False from eq_false (by decide), show ((98 : Int32) = 97) = False from eq_false (by decide), show ((98 : Int32) = 99) = False from eq_false (by decide), show ((98 : Int32) = 102) = False from eq_false (by decide), show ((98 : Int32) = 103) = False from eq_false (by decide), show ((98 : Int32) = 107) = False from eq_false (by decide), show ((98 : Int32) = 110) = False from eq_false (by decide), show ((98 : Int32) = 111) = False from eq_false (by decide), show ((98 : Int32) = 117) = False from eq_false (by decide), show ((98 : Int32) = 120) = False from eq_false (by decide), if_true, if_false]
    rw [show F_T_labelled m_N lab (nI P) (nI G) (F_T_firstNodes (nI (2 ^ G))) 1 = _ from h1, Option.bind_some]
  · obtain ⟨x, h1, h2⟩ := m_labelled hG hP lab (k := 2) (by omega)
    refine ⟨x, j0, wt, mw, gl, an, ?_, fun a ha => h2 a ha, Or.inl ⟨by unfold m_lat; decide, rfl, rfl, rfl, rfl, rfl⟩⟩
    simp only [show ((99 : Int32) = 48) = False from eq_false (by decide), show ((99 : Int32) = 49) = False from eq_false (by decide), show ((99 : Int32) = 97) = False from eq_false (by decide), show ((99 : Int32) = 98) = False from eq_false (by decide), show ((99 : Int32) = 102) = False from eq_false (by decide), show ((99 : Int32) = 103) = False from eq_false (by decide), show ((99 : Int32) = 107) = False from eq_false (by decide), show ((99 : Int32) = 110) = False from eq_false (by decide), show ((99 : Int32) = 111) = False from eq_false (by decide), show ((99 : Int32) = 117) = False from eq_false (by decide), show ((99 : Int32) = 120) = False from eq_false (by decide), if_true, if_false]
    rw [show F_T_labelled m_N lab (nI P) (nI G) (F_T_firstNodes (nI (2 ^ G))) 2 = _ from h1, Option.bind_some]
  · exact ⟨0, j0, wt, mw, gl, an, by simp only [show ((48 : Int32) = 49) = False from eq_false (by decide), show ((48 : Int32) = 97) = False from eq_false (by decide), show ((48 : Int32) = 98) = False from eq_false (by decide), show ((48 : Int32) = 99) = False from eq_false (by decide), show ((48 : Int32) = 102) = False from eq_false (by decide), show ((48 : Int32) = 103) = False from eq_false (by decide), show ((48 : Int32) = 107) = False from eq_false (by decide), show ((48 : Int32) = 110) = False from eq_false (by decide), show ((48 : Int32) = 111) = False from eq_false (by decide), show ((48 : Int32) = 117) = False from eq_false (by decide), show ((48 : Int32) = 120) = False from eq_false (by decide), if_true, if_false], fun a ha => m_B_0 a, Or.inl ⟨by unfold m_lat; decide, rfl, rfl, rfl, rfl, rfl⟩⟩
  · exact ⟨m_all (P * 2 ^ G), j0, wt, mw, gl, an, by simp only [show ((49 : Int32) = 48) = False from eq_false (by decide), show ((49 : Int32) = 97) = False from eq_false (by decide), show ((49 : Int32) = 98) = False from eq_false (by decide), show ((49 : Int32) = 99) = False from eq_false (by decide), show ((49 : Int32) = 102) = False from eq_false (by decide), show ((49 : Int32) = 103) = False from eq_false (by decide), show ((49 : Int32) = 107) = False from eq_false (by decide), show ((49 : Int32) = 110) = False from eq_false (by decide), show ((49 : Int32) = 111) = False from eq_false (by decide), show ((49 : Int32) = 117) = False from eq_false (by decide), show ((49 : Int32) = 120) = False from eq_false (by decide), if_true, if_false], fun a ha => hall a ha, Or.inl ⟨by unfold m_lat; decide, rfl, rfl, rfl, rfl, rfl⟩⟩
  · have hk1 : k = 1 := by
      have : m_ar 110 = 1 := by decide
      omega
    refine ⟨m_all (P * 2 ^ G) &&& (x7 ^^^ -1), j0, wt, mw, gl, an, by simp only [show ((110 : Int32) = 48) = False from eq_false (by decide), show ((110 : Int32) = 49) = False from eq_false (by decide), show ((110 : Int32) = 97) = False from eq_false (by decide), show ((110 : Int32) = 98) = False from eq_false (by decide), show ((110 : Int32) = 99) = False from eq_false (by decide), show ((110 : Int32) = 102) = False from eq_false (by decide), show ((110 : Int32) = 103) = False from eq_false (by decide), show ((110 : Int32) = 107) = False from eq_false (by decide), show ((110 : Int32) = 111) = False from eq_false (by decide), show ((110 : Int32) = 117) = False from eq_false (by decide), show ((110 : Int32) = 120) = False from eq_false (by decide), if_true, if_false], fun a ha => ?_, Or.inl ⟨by unfold m_lat; decide, rfl, rfl, rfl, rfl, rfl⟩⟩
    rw [m_B_and, hall a ha, m_B_not _ (by omega), Bool.true_and, e7' (by omega)]
    rfl
  · have hk1 : k = 2 := by
      have : m_ar 107 = 2 := by decide
      omega
    refine ⟨x7 &&& x12, j0, wt, mw, gl, an, by simp only [show ((107 : Int32) = 48) = False from eq_false (by decide), show ((107 : Int32) = 49) = False from eq_false (by decide), show ((107 : Int32) = 97) = False from eq_false (by decide), show ((107 : Int32) = 98) = False from eq_false (by decide), show ((107 : Int32) = 99) = False from eq_false (by decide), show ((107 : Int32) = 102) = False from eq_false (by decide), show ((107 : Int32) = 103) = False from eq_false (by decide), show ((107 : Int32) = 110) = False from eq_false (by decide), show ((107 : Int32) = 111) = False from eq_false (by decide), show ((107 : Int32) = 117) = False from eq_false (by decide), show ((107 : Int32) = 120) = False from eq_false (by decide), if_true, if_false], fun a ha => ?_, Or.inl ⟨by unfold m_lat; decide, rfl, rfl, rfl, rfl, rfl⟩⟩
    rw [m_B_and, e7' (by omega), e12' hk1]
    rfl
  · have hk1 : k = 2 := by
      have : m_ar 111 = 2 := by decide
      omega
    refine ⟨x7 ||| x12, j0, wt, mw, gl, an, by simp only [show ((111 : Int32) = 48) = False from eq_false (by decide), show ((111 : Int32) = 49) = False from eq_false (by decide), show ((111 : Int32) = 97) = False from eq_false (by decide), show ((111 : Int32) = 98) = False from eq_false (by decide), show ((111 : Int32) = 99) = False from eq_false (by decide), show ((111 : Int32) = 102) = False from eq_false (by decide), show ((111 : Int32) = 103) = False from eq_false (by decide), show ((111 : Int32) = 107) = False from eq_false (by decide), show ((111 : Int32) = 110) = False from eq_false (by decide), show ((111 : Int32) = 117) = False from eq_false (by decide), show ((111 : Int32) = 120) = False from eq_false (by decide), if_true, if_false], fun a ha => ?_, Or.inl ⟨by unfold m_lat; decide, rfl, rfl, rfl, rfl, rfl⟩⟩
    rw [m_B_or, e7' (by omega), e12' hk1]
    rfl
  · have hk1 : k = 1 := by
      have : m_ar 120 = 1 := by decide
      omega
    have hjj := hj (Or.inl rfl)
    obtain ⟨gs, h1, h2⟩ := m_addLater h64 hG hjj (m_all (P * 2 ^ G)) wt mw gl an 1 0 (m_all (P * 2 ^ G)) x7
    refine ⟨gs, j0 + 1, _, _, _, _, by simp only [show ((120 : Int32) = 48) = False from eq_false (by decide), show ((120 : Int32) = 49) = False from eq_false (by decide), show ((120 : Int32) = 97) = False from eq_false (by decide), show ((120 : Int32) = 98) = False from eq_false (by decide), show ((120 : Int32) = 99) = False from eq_false (by decide), show ((120 : Int32) = 102) = False from eq_false (by decide), show ((120 : Int32) = 103) = False from eq_false (by decide), show ((120 : Int32) = 107) = False from eq_false (by decide), show ((120 : Int32) = 110) = False from eq_false (by decide), show ((120 : Int32) = 111) = False from eq_false (by decide), show ((120 : Int32) = 117) = False from eq_false (by decide), if_true, if_false]; rw [h1, Option.bind_some], fun a ha => h2 a ha, Or.inr ⟨(Or.inl rfl), rfl, fun j hne => ⟨pk_uLn hne, pk_uLn hne, pk_uLn hne, pk_un hne⟩, ?_, fun a ha => ⟨?_, ?_, ?_⟩⟩⟩
    · dsimp only
      rw [pk_us]
      exact m_nar1
    · dsimp only
      rw [pk_uLs, if_pos rfl]
      rfl
    · dsimp only
      rw [pk_uLs]
      exact hall a ha
    · dsimp only
      rw [pk_uLs, e7' (by omega)]
      rfl
  · have hk1 : k = 1 := by
      have : m_ar 102 = 1 := by decide
      omega
    have hjj := hj (Or.inr (Or.inl rfl))
    obtain ⟨gs, h1, h2⟩ := m_addLater h64 hG hjj (m_all (P * 2 ^ G)) wt mw gl an 0 0 (m_all (P * 2 ^ G)) x7
    refine ⟨gs, j0 + 1, _, _, _, _, by simp only [show ((102 : Int32) = 48) = False from eq_false (by decide), show ((102 : Int32) = 49) = False from eq_false (by decide), show ((102 : Int32) = 97) = False from eq_false (by decide), show ((102 : Int32) = 98) = False from eq_false (by decide), show ((102 : Int32) = 99) = False from eq_false (by decide), show ((102 : Int32) = 103) = False from eq_false (by decide), show ((102 : Int32) = 107) = False from eq_false (by decide), show ((102 : Int32) = 110) = False from eq_false (by decide), show ((102 : Int32) = 111) = False from eq_false (by decide), show ((102 : Int32) = 117) = False from eq_false (by decide), show ((102 : Int32) = 120) = False from eq_false (by decide), if_true, if_false]; rw [h1, Option.bind_some], fun a ha => h2 a ha, Or.inr ⟨(Or.inr (Or.inl rfl)), rfl, fun j hne => ⟨pk_uLn hne, pk_uLn hne, pk_uLn hne, pk_un hne⟩, ?_, fun a ha => ⟨?_, ?_, ?_⟩⟩⟩
    · dsimp only
      rw [pk_us]
      exact m_nar0
    · dsimp only
      rw [pk_uLs, if_pos rfl]
      rfl
    · dsimp only
      rw [pk_uLs]
      exact hall a ha
    · dsimp only
      rw [pk_uLs, e7' (by omega)]
      rfl
  · have hk1 : k = 1 := by
      have : m_ar 103 = 1 := by decide
      omega
    have hjj := hj (Or.inr (Or.inr (Or.inl rfl)))
    obtain ⟨gs, h1, h2⟩ := m_addLater h64 hG hjj (m_all (P * 2 ^ G)) wt mw gl an 0 1 (m_all (P * 2 ^ G)) (m_all (P * 2 ^ G) &&& (x7 ^^^ -1))
    refine ⟨gs, j0 + 1, _, _, _, _, by simp only [show ((103 : Int32) = 48) = False from eq_false (by decide), show ((103 : Int32) = 49) = False from eq_false (by decide), show ((103 : Int32) = 97) = False from eq_false (by decide), show ((103 : Int32) = 98) = False from eq_false (by decide), show ((103 : Int32) = 99) = False from eq_false (by decide), show ((103 : Int32) = 102) = False from eq_false (by decide), show ((103 : Int32) = 107) = False from eq_false (by decide), show ((103 : Int32) = 110) = False from eq_false (by decide), show ((103 : Int32) = 111) = False from eq_false (by decide), show ((103 : Int32) = 117) = False from eq_false (by decide), show ((103 : Int32) = 120) = False from eq_false (by decide), if_true, if_false]; rw [h1, Option.bind_some], fun a ha => h2 a ha, Or.inr ⟨(Or.inr (Or.inr (Or.inl rfl))), rfl, fun j hne => ⟨pk_uLn hne, pk_uLn hne, pk_uLn hne, pk_un hne⟩, ?_, fun a ha => ⟨?_, ?_, ?_⟩⟩⟩
    · dsimp only
      rw [pk_us]
      exact m_nar0
    · dsimp only
      rw [pk_uLs, if_neg m_n10, m_B_and, hall a ha, m_B_not _ (by omega), Bool.true_and]
      rfl
    · dsimp only
      rw [pk_uLs]
      exact hall a ha
    · dsimp only
      rw [pk_uLs, m_B_and, hall a ha, m_B_not _ (by omega), Bool.true_and, e7' (by omega)]
      rfl
  · have hk1 : k = 2 := by
      have : m_ar 117 = 2 := by decide
      omega
    have hjj := hj (Or.inr (Or.inr (Or.inr rfl)))
    obtain ⟨gs, h1, h2⟩ := m_addLater h64 hG hjj (m_all (P * 2 ^ G)) wt mw gl an 0 0 x7 x12
    refine ⟨gs, j0 + 1, _, _, _, _, by simp only [show ((117 : Int32) = 48) = False from eq_false (by decide), show ((117 : Int32) = 49) = False from eq_false (by decide), show ((117 : Int32) = 97) = False from eq_false (by decide), show ((117 : Int32) = 98) = False from eq_false (by decide), show ((117 : Int32) = 99) = False from eq_false (by decide), show ((117 : Int32) = 102) = False from eq_false (by decide), show ((117 : Int32) = 103) = False from eq_false (by decide), show ((117 : Int32) = 107) = False from eq_false (by decide), show ((117 : Int32) = 110) = False from eq_false (by decide), show ((117 : Int32) = 111) = False from eq_false (by decide), show ((117 : Int32) = 120) = False from eq_false (by decide), if_true, if_false]; rw [h1, Option.bind_some], fun a ha => h2 a ha, Or.inr ⟨(Or.inr (Or.inr (Or.inr rfl))), rfl, fun j hne => ⟨pk_uLn hne, pk_uLn hne, pk_uLn hne, pk_un hne⟩, ?_, fun a ha => ⟨?_, ?_, ?_⟩⟩⟩
    · dsimp only
      rw [pk_us]
      exact m_nar0
    · dsimp only
      rw [pk_uLs, if_pos rfl]
      rfl
    · dsimp only
      rw [pk_uLs, e7' (by omega)]
      rfl
    · dsimp only
      rw [pk_uLs, e12' hk1]
      rfl
/-- one formula told, as the class keeps it -/
def m_tq (le : Nat → Int32) (n o P G : Nat) (lab : Nat → Int32) (p : Nat) (so wt mw gl : Nat → Int64) (an : Nat → Int32) : Prop := ∀ q, p ≤ q → q < n → (∀ a, a < P * 2 ^ G → m_B (so q) a = m_sem (le q) (lab (a / 2 ^ G)) (a.testBit (o + (m_LT le n - 1 - m_LT le q))) (m_B (so (q + 1)) a) (m_B (so (m_E le n (q + 1))) a)) ∧ (m_lat (le q) → m_dat (le q) (P * 2 ^ G) (so q) (so (q + 1)) (so (m_E le n (q + 1))) wt mw gl an (o + (m_LT le n - 1 - m_LT le q)))
/-- .. and as one of two, in a row for both -/
def m_td (le : Nat → Int32) (n o w P G : Nat) (lab : Nat → Int32) (p : Nat) (so wt mw gl : Nat → Int64) (an : Nat → Int32) : Prop := ∀ q, p ≤ q → q < n → (∀ a, a < P * 2 ^ G → m_B (so (16 * w + q)) a = m_sem (le q) (lab (a / 2 ^ G)) (a.testBit (o + (m_LT le n - 1 - m_LT le q))) (m_B (so (16 * w + (q + 1))) a) (m_B (so (16 * w + m_E le n (q + 1))) a)) ∧ (m_lat (le q) → m_dat (le q) (P * 2 ^ G) (so (16 * w + q)) (so (16 * w + (q + 1))) (so (16 * w + m_E le n (q + 1))) wt mw gl an (o + (m_LT le n - 1 - m_LT le q)))
theorem m_td_of {le : Nat → Int32} {n o w P G : Nat} {lab : Nat → Int32} {so cso wt mw gl : Nat → Int64} {an : Nat → Int32} (h : m_tq le n o P G lab 0 so wt mw gl an) (hc : ∀ q, cso (16 * w + q) = so q) : m_td le n o w P G lab 0 cso wt mw gl an := fun q h1 h2 => by
  rw [hc q, hc (q + 1), hc (m_E le n (q + 1))]
  exact h q h1 h2
theorem m_tellL {le : Nat → Int32} {n P G o : Nat} (hn : n ≤ 16) (hw : m_WF le n) (hG : G ≤ 3) (hP : P ≤ 8) (ho : o + m_LT le n ≤ G) (lab : Nat → Int32) : ∀ (p m : Nat) (so wt mw gl : Nat → Int64) (an : Nat → Int32), p ≤ n → p < m → m_tq le n o P G lab p so wt mw gl an → ∃ so' wt' mw' gl' an', T_tell_l1 m_N lab (nI P) (nI G) (nI (P * 2 ^ G)) (m_all (P * 2 ^ G)) (F_T_firstNodes (nI (2 ^ G))) (nI n) le m (nI p + -1) so (nI (o + (m_LT le n - m_LT le p))) wt mw gl an = some (so', nI (o + m_LT le n), wt', mw', gl', an') ∧ m_tq le n o P G lab 0 so' wt' mw' gl' an' ∧ (∀ j, p ≤ j → so' j = so j) ∧ ∀ j, j < o → wt' j = wt j ∧ mw' j = mw j ∧ gl' j = gl j ∧ an' j = an j
  | 0, m + 1, so, wt, mw, gl, an, h, _, hI => by
    refine ⟨so, wt, mw, gl, an, ?_, hI, fun _ _ => rfl, fun _ _ => ⟨rfl, rfl, rfl, rfl⟩⟩
    rw [T_tell_l1_s, if_pos (by decide)]
    rfl
  | p + 1, m + 1, so, wt, mw, gl, an, h, hm, hI => by
    have hmono := m_LT_mono le (p := p + 1) n h
    have hL : m_LT le (p + 1) = m_LT le p + (if (le p = 120 ∨ le p = 102 ∨ le p = 103 ∨ le p = 117) then 1 else 0) := rfl
    have hjl : m_lat (le p) → o + (m_LT le n - m_LT le (p + 1)) = o + (m_LT le n - 1 - m_LT le p) ∧ o + (m_LT le n - m_LT le (p + 1)) < G ∧ o + (m_LT le n - m_LT le (p + 1)) + 1 = o + (m_LT le n - m_LT le p) := fun z => by
      rw [if_pos (show le p = 120 ∨ le p = 102 ∨ le p = 103 ∨ le p = 117 from z)] at hL
      omega
    have hjn : ¬ m_lat (le p) → m_LT le (p + 1) = m_LT le p := fun z => by
      rw [if_neg (show ¬ (le p = 120 ∨ le p = 102 ∨ le p = 103 ∨ le p = 117) from z)] at hL
      omega
    obtain ⟨x, lt', wt', mw', gl', an', e1, e2, e3⟩ := m_nodesWhere hn hw hG hP lab so wt mw gl an (p := p) (by omega) (j0 := o + (m_LT le n - m_LT le (p + 1))) (fun z => (hjl z).2.1)
    have hE := m_E_le (le := le) (n := n) (q := p + 1) h
    have hkeep : m_tq le n o P G lab p (vp_updL so p x) wt' mw' gl' an' ∧ lt' = o + (m_LT le n - m_LT le p) ∧ ∀ j, j < o → wt' j = wt j ∧ mw' j = mw j ∧ gl' j = gl j ∧ an' j = an j := by
      have hso : ∀ j, j ≠ p → vp_updL so p x j = so j := fun j hj => pk_uLn hj
      have hxs : vp_updL so p x p = x := pk_uLs
      rcases e3 with ⟨z, rfl, rfl, rfl, rfl, rfl⟩ | ⟨z, rfl, z2, z3⟩
      · have hLT := hjn z
        refine ⟨fun q h1 h2 => ?_, by rw [hLT], fun j _ => ⟨rfl, rfl, rfl, rfl⟩⟩
        have hEq := m_E_le (le := le) (n := n) (q := q + 1) (by omega)
        by_cases hq : q = p
        · subst hq
          rw [hxs, hso _ (by omega), hso _ (by omega)]
          refine ⟨fun a ha => ?_, fun y => absurd y z⟩
          rw [e2 a ha]
          have hlt := m_letters (hw.1 q (by omega)).1
          generalize le q = c at hlt z
          rcases hlt with rfl | rfl | rfl | rfl | rfl | rfl | rfl | rfl | rfl | rfl | rfl | rfl
          · rfl
          · rfl
          · rfl
          · rfl
          · rfl
          · rfl
          · rfl
          · rfl
          · exact absurd (Or.inl rfl) z
          · exact absurd (Or.inr (Or.inl rfl)) z
          · exact absurd (Or.inr (Or.inr (Or.inl rfl))) z
          · exact absurd (Or.inr (Or.inr (Or.inr rfl))) z
        · rw [hso _ (by omega), hso _ (by omega), hso _ (by omega)]
          exact hI q (by omega) h2
      · obtain ⟨y1, y2, y3⟩ := hjl z
        refine ⟨fun q h1 h2 => ?_, y3, fun j hj => z2 j (by omega)⟩
        have hEq := m_E_le (le := le) (n := n) (q := q + 1) (by omega)
        by_cases hq : q = p
        · subst hq
          rw [hxs, hso _ (by omega), hso _ (by omega), ← y1]
          exact ⟨e2, fun _ => z3⟩
        · rw [hso _ (by omega), hso _ (by omega), hso _ (by omega)]
          refine ⟨(hI q (by omega) h2).1, fun y => ?_⟩
          have hq1 := m_LT_lt h2 y
          have hq2 := m_LT_mono le (p := p + 1) q (by omega)
          have hd := (hI q (by omega) h2).2 y
          obtain ⟨w1, w2, w3, w4⟩ := z2 (o + (m_LT le n - 1 - m_LT le q)) (by omega)
          unfold m_dat at hd ⊢
          rw [w1, w2, w3, w4]
          exact hd
    obtain ⟨t1, t2, t3⟩ := hkeep
    obtain ⟨so2, wt2, mw2, gl2, an2, f1, f2, f3, f4⟩ := m_tellL hn hw hG hP ho lab p m (vp_updL so p x) wt' mw' gl' an' (by omega) (by omega) t1
    refine ⟨so2, wt2, mw2, gl2, an2, ?_, f2, fun j hj => ?_, fun j hj => ?_⟩
    · rw [T_tell_l1_s, m_n01', if_neg (nI_pos (by omega)), e1, Option.bind_some, m_chk (m_inb (by omega) (by omega)), nI_clamp (by omega), t2]
      exact f1
    · rw [f3 j (by omega), pk_uLn (by omega)]
    · obtain ⟨u1, u2, u3, u4⟩ := f4 j hj
      obtain ⟨v1, v2, v3, v4⟩ := t3 j hj
      exact ⟨u1.trans v1, u2.trans v2, u3.trans v3, u4.trans v4⟩
theorem m_tell {le : Nat → Int32} {n P G o : Nat} (hn : n ≤ 16) (hw : m_WF le n) (hG : G ≤ 3) (hP : P ≤ 8) (ho : o + m_LT le n ≤ G) (lab : Nat → Int32) (so wt mw gl : Nat → Int64) (an : Nat → Int32) : ∃ so' wt' mw' gl' an', F_T_tell m_N lab (nI P) (nI G) (nI (P * 2 ^ G)) (m_all (P * 2 ^ G)) (F_T_firstNodes (nI (2 ^ G))) so (nI o) wt mw gl an (nI n) le = some (so' 0, so', nI (o + m_LT le n), wt', mw', gl', an') ∧ m_tq le n o P G lab 0 so' wt' mw' gl' an' ∧ (∀ j, n ≤ j → so' j = so j) ∧ ∀ j, j < o → wt' j = wt j ∧ mw' j = mw j ∧ gl' j = gl j ∧ an' j = an j := by
  obtain ⟨so2, wt2, mw2, gl2, an2, f1, f2, f3, f4⟩ := m_tellL hn hw hG hP ho lab n m_N so wt mw gl an (Nat.le_refl _) (by show _ < 5000; omega) (fun q h1 h2 => by omega)
  refine ⟨so2, wt2, mw2, gl2, an2, ?_, f2, f3, f4⟩
  have himin : g_imin (nI n) (16 : Int32) = nI n := by
    simp (disch := omega) only [g_imin, m_e16, m_lt, if_neg]
  rw [Nat.sub_self, Nat.add_zero] at f1
  simp only [F_T_tell, himin]
  rw [Int32.sub_eq_add_neg, show -(1 : Int32) = -1 from rfl, f1, Option.bind_some]
