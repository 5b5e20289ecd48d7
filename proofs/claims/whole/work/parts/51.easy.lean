/-! the calls that need least -/
theorem m_in {a lo hi : Nat} (ha : a < 2 ^ 31) (hl : lo < 2 ^ 31) (hh : hi < 2 ^ 31) : F_M_in (nI a) (nI lo) (nI hi) = if lo ≤ a ∧ a ≤ hi then 1 else 0 := by
  simp only [F_M_in, m_lt ha hl, m_lt hh ha]
  by_cases h1 : a < lo
  · rw [if_pos h1, if_neg (by omega)]
  · rw [if_neg h1]
    by_cases h2 : hi < a
    · rw [if_pos h2, if_neg (by omega)]
    · rw [if_neg h2, if_pos (by omega)]
theorem m_in_neg {a hi : Int32} (h : a < 0) : F_M_in a 0 hi = 0 := by simp only [F_M_in, if_pos h]
theorem m_in1 {a hi : Nat} (h : a ≤ hi) (hh : hi < 2 ^ 31) : F_M_in (nI a) 0 (nI hi) = 1 := by
  have h1 := m_in (a := a) (lo := 0) (hi := hi) (by omega) (by omega) hh
  rw [if_pos (by omega)] at h1
  exact h1
theorem m_in0 {a hi : Nat} (h : hi < a) (hh : a < 2 ^ 31) : F_M_in (nI a) 0 (nI hi) = 0 := by
  have h1 := m_in (a := a) (lo := 0) (hi := hi) hh (by omega) (by omega)
  rw [if_neg (by omega)] at h1
  exact h1
theorem mc_type {typed : Nat → Int32} {cnt letters : Int32} {text : Nat → Int32} (h : m_IT typed cnt letters text) (a : Int32) : ∃ oL oM, F_L_type typed cnt a = some oL ∧ F_M_type letters text a = some oM ∧ oL.1 = oM.1 ∧ m_IT oL.2.1 oL.2.2 oM.2.1 oM.2.2 := by
  obtain ⟨n, hn, rfl, rfl, hj⟩ := id h
  have e1 : (255 : Int32) = nI 255 := rfl
  have e2 : (120 : Int32) = nI 120 := rfl
  rcases m_case a with ha | ⟨c, hc, rfl⟩
  · exact ⟨(-1, typed, nI n), (-1, nI n, text), by simp only [F_L_type, if_pos ha], by simp only [F_M_type, m_in_neg ha, if_true], rfl, h⟩
  · have hp := nI_pos hc
    have hp2 : ¬ nI n < 0 := nI_pos (by omega)
    by_cases h255 : c ≤ 255
    · by_cases h120 : n < 120
      · refine ⟨(nI n + 1, upd typed (nI n).toNatClampNeg (nI c), nI n + 1), (nI n + 1, nI n + 1, upd text (nI n).toNatClampNeg (nI c)), ?_, ?_, rfl, ?_⟩
        · simp only [F_L_type, e1, e2, m_le hc (show 255 < 2 ^ 31 by omega), m_lt (show n < 2 ^ 31 by omega) (show 120 < 2 ^ 31 by omega), if_neg hp, if_pos h255, if_neg hp2, if_pos h120, m_chk (m_inb h120 (by omega))]
        · simp only [F_M_type, e1, e2, m_in1 h255 (by omega), m_eq (show n < 2 ^ 31 by omega) (show 120 < 2 ^ 31 by omega), if_neg (show ¬ (1 : Int32) = 0 by decide), if_neg (show ¬ n = 120 by omega), m_chk (m_inb h120 (by omega))]
        · refine ⟨n + 1, by omega, (nI_1 n), (nI_1 n), fun j hj2 => ?_⟩
          show upd typed (nI n).toNatClampNeg (nI c) j = upd text (nI n).toNatClampNeg (nI c) j ∧ ∃ c_1 : Nat, c_1 ≤ 255 ∧ upd text (nI n).toNatClampNeg (nI c) j = nI c_1
          rw [nI_clamp (by omega)]
          by_cases hjn : j = n
          · subst hjn
            rw [pk_us, pk_us]
            exact ⟨rfl, c, h255, rfl⟩
          · rw [pk_un hjn, pk_un hjn]
            exact hj j (by omega)
      · have h120e : n = 120 := by omega
        refine ⟨(-3, typed, nI n), (-3, nI n, text), ?_, ?_, rfl, h⟩
        · simp only [F_L_type, e1, e2, m_le hc (show 255 < 2 ^ 31 by omega), m_lt (show n < 2 ^ 31 by omega) (show 120 < 2 ^ 31 by omega), if_neg hp, if_pos h255, if_neg hp2, if_neg h120]
        · simp only [F_M_type, e1, e2, m_in1 h255 (by omega), m_eq (show n < 2 ^ 31 by omega) (show 120 < 2 ^ 31 by omega), if_neg (show ¬ (1 : Int32) = 0 by decide), if_pos h120e]
    · refine ⟨(-1, typed, nI n), (-1, nI n, text), ?_, ?_, rfl, h⟩
      · simp only [F_L_type, e1, m_le hc (show 255 < 2 ^ 31 by omega), if_neg hp, if_neg h255]
      · simp only [F_M_type, e1, m_in0 (show 255 < c by omega) hc, if_true]
theorem mc_clear {typed : Nat → Int32} {cnt letters : Int32} {text : Nat → Int32} (h : m_IT typed cnt letters text) : ∃ oL oM, F_L_clear cnt = some oL ∧ F_M_clear letters = some oM ∧ oL.1 = oM.1 ∧ m_IT typed oL.2 oM.2 text := by
  obtain ⟨n, hn, rfl, rfl, hj⟩ := h
  exact ⟨(nI n, 0), (nI n, 0), rfl, rfl, rfl, 0, by omega, rfl, rfl, fun j hj => by omega⟩
theorem mc_shows {shown : Nat → Int32} {cnt letters : Int32} {text : Nat → Int32} (h : m_IS shown cnt letters text) (a : Int32) : ∃ oL oM, F_L_shows shown cnt a = some oL ∧ F_M_shows letters text a = some oM ∧ oL.1 = oM.1 ∧ m_IS oL.2.1 oL.2.2 oM.2.1 oM.2.2 := by
  obtain ⟨n, hn, rfl, rfl, hj⟩ := id h
  have e1 : (7 : Int32) = nI 7 := rfl
  have e2 : (8 : Int32) = nI 8 := rfl
  rcases m_case a with ha | ⟨c, hc, rfl⟩
  · exact ⟨(-1, shown, nI n), (-1, nI n, text), by simp only [F_L_shows, F_L_isLabel, if_pos ha, if_true], by simp only [F_M_shows, m_in_neg ha, if_true], rfl, h⟩
  · have hp := nI_pos hc
    have hp2 : ¬ nI n < 0 := nI_pos (by omega)
    by_cases h7 : c ≤ 7
    · have hlab : F_L_isLabel (nI c) = 1 := by simp only [F_L_isLabel, e2, m_le (show 8 < 2 ^ 31 by omega) hc, if_neg hp, if_neg (show ¬ 8 ≤ c by omega)]
      by_cases h8 : n < 8
      · refine ⟨(nI n + 1, upd shown (nI n).toNatClampNeg (nI c), nI n + 1), (nI n + 1, nI n + 1, upd text (nI n).toNatClampNeg (nI c)), ?_, ?_, rfl, ?_⟩
        · simp only [F_L_shows, hlab, e2, m_lt (show n < 2 ^ 31 by omega) (show 8 < 2 ^ 31 by omega), if_neg (show ¬ (1 : Int32) = 0 by decide), if_neg hp2, if_pos h8, m_chk (m_inb h8 (by omega))]
        · simp only [F_M_shows, e1, e2, m_in1 h7 (by omega), m_eq (show n < 2 ^ 31 by omega) (show 8 < 2 ^ 31 by omega), if_neg (show ¬ (1 : Int32) = 0 by decide), if_neg (show ¬ n = 8 by omega), m_chk (m_inb h8 (by omega))]
        · refine ⟨n + 1, by omega, (nI_1 n), (nI_1 n), fun j hj2 => ?_⟩
          show upd shown (nI n).toNatClampNeg (nI c) j = upd text (nI n).toNatClampNeg (nI c) j ∧ ∃ c_1 : Nat, c_1 ≤ 7 ∧ upd text (nI n).toNatClampNeg (nI c) j = nI c_1
          rw [nI_clamp (by omega)]
          by_cases hjn : j = n
          · subst hjn
            rw [pk_us, pk_us]
            exact ⟨rfl, c, h7, rfl⟩
          · rw [pk_un hjn, pk_un hjn]
            exact hj j (by omega)
      · have h8e : n = 8 := by omega
        refine ⟨(-3, shown, nI n), (-3, nI n, text), ?_, ?_, rfl, h⟩
        · simp only [F_L_shows, hlab, e2, m_lt (show n < 2 ^ 31 by omega) (show 8 < 2 ^ 31 by omega), if_neg (show ¬ (1 : Int32) = 0 by decide), if_neg hp2, if_neg h8]
        · simp only [F_M_shows, e1, e2, m_in1 h7 (by omega), m_eq (show n < 2 ^ 31 by omega) (show 8 < 2 ^ 31 by omega), if_neg (show ¬ (1 : Int32) = 0 by decide), if_pos h8e]
    · have hlab : F_L_isLabel (nI c) = 0 := by simp only [F_L_isLabel, e2, m_le (show 8 < 2 ^ 31 by omega) hc, if_neg hp, if_pos (show 8 ≤ c by omega)]
      refine ⟨(-1, shown, nI n), (-1, nI n, text), ?_, ?_, rfl, h⟩
      · simp only [F_L_shows, hlab, if_true]
      · simp only [F_M_shows, e1, m_in0 (show 7 < c by omega) hc, if_true]
theorem mc_hides {shown : Nat → Int32} {cnt letters : Int32} {text : Nat → Int32} (h : m_IS shown cnt letters text) : ∃ oL oM, F_L_hides cnt = some oL ∧ F_M_hides letters = some oM ∧ oL.1 = oM.1 ∧ m_IS shown oL.2 oM.2 text := by
  obtain ⟨n, hn, rfl, rfl, hj⟩ := h
  exact ⟨(nI n, 0), (nI n, 0), rfl, rfl, rfl, 0, by omega, rfl, rfl, fun j hj => by omega⟩
/-- a state's number, of both sides -/
theorem m_state {s : Nat} (hs : s ≤ 5) (row : Nat → Int32) (hr : row 0 = nI s) (a : Int32) : (∃ j, j < s ∧ a = nI j ∧ F_W_hasState (nI s) a = 1 ∧ F_M_isState row a = 1) ∨ (F_W_hasState (nI s) a = 0 ∧ F_M_isState row a = 0) := by
  rcases m_case a with ha | ⟨c, hc, rfl⟩
  · exact Or.inr ⟨by simp only [F_W_hasState, if_pos ha], by simp only [F_M_isState, m_in_neg ha]⟩
  · have hp := nI_pos hc
    by_cases h : c < s
    · refine Or.inl ⟨c, h, rfl, ?_, ?_⟩
      · simp only [F_W_hasState, show (5 : Int32) = nI 5 from rfl, m_le (show s < 2 ^ 31 by omega) hc, m_le (show 5 < 2 ^ 31 by omega) hc, if_neg hp, if_neg (show ¬ s ≤ c by omega), if_neg (show ¬ 5 ≤ c by omega)]
      · simp only [F_M_isState, hr]
        rw [show nI s - 1 = nI (s - 1) by rw [show s = s - 1 + 1 by omega]; exact nI_pred _]
        exact m_in1 (by omega) (by omega)
    · refine Or.inr ⟨?_, ?_⟩
      · simp only [F_W_hasState, m_le (show s < 2 ^ 31 by omega) hc, if_neg hp, if_pos (show s ≤ c by omega)]
      · simp only [F_M_isState, hr]
        by_cases hs0 : s = 0
        · subst hs0
          rw [show nI 0 - 1 = (-1 : Int32) from rfl]
          simp only [F_M_in]
          rw [if_neg hp, if_pos]
          exact Int32.lt_iff_toInt_lt.mpr (by rw [nI_toInt hc]; show (-1 : Int) < c; omega)
        · rw [show nI s - 1 = nI (s - 1) by rw [show s = s - 1 + 1 by omega]; exact nI_pred _]
          exact m_in0 (by omega) hc
