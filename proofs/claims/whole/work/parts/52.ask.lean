/-! label, move: asked -/
theorem m_state_row {s : Nat} (hs : s ≤ 5) {row : Nat → Int32} (hr : row 0 = nI s) (a : Int32) : (∃ j, j < s ∧ a = nI j ∧ F_W_hasState (nI s) a = 1 ∧ F_M_isState row a = 1) ∨ (F_W_hasState (nI s) a = 0 ∧ F_M_isState row a = 0) := m_state hs row hr a
theorem m_move {mv : Nat} (hm : mv ≤ 10) {row : Nat → Int32} (hr : row 6 = nI mv) (a : Int32) : (∃ j, j < mv ∧ a = nI j ∧ F_W_hasMove (nI mv) a = 1 ∧ F_M_isMove row a = 1) ∨ (F_W_hasMove (nI mv) a = 0 ∧ F_M_isMove row a = 0) := by
  rcases m_case a with ha | ⟨c, hc, rfl⟩
  · exact Or.inr ⟨by simp only [F_W_hasMove, if_pos ha], by simp only [F_M_isMove, m_in_neg ha]⟩
  · have hp := nI_pos hc
    by_cases h : c < mv
    · refine Or.inl ⟨c, h, rfl, ?_, ?_⟩
      · simp only [F_W_hasMove, show (10 : Int32) = nI 10 from rfl, m_le (show mv < 2 ^ 31 by omega) hc, m_le (show 10 < 2 ^ 31 by omega) hc, if_neg hp, if_neg (show ¬ mv ≤ c by omega), if_neg (show ¬ 10 ≤ c by omega)]
      · simp only [F_M_isMove, hr]
        rw [show nI mv - 1 = nI (mv - 1) by rw [show mv = mv - 1 + 1 by omega]; exact nI_pred _]
        exact m_in1 (by omega) (by omega)
    · refine Or.inr ⟨?_, ?_⟩
      · simp only [F_W_hasMove, m_le (show mv < 2 ^ 31 by omega) hc, if_neg hp, if_pos (show mv ≤ c by omega)]
      · simp only [F_M_isMove, hr]
        by_cases hs0 : mv = 0
        · subst hs0
          rw [show nI 0 - 1 = (-1 : Int32) from rfl]
          simp only [F_M_in]
          rw [if_neg hp, if_pos]
          exact Int32.lt_iff_toInt_lt.mpr (by rw [nI_toInt hc]; show (-1 : Int) < c; omega)
        · rw [show nI mv - 1 = nI (mv - 1) by rw [show mv = mv - 1 + 1 by omega]; exact nI_pred _]
          exact m_in0 (by omega) hc
theorem mc_label {states moveCount : Int32} {stateLabel moveActor moveFrom moveTo : Nat → Int32} {csz clt : Int32} {cle ssz slt : Nat → Int32} {sle : Nat → Nat → Int32} {row : Nat → Int32} (h : m_W states moveCount stateLabel moveActor moveFrom moveTo csz clt cle ssz slt sle row) (a : Int32) : ∃ oL oM, F_L_label states stateLabel a = some oL ∧ F_M_label row a = some oM ∧ oL = oM := by
  obtain ⟨⟨s, hs, rfl, hr, hl, -⟩, -⟩ := h
  rcases m_state hs row hr a with ⟨j, hj, rfl, h1, h2⟩ | ⟨h1, h2⟩
  · refine ⟨stateLabel j, stateLabel j, ?_, ?_, rfl⟩
    · simp only [F_L_label, h1, if_neg (show ¬ (1 : Int32) = 0 by decide), m_chk (m_inb (show j < 5 by omega) (by omega)), nI_clamp (show j < 2 ^ 31 by omega)]
    · simp only [F_M_label, h2, if_neg (show ¬ (1 : Int32) = 0 by decide)]
      rw [show (1 : Int32) + nI j = nI (1 + j) from nI_add 1 j, m_chk (m_inb (show 1 + j < 105 by omega) (by omega)), nI_clamp (show 1 + j < 2 ^ 31 by omega), Option.bind_some, (hl j hj).1]
  · exact ⟨-1, -1, by simp only [F_L_label, h1, if_true], by simp only [F_M_label, h2, if_true, Option.bind_some], rfl⟩
theorem mc_move {states moveCount : Int32} {stateLabel moveActor moveFrom moveTo : Nat → Int32} {csz clt : Int32} {cle ssz slt : Nat → Int32} {sle : Nat → Nat → Int32} {row : Nat → Int32} (h : m_W states moveCount stateLabel moveActor moveFrom moveTo csz clt cle ssz slt sle row) (a w : Int32) : ∃ oL oM, F_L_move moveCount moveActor moveFrom moveTo a w = some oL ∧ F_M_move row a w = some oM ∧ oL = oM := by
  obtain ⟨⟨s, hs, rfl, hr, hl, mv, hmv, rfl, hr6, hm⟩, -⟩ := h
  have n1 : ¬ (1 : Int32) = 0 := by decide
  rcases m_move hmv hr6 a with ⟨j, hj, rfl, h1, h2⟩ | ⟨h1, h2⟩
  · obtain ⟨m1, m2, m3, -⟩ := hm j hj
    have hin := m_chk (α := Int32) (k := some (moveActor j)) (m_inb (show j < 10 by omega) (by omega))
    have hj2 : j < 2 ^ 31 := by omega
    by_cases w0 : w = 0
    · subst w0
      refine ⟨moveActor j, moveActor j, ?_, ?_, rfl⟩
      · simp only [F_L_move, h1, if_neg n1, if_true, m_chk (m_inb (show j < 10 by omega) (by omega)), nI_clamp hj2]
      · simp only [F_M_move, h2, if_neg n1, show F_M_in 0 0 2 = 1 from by decide]
        rw [show (7 : Int32) + 3 * nI j + 0 = nI (7 + 3 * j) by rw [show (7 : Int32) = nI 7 from rfl, show (3 : Int32) = nI 3 from rfl, show (0 : Int32) = nI 0 from rfl, pk_mul, nI_add, nI_add]; rfl, m_chk (m_inb (by omega) (by omega)), nI_clamp (by omega), Option.bind_some, m1]
    · by_cases w1 : w = 1
      · subst w1
        refine ⟨moveFrom j, moveFrom j, ?_, ?_, rfl⟩
        · simp only [F_L_move, h1, if_neg n1, if_true, m_chk (m_inb (show j < 10 by omega) (by omega)), nI_clamp hj2]
        · simp only [F_M_move, h2, if_neg n1, show F_M_in 1 0 2 = 1 from by decide]
          rw [show (7 : Int32) + 3 * nI j + 1 = nI (7 + 3 * j + 1) by rw [show (7 : Int32) = nI 7 from rfl, show (3 : Int32) = nI 3 from rfl, show (1 : Int32) = nI 1 from rfl, pk_mul, nI_add, nI_add], m_chk (m_inb (by omega) (by omega)), nI_clamp (by omega), Option.bind_some, m2]
      · by_cases w2 : w = 2
        · subst w2
          refine ⟨moveTo j, moveTo j, ?_, ?_, rfl⟩
          · simp only [F_L_move, h1, if_neg n1, if_neg w0, if_neg w1, if_true, m_chk (m_inb (show j < 10 by omega) (by omega)), nI_clamp hj2]
          · simp only [F_M_move, h2, if_neg n1, show F_M_in 2 0 2 = 1 from by decide]
            rw [show (7 : Int32) + 3 * nI j + 2 = nI (7 + 3 * j + 2) by rw [show (7 : Int32) = nI 7 from rfl, show (3 : Int32) = nI 3 from rfl, show (2 : Int32) = nI 2 from rfl, pk_mul, nI_add, nI_add], m_chk (m_inb (by omega) (by omega)), nI_clamp (by omega), Option.bind_some, m3]
        · have hw : F_M_in w 0 2 = 0 := by
            rcases m_case w with hw | ⟨c, hc, rfl⟩
            · exact m_in_neg hw
            · have c0 : c ≠ 0 := fun z => w0 (by rw [z]; rfl)
              have c1 : c ≠ 1 := fun z => w1 (by rw [z]; rfl)
              have c2 : c ≠ 2 := fun z => w2 (by rw [z]; rfl)
              exact m_in0 (hi := 2) (by omega) hc
          refine ⟨-1, -1, ?_, ?_, rfl⟩
          · simp only [F_L_move, h1, if_neg n1, if_neg w0, if_neg w1, if_neg w2]
          · simp only [F_M_move, h2, hw, if_neg n1, if_true, Option.bind_some]
  · exact ⟨-1, -1, by simp only [F_L_move, h1, if_true], by simp only [F_M_move, h2, if_true, Option.bind_some], rfl⟩
