/-! moves, takes, stores, fetches -/
theorem m_actor (a : Int32) : (∃ j, j < 2 ∧ a = nI j ∧ F_M_in a 0 1 = 1) ∨ ((a < 0 ∨ ∃ c, 2 ≤ c ∧ c < 2 ^ 31 ∧ a = nI c) ∧ F_M_in a 0 1 = 0) := by
  rcases m_case a with ha | ⟨c, hc, rfl⟩
  · exact Or.inr ⟨Or.inl ha, m_in_neg ha⟩
  · by_cases h : c < 2
    · exact Or.inl ⟨c, h, rfl, m_in1 (hi := 1) (by omega) (by omega)⟩
    · exact Or.inr ⟨Or.inr ⟨c, by omega, hc, rfl⟩, m_in0 (hi := 1) (by omega) hc⟩
theorem mc_moves {n_states : Int32} {n_moveCount : Int32} {n_stateLabel : Nat → Int32} {n_moveActor : Nat → Int32} {n_moveFrom : Nat → Int32} {n_moveTo : Nat → Int32} {n_csz : Int32} {n_clt : Int32} {n_cle : Nat → Int32} {n_ssz : Nat → Int32} {n_slt : Nat → Int32} {n_sle : Nat → Nat → Int32} {p_ix : Nat → Nat} {p_states : Nat → Int32} {p_moveCount : Nat → Int32} {p_stateLabel : Nat → Nat → Int32} {p_moveActor : Nat → Nat → Int32} {p_moveFrom : Nat → Nat → Int32} {p_moveTo : Nat → Nat → Int32} {p_csz : Nat → Int32} {p_clt : Nat → Int32} {p_cle : Nat → Nat → Int32} {p_ssz : Nat → Nat → Int32} {p_slt : Nat → Nat → Int32} {p_sle : Nat → Nat → Nat → Int32} {l_pastCount : Int32} {f_undone : Int32} {f_now : Nat → Int32} {f_past : Nat → Int32} (hW : m_W n_states n_moveCount n_stateLabel n_moveActor n_moveFrom n_moveTo n_csz n_clt n_cle n_ssz n_slt n_sle f_now) (hP : m_IP p_ix p_states p_moveCount p_stateLabel p_moveActor p_moveFrom p_moveTo p_csz p_clt p_cle p_ssz p_slt p_sle l_pastCount f_undone f_past) (a1 : Int32) (a2 : Int32) (a3 : Int32) : ∃ oL oM, F_L_moves m_N n_states n_moveCount n_stateLabel n_moveActor n_moveFrom n_moveTo n_csz n_clt n_cle n_ssz n_slt n_sle p_ix p_states p_moveCount p_stateLabel p_moveActor p_moveFrom p_moveTo p_csz p_clt p_cle p_ssz p_slt p_sle l_pastCount a1 a2 a3 = some oL ∧ F_M_moves m_N f_undone f_now f_past a1 a2 a3 = some oM ∧ oL.1 = oM.1 ∧ m_W n_states oL.2.1 n_stateLabel oL.2.2.1 oL.2.2.2.1 oL.2.2.2.2.1 n_csz n_clt n_cle n_ssz n_slt n_sle oM.2.2.1 ∧ m_IP oL.2.2.2.2.2.1 oL.2.2.2.2.2.2.1 oL.2.2.2.2.2.2.2.1 oL.2.2.2.2.2.2.2.2.1 oL.2.2.2.2.2.2.2.2.2.1 oL.2.2.2.2.2.2.2.2.2.2.1 oL.2.2.2.2.2.2.2.2.2.2.2.1 oL.2.2.2.2.2.2.2.2.2.2.2.2.1 oL.2.2.2.2.2.2.2.2.2.2.2.2.2.1 oL.2.2.2.2.2.2.2.2.2.2.2.2.2.2.1 oL.2.2.2.2.2.2.2.2.2.2.2.2.2.2.2.1 oL.2.2.2.2.2.2.2.2.2.2.2.2.2.2.2.2.1 oL.2.2.2.2.2.2.2.2.2.2.2.2.2.2.2.2.2.1 oL.2.2.2.2.2.2.2.2.2.2.2.2.2.2.2.2.2.2 oM.2.1 oM.2.2.2 := by
  obtain ⟨⟨s, hs, rfl, hr, hl, mv, k1, rfl, k3, k4⟩, hF, hS⟩ := id hW
  rcases m_actor a1 with ⟨a, ha, rfl, e1⟩ | ⟨hb, e1⟩
  · rcases m_state hs f_now hr a2 with ⟨x, hx, rfl, e2, e3⟩ | ⟨e2, e3⟩
    · rcases m_state hs f_now hr a3 with ⟨y, hy, rfl, e4, e5⟩ | ⟨e4, e5⟩
      · by_cases h10 : mv < 10
        · obtain ⟨pL, pM, q1, q2, q3⟩ := m_remember hW hP
          refine ⟨_, _, by simp (disch := omega) only [F_L_moves, F_W_addMove, e2, e4, m_n10, q1, if_true, if_false, m_lt, m_le, m_eq, m_0lt, m_0le, m_le0, m_0eq, if_pos, if_neg, pk_mul, nI_add, nI_1, m_1p, m_pred, m_inb, m_chkT, nI_clamp, Option.bind_some, decide_true, m_e2, m_e3, m_e4, m_e5, m_e6, m_e7, m_e8, m_e9, m_e10, m_e15, m_e16, m_e17, m_e31, m_e32, m_e37, m_e48, m_e54, m_e57, m_e64, m_e97, m_e105, m_e120, m_e525, m_e640, m_e2048]; rfl, by simp (disch := omega) only [F_M_moves, e1, e3, e5, k3, m_n10, q2, pk_un, pk_us, if_true, if_false, m_lt, m_le, m_eq, m_0lt, m_0le, m_le0, m_0eq, if_pos, if_neg, pk_mul, nI_add, nI_1, m_1p, m_pred, m_inb, m_chkT, nI_clamp, Option.bind_some, decide_true, m_e2, m_e3, m_e4, m_e5, m_e6, m_e7, m_e8, m_e9, m_e10, m_e15, m_e16, m_e17, m_e31, m_e32, m_e37, m_e48, m_e54, m_e57, m_e64, m_e97, m_e105, m_e120, m_e525, m_e640, m_e2048]; rfl, ?_, ?_, q3⟩
          · rfl
          dsimp only
          refine ⟨⟨s, hs, rfl, ?_, fun j hj => ?_, mv + 1, by omega, rfl, pk_us, fun j hj => ?_⟩, ?_, fun k hk => ?_⟩
          · rw [pk_un (by omega), pk_un (by omega), pk_un (by omega), pk_un (by omega)]
            exact hr
          · rw [pk_un (by omega), pk_un (by omega), pk_un (by omega), pk_un (by omega)]
            exact hl j hj
          · by_cases hjm : j = mv
            · subst hjm
              simp (disch := omega) only [pk_un, pk_us, if_true, if_false, m_lt, m_le, m_eq, m_0lt, m_0le, m_le0, m_0eq, if_pos, if_neg, pk_mul, nI_add, nI_1, m_1p, m_pred, m_inb, m_chkT, nI_clamp, Option.bind_some, decide_true, m_e2, m_e3, m_e4, m_e5, m_e6, m_e7, m_e8, m_e9, m_e10, m_e15, m_e16, m_e17, m_e31, m_e32, m_e37, m_e48, m_e54, m_e57, m_e64, m_e97, m_e105, m_e120, m_e525, m_e640, m_e2048]
              exact ⟨trivial, trivial, trivial, ⟨a, by omega, rfl⟩, ⟨x, hx, rfl⟩, y, hy, rfl⟩
            · simp (disch := omega) only [pk_un, pk_us, if_true, if_false, m_lt, m_le, m_eq, m_0lt, m_0le, m_le0, m_0eq, if_pos, if_neg, pk_mul, nI_add, nI_1, m_1p, m_pred, m_inb, m_chkT, nI_clamp, Option.bind_some, decide_true, m_e2, m_e3, m_e4, m_e5, m_e6, m_e7, m_e8, m_e9, m_e10, m_e15, m_e16, m_e17, m_e31, m_e32, m_e37, m_e48, m_e54, m_e57, m_e64, m_e97, m_e105, m_e120, m_e525, m_e640, m_e2048]
              exact k4 j (by omega)
          · exact hF.to (fun _ _ => rfl) (fun k hk => by simp (disch := omega) only [pk_un, if_true, if_false, m_lt, m_le, m_eq, m_0lt, m_0le, m_le0, m_0eq, if_pos, if_neg, pk_mul, nI_add, nI_1, m_1p, m_pred, m_inb, m_chkT, nI_clamp, Option.bind_some, decide_true, m_e2, m_e3, m_e4, m_e5, m_e6, m_e7, m_e8, m_e9, m_e10, m_e15, m_e16, m_e17, m_e31, m_e32, m_e37, m_e48, m_e54, m_e57, m_e64, m_e97, m_e105, m_e120, m_e525, m_e640, m_e2048])
          · exact (hS k hk).to (fun _ _ => rfl) (fun z hz => by simp (disch := omega) only [pk_un, if_true, if_false, m_lt, m_le, m_eq, m_0lt, m_0le, m_le0, m_0eq, if_pos, if_neg, pk_mul, nI_add, nI_1, m_1p, m_pred, m_inb, m_chkT, nI_clamp, Option.bind_some, decide_true, m_e2, m_e3, m_e4, m_e5, m_e6, m_e7, m_e8, m_e9, m_e10, m_e15, m_e16, m_e17, m_e31, m_e32, m_e37, m_e48, m_e54, m_e57, m_e64, m_e97, m_e105, m_e120, m_e525, m_e640, m_e2048])
        · have hmv : mv = 10 := by omega
          subst hmv
          exact ⟨_, _, by simp (disch := omega) only [F_L_moves, e2, e4, m_n10, if_true, if_false, m_lt, m_le, m_eq, m_0lt, m_0le, m_le0, m_0eq, if_pos, if_neg, pk_mul, nI_add, nI_1, m_1p, m_pred, m_inb, m_chkT, nI_clamp, Option.bind_some, decide_true, m_e2, m_e3, m_e4, m_e5, m_e6, m_e7, m_e8, m_e9, m_e10, m_e15, m_e16, m_e17, m_e31, m_e32, m_e37, m_e48, m_e54, m_e57, m_e64, m_e97, m_e105, m_e120, m_e525, m_e640, m_e2048]; rfl, by simp (disch := omega) only [F_M_moves, e1, e3, e5, k3, m_n10, if_true, if_false, m_lt, m_le, m_eq, m_0lt, m_0le, m_le0, m_0eq, if_pos, if_neg, pk_mul, nI_add, nI_1, m_1p, m_pred, m_inb, m_chkT, nI_clamp, Option.bind_some, decide_true, m_e2, m_e3, m_e4, m_e5, m_e6, m_e7, m_e8, m_e9, m_e10, m_e15, m_e16, m_e17, m_e31, m_e32, m_e37, m_e48, m_e54, m_e57, m_e64, m_e97, m_e105, m_e120, m_e525, m_e640, m_e2048]; rfl, rfl, hW, hP⟩
      · exact ⟨_, _, by simp (disch := omega) only [F_L_moves, e2, e4, m_n10, if_true, if_false, m_lt, m_le, m_eq, m_0lt, m_0le, m_le0, m_0eq, if_pos, if_neg, pk_mul, nI_add, nI_1, m_1p, m_pred, m_inb, m_chkT, nI_clamp, Option.bind_some, decide_true, m_e2, m_e3, m_e4, m_e5, m_e6, m_e7, m_e8, m_e9, m_e10, m_e15, m_e16, m_e17, m_e31, m_e32, m_e37, m_e48, m_e54, m_e57, m_e64, m_e97, m_e105, m_e120, m_e525, m_e640, m_e2048]; rfl, by simp (disch := omega) only [F_M_moves, e1, e3, e5, m_n10, if_true, if_false, m_lt, m_le, m_eq, m_0lt, m_0le, m_le0, m_0eq, if_pos, if_neg, pk_mul, nI_add, nI_1, m_1p, m_pred, m_inb, m_chkT, nI_clamp, Option.bind_some, decide_true, m_e2, m_e3, m_e4, m_e5, m_e6, m_e7, m_e8, m_e9, m_e10, m_e15, m_e16, m_e17, m_e31, m_e32, m_e37, m_e48, m_e54, m_e57, m_e64, m_e97, m_e105, m_e120, m_e525, m_e640, m_e2048]; rfl, rfl, hW, hP⟩
    · exact ⟨_, _, by simp (disch := omega) only [F_L_moves, e2, m_n10, if_true, if_false, m_lt, m_le, m_eq, m_0lt, m_0le, m_le0, m_0eq, if_pos, if_neg, pk_mul, nI_add, nI_1, m_1p, m_pred, m_inb, m_chkT, nI_clamp, Option.bind_some, decide_true, m_e2, m_e3, m_e4, m_e5, m_e6, m_e7, m_e8, m_e9, m_e10, m_e15, m_e16, m_e17, m_e31, m_e32, m_e37, m_e48, m_e54, m_e57, m_e64, m_e97, m_e105, m_e120, m_e525, m_e640, m_e2048]; rfl, by simp (disch := omega) only [F_M_moves, e1, e3, m_n10, if_true, if_false, m_lt, m_le, m_eq, m_0lt, m_0le, m_le0, m_0eq, if_pos, if_neg, pk_mul, nI_add, nI_1, m_1p, m_pred, m_inb, m_chkT, nI_clamp, Option.bind_some, decide_true, m_e2, m_e3, m_e4, m_e5, m_e6, m_e7, m_e8, m_e9, m_e10, m_e15, m_e16, m_e17, m_e31, m_e32, m_e37, m_e48, m_e54, m_e57, m_e64, m_e97, m_e105, m_e120, m_e525, m_e640, m_e2048]; rfl, rfl, hW, hP⟩
  · rcases hb with hb | ⟨c, hc, hc2, rfl⟩
    · exact ⟨_, _, by simp only [F_L_moves, if_pos hb]; rfl, by simp only [F_M_moves, e1, if_true]; rfl, rfl, hW, hP⟩
    · exact ⟨_, _, by simp (disch := omega) only [F_L_moves, if_true, if_false, m_lt, m_le, m_eq, m_0lt, m_0le, m_le0, m_0eq, if_pos, if_neg, pk_mul, nI_add, nI_1, m_1p, m_pred, m_inb, m_chkT, nI_clamp, Option.bind_some, decide_true, m_e2, m_e3, m_e4, m_e5, m_e6, m_e7, m_e8, m_e9, m_e10, m_e15, m_e16, m_e17, m_e31, m_e32, m_e37, m_e48, m_e54, m_e57, m_e64, m_e97, m_e105, m_e120, m_e525, m_e640, m_e2048]; rfl, by simp only [F_M_moves, e1, if_true]; rfl, rfl, hW, hP⟩
theorem m_removeL (mv : Nat) (hmv : mv ≤ 10) : ∀ (d k n : Nat) (A B C : Nat → Int32), k + d = mv → 1 ≤ k → d < n → ∃ A' B' C', W_removeMove_l1 (nI mv) n (nI k) A B C = some (A', B', C') ∧ (∀ j, A' j = if k - 1 ≤ j ∧ j < mv - 1 then A (j + 1) else A j) ∧ (∀ j, B' j = if k - 1 ≤ j ∧ j < mv - 1 then B (j + 1) else B j) ∧ ∀ j, C' j = if k - 1 ≤ j ∧ j < mv - 1 then C (j + 1) else C j
  | 0, k, n + 1, A, B, C, h, h1, _ => ⟨A, B, C, by simp (disch := omega) only [W_removeMove_l1_s, if_true, if_false, m_lt, m_le, m_eq, m_0lt, m_0le, m_le0, m_0eq, if_pos, if_neg, pk_mul, nI_add, nI_1, m_1p, m_pred, m_inb, m_chkT, nI_clamp, Option.bind_some, decide_true, m_e2, m_e3, m_e4, m_e5, m_e6, m_e7, m_e8, m_e9, m_e10, m_e15, m_e16, m_e17, m_e31, m_e32, m_e37, m_e48, m_e54, m_e57, m_e64, m_e97, m_e105, m_e120, m_e525, m_e640, m_e2048], fun j => by rw [if_neg (by omega)], fun j => by rw [if_neg (by omega)], fun j => by rw [if_neg (by omega)]⟩
  | d + 1, k, n + 1, A, B, C, h, h1, hn => by
    obtain ⟨A', B', C', e, ea, eb, ec⟩ := m_removeL mv hmv d (k + 1) n (upd A (k - 1) (A k)) (upd B (k - 1) (B k)) (upd C (k - 1) (C k)) (by omega) (by omega) (by omega)
    refine ⟨A', B', C', by simp (disch := omega) only [W_removeMove_l1_s, if_true, if_false, m_lt, m_le, m_eq, m_0lt, m_0le, m_le0, m_0eq, if_pos, if_neg, pk_mul, nI_add, nI_1, m_1p, m_pred, m_inb, m_chkT, nI_clamp, Option.bind_some, decide_true, m_e2, m_e3, m_e4, m_e5, m_e6, m_e7, m_e8, m_e9, m_e10, m_e15, m_e16, m_e17, m_e31, m_e32, m_e37, m_e48, m_e54, m_e57, m_e64, m_e97, m_e105, m_e120, m_e525, m_e640, m_e2048]; exact e, fun j => ?_, fun j => ?_, fun j => ?_⟩
    · rw [ea j]
      by_cases hj : j = k - 1
      · subst hj
        rw [if_neg (by omega), if_pos (by omega), pk_us, Nat.sub_add_cancel h1]
      · by_cases hr : k + 1 - 1 ≤ j ∧ j < mv - 1
        · rw [if_pos hr, if_pos (by omega), pk_un (by omega)]
        · rw [if_neg hr, if_neg (by omega), pk_un hj]
    · rw [eb j]
      by_cases hj : j = k - 1
      · subst hj
        rw [if_neg (by omega), if_pos (by omega), pk_us, Nat.sub_add_cancel h1]
      · by_cases hr : k + 1 - 1 ≤ j ∧ j < mv - 1
        · rw [if_pos hr, if_pos (by omega), pk_un (by omega)]
        · rw [if_neg hr, if_neg (by omega), pk_un hj]
    · rw [ec j]
      by_cases hj : j = k - 1
      · subst hj
        rw [if_neg (by omega), if_pos (by omega), pk_us, Nat.sub_add_cancel h1]
      · by_cases hr : k + 1 - 1 ≤ j ∧ j < mv - 1
        · rw [if_pos hr, if_pos (by omega), pk_un (by omega)]
        · rw [if_neg hr, if_neg (by omega), pk_un hj]
theorem m_takes_l1 (mv m : Nat) (hm : m < mv) (hmv : mv ≤ 10) (A : Nat → Int32) (hA : A 6 = nI (mv - 1)) : ∃ B, M_takes_l1 m_N (nI (7 + 3 * m)) A = some B ∧ ∀ j, B j = if 7 + 3 * m ≤ j ∧ j < 7 + 3 * (mv - 1) then A (j + 3) else A j := by
  have hs : ∀ n k A, 7 ≤ k → k < 7 + 3 * (mv - 1) → A 6 = nI (mv - 1) → M_takes_l1 (n + 1) (nI k) A = M_takes_l1 n (nI (k + 1)) (upd A k (A (k + 3))) := fun n k A _ hk h6 => by
    simp (disch := omega) only [M_takes_l1_s, h6, if_true, if_false, m_lt, m_le, m_eq, m_0lt, m_0le, m_le0, m_0eq, if_pos, if_neg, pk_mul, nI_add, nI_1, m_1p, m_pred, m_inb, m_chkT, nI_clamp, Option.bind_some, decide_true, m_e2, m_e3, m_e4, m_e5, m_e6, m_e7, m_e8, m_e9, m_e10, m_e15, m_e16, m_e17, m_e31, m_e32, m_e37, m_e48, m_e54, m_e57, m_e64, m_e97, m_e105, m_e120, m_e525, m_e640, m_e2048]
  have he : ∀ n A, A 6 = nI (mv - 1) → M_takes_l1 (n + 1) (nI (7 + 3 * (mv - 1))) A = some A := fun n A h6 => by
    simp (disch := omega) only [M_takes_l1_s, h6, if_true, if_false, m_lt, m_le, m_eq, m_0lt, m_0le, m_le0, m_0eq, if_pos, if_neg, pk_mul, nI_add, nI_1, m_1p, m_pred, m_inb, m_chkT, nI_clamp, Option.bind_some, decide_true, m_e2, m_e3, m_e4, m_e5, m_e6, m_e7, m_e8, m_e9, m_e10, m_e15, m_e16, m_e17, m_e31, m_e32, m_e37, m_e48, m_e54, m_e57, m_e64, m_e97, m_e105, m_e120, m_e525, m_e640, m_e2048]
  obtain ⟨B, h1, h2⟩ := m_shift M_takes_l1 (7 + 3 * (mv - 1)) 3 (by omega) (fun A => A 6 = nI (mv - 1)) (fun k A x h => by show upd A (k + 7) x 6 = _; rw [pk_un (by omega)]; exact h) 7 hs he (Or.inl (by omega)) (3 * (mv - 1) - 3 * m) (7 + 3 * m) m_N A (by omega) hA (by omega) (by show _ < 5000; omega)
  exact ⟨B, h1, h2⟩
theorem mc_takes {n_states : Int32} {n_moveCount : Int32} {n_stateLabel : Nat → Int32} {n_moveActor : Nat → Int32} {n_moveFrom : Nat → Int32} {n_moveTo : Nat → Int32} {n_csz : Int32} {n_clt : Int32} {n_cle : Nat → Int32} {n_ssz : Nat → Int32} {n_slt : Nat → Int32} {n_sle : Nat → Nat → Int32} {p_ix : Nat → Nat} {p_states : Nat → Int32} {p_moveCount : Nat → Int32} {p_stateLabel : Nat → Nat → Int32} {p_moveActor : Nat → Nat → Int32} {p_moveFrom : Nat → Nat → Int32} {p_moveTo : Nat → Nat → Int32} {p_csz : Nat → Int32} {p_clt : Nat → Int32} {p_cle : Nat → Nat → Int32} {p_ssz : Nat → Nat → Int32} {p_slt : Nat → Nat → Int32} {p_sle : Nat → Nat → Nat → Int32} {l_pastCount : Int32} {f_undone : Int32} {f_now : Nat → Int32} {f_past : Nat → Int32} (hW : m_W n_states n_moveCount n_stateLabel n_moveActor n_moveFrom n_moveTo n_csz n_clt n_cle n_ssz n_slt n_sle f_now) (hP : m_IP p_ix p_states p_moveCount p_stateLabel p_moveActor p_moveFrom p_moveTo p_csz p_clt p_cle p_ssz p_slt p_sle l_pastCount f_undone f_past) (a1 : Int32) : ∃ oL oM, F_L_takes m_N n_states n_moveCount n_stateLabel n_moveActor n_moveFrom n_moveTo n_csz n_clt n_cle n_ssz n_slt n_sle p_ix p_states p_moveCount p_stateLabel p_moveActor p_moveFrom p_moveTo p_csz p_clt p_cle p_ssz p_slt p_sle l_pastCount a1 = some oL ∧ F_M_takes m_N f_undone f_now f_past a1 = some oM ∧ oL.1 = oM.1 ∧ m_W n_states oL.2.1 n_stateLabel oL.2.2.1 oL.2.2.2.1 oL.2.2.2.2.1 n_csz n_clt n_cle n_ssz n_slt n_sle oM.2.2.1 ∧ m_IP oL.2.2.2.2.2.1 oL.2.2.2.2.2.2.1 oL.2.2.2.2.2.2.2.1 oL.2.2.2.2.2.2.2.2.1 oL.2.2.2.2.2.2.2.2.2.1 oL.2.2.2.2.2.2.2.2.2.2.1 oL.2.2.2.2.2.2.2.2.2.2.2.1 oL.2.2.2.2.2.2.2.2.2.2.2.2.1 oL.2.2.2.2.2.2.2.2.2.2.2.2.2.1 oL.2.2.2.2.2.2.2.2.2.2.2.2.2.2.1 oL.2.2.2.2.2.2.2.2.2.2.2.2.2.2.2.1 oL.2.2.2.2.2.2.2.2.2.2.2.2.2.2.2.2.1 oL.2.2.2.2.2.2.2.2.2.2.2.2.2.2.2.2.2.1 oL.2.2.2.2.2.2.2.2.2.2.2.2.2.2.2.2.2.2 oM.2.1 oM.2.2.2 := by
  obtain ⟨⟨s, hs, rfl, hr, hl, mv, k1, rfl, k3, k4⟩, hF, hS⟩ := id hW
  rcases m_move k1 k3 a1 with ⟨m, hm, rfl, e1, e2⟩ | ⟨e1, e2⟩
  · obtain ⟨pL, pM, q1, q2, q3⟩ := m_remember hW hP
    obtain ⟨A', B', C', r1, ra, rb, rc⟩ := m_removeL mv k1 (mv - (m + 1)) (m + 1) m_N n_moveActor n_moveFrom n_moveTo (by omega) (by omega) (by show _ < 5000; omega)
    obtain ⟨B, t1, t2⟩ := m_takes_l1 mv m hm k1 (upd f_now 6 (nI (mv - 1))) pk_us
    have tx : ∀ j, j ≠ 6 → B j = if 7 + 3 * m ≤ j ∧ j < 7 + 3 * (mv - 1) then f_now (j + 3) else f_now j := fun j hj => by
      rw [t2 j]
      by_cases hc : 7 + 3 * m ≤ j ∧ j < 7 + 3 * (mv - 1)
      · rw [if_pos hc, if_pos hc, pk_un (by omega)]
      · rw [if_neg hc, if_neg hc, pk_un hj]
    have t6 : B 6 = nI (mv - 1) := by rw [t2, if_neg (by omega), pk_us]
    refine ⟨_, _, by simp (disch := omega) only [F_L_takes, F_W_removeMove, e1, m_n10, q1, r1, if_true, if_false, m_lt, m_le, m_eq, m_0lt, m_0le, m_le0, m_0eq, if_pos, if_neg, pk_mul, nI_add, nI_1, m_1p, m_pred, m_inb, m_chkT, nI_clamp, Option.bind_some, decide_true, m_e2, m_e3, m_e4, m_e5, m_e6, m_e7, m_e8, m_e9, m_e10, m_e15, m_e16, m_e17, m_e31, m_e32, m_e37, m_e48, m_e54, m_e57, m_e64, m_e97, m_e105, m_e120, m_e525, m_e640, m_e2048]; rfl, by simp (disch := omega) only [F_M_takes, e2, m_n10, q2, k3, t1, if_true, if_false, m_lt, m_le, m_eq, m_0lt, m_0le, m_le0, m_0eq, if_pos, if_neg, pk_mul, nI_add, nI_1, m_1p, m_pred, m_inb, m_chkT, nI_clamp, Option.bind_some, decide_true, m_e2, m_e3, m_e4, m_e5, m_e6, m_e7, m_e8, m_e9, m_e10, m_e15, m_e16, m_e17, m_e31, m_e32, m_e37, m_e48, m_e54, m_e57, m_e64, m_e97, m_e105, m_e120, m_e525, m_e640, m_e2048]; rfl, t6.symm, ?_, q3⟩
    dsimp only
    refine ⟨⟨s, hs, rfl, ?_, fun j hj => ?_, mv - 1, by omega, rfl, t6, fun j hj => ?_⟩, ?_, fun k hk => ?_⟩
    · rw [tx 0 (by omega), if_neg (by omega)]
      exact hr
    · rw [tx (1 + j) (by omega), if_neg (by omega)]
      exact hl j hj
    · rw [ra j, rb j, rc j, tx _ (by omega), tx _ (by omega), tx _ (by omega)]
      by_cases hmj : m ≤ j
      · rw [if_pos (by omega), if_pos (by omega), if_pos (by omega), if_pos (by omega), if_pos (by omega), if_pos (by omega)]
        exact k4 (j + 1) (by omega)
      · rw [if_neg (by omega), if_neg (by omega), if_neg (by omega), if_neg (by omega), if_neg (by omega), if_neg (by omega)]
        exact k4 j (by omega)
    · exact hF.to (fun _ _ => rfl) (fun k hk => by rw [tx _ (by omega), if_neg (by omega)])
    · exact (hS k hk).to (fun _ _ => rfl) (fun z hz => by rw [tx _ (by omega), if_neg (by omega)])
  · exact ⟨_, _, by simp only [F_L_takes, e1, if_true]; rfl, by simp only [F_M_takes, e2, if_true]; rfl, rfl, hW, hP⟩
theorem m_copies_l1 (f t : Nat) (hf : f + 17 ≤ 105) (ht : t + 17 ≤ 105) (hd : f + 17 ≤ t ∨ t + 17 ≤ f) (A : Nat → Int32) : ∃ B, M_copies_l1 (nI f) (nI t) m_N 0 A = some B ∧ ∀ j, B j = if t ≤ j ∧ j < t + 17 then A (f + (j - t)) else A j := by
  have key : ∀ (d k n : Nat) (A : Nat → Int32), k + d = 17 → d < n → ∃ B, M_copies_l1 (nI f) (nI t) n (nI k) A = some B ∧ ∀ j, B j = if t + k ≤ j ∧ j < t + 17 then A (f + (j - t)) else A j := by
    intro d
    induction d with
    | zero =>
      intro k n A h hn
      obtain ⟨n, rfl⟩ : ∃ m, n = m + 1 := ⟨n - 1, by omega⟩
      refine ⟨A, by simp (disch := omega) only [M_copies_l1_s, if_true, if_false, m_lt, m_le, m_eq, m_0lt, m_0le, m_le0, m_0eq, if_pos, if_neg, pk_mul, nI_add, nI_1, m_1p, m_pred, m_inb, m_chkT, nI_clamp, Option.bind_some, decide_true, m_e2, m_e3, m_e4, m_e5, m_e6, m_e7, m_e8, m_e9, m_e10, m_e15, m_e16, m_e17, m_e31, m_e32, m_e37, m_e48, m_e54, m_e57, m_e64, m_e97, m_e105, m_e120, m_e525, m_e640, m_e2048], fun j => by rw [if_neg (by omega)]⟩
    | succ d ih =>
      intro k n A h hn
      obtain ⟨n, rfl⟩ : ∃ m, n = m + 1 := ⟨n - 1, by omega⟩
      obtain ⟨B, h1, h2⟩ := ih (k + 1) n (upd A (t + k) (A (f + k))) (by omega) (by omega)
      refine ⟨B, by simp (disch := omega) only [M_copies_l1_s, if_true, if_false, m_lt, m_le, m_eq, m_0lt, m_0le, m_le0, m_0eq, if_pos, if_neg, pk_mul, nI_add, nI_1, m_1p, m_pred, m_inb, m_chkT, nI_clamp, Option.bind_some, decide_true, m_e2, m_e3, m_e4, m_e5, m_e6, m_e7, m_e8, m_e9, m_e10, m_e15, m_e16, m_e17, m_e31, m_e32, m_e37, m_e48, m_e54, m_e57, m_e64, m_e97, m_e105, m_e120, m_e525, m_e640, m_e2048]; exact h1, fun j => ?_⟩
      rw [h2 j]
      by_cases hj : j = t + k
      · subst hj
        rw [if_neg (by omega), if_pos (by omega), pk_us, Nat.add_sub_cancel_left]
      · by_cases hr : t + (k + 1) ≤ j ∧ j < t + 17
        · rw [if_pos hr, if_pos (by omega), pk_un (by omega)]
        · rw [if_neg hr, if_neg (by omega), pk_un hj]
  obtain ⟨B, h1, h2⟩ := key 17 0 m_N A (by omega) (by decide)
  exact ⟨B, h1, h2⟩
theorem mc_stores {n_states : Int32} {n_moveCount : Int32} {n_stateLabel : Nat → Int32} {n_moveActor : Nat → Int32} {n_moveFrom : Nat → Int32} {n_moveTo : Nat → Int32} {n_csz : Int32} {n_clt : Int32} {n_cle : Nat → Int32} {n_ssz : Nat → Int32} {n_slt : Nat → Int32} {n_sle : Nat → Nat → Int32} {p_ix : Nat → Nat} {p_states : Nat → Int32} {p_moveCount : Nat → Int32} {p_stateLabel : Nat → Nat → Int32} {p_moveActor : Nat → Nat → Int32} {p_moveFrom : Nat → Nat → Int32} {p_moveTo : Nat → Nat → Int32} {p_csz : Nat → Int32} {p_clt : Nat → Int32} {p_cle : Nat → Nat → Int32} {p_ssz : Nat → Nat → Int32} {p_slt : Nat → Nat → Int32} {p_sle : Nat → Nat → Nat → Int32} {l_pastCount : Int32} {f_undone : Int32} {f_now : Nat → Int32} {f_past : Nat → Int32} (hW : m_W n_states n_moveCount n_stateLabel n_moveActor n_moveFrom n_moveTo n_csz n_clt n_cle n_ssz n_slt n_sle f_now) (hP : m_IP p_ix p_states p_moveCount p_stateLabel p_moveActor p_moveFrom p_moveTo p_csz p_clt p_cle p_ssz p_slt p_sle l_pastCount f_undone f_past) (a1 : Int32) : ∃ oL oM, F_L_stores m_N n_states n_moveCount n_stateLabel n_moveActor n_moveFrom n_moveTo n_csz n_clt n_cle n_ssz n_slt n_sle p_ix p_states p_moveCount p_stateLabel p_moveActor p_moveFrom p_moveTo p_csz p_clt p_cle p_ssz p_slt p_sle l_pastCount a1 = some oL ∧ F_M_stores m_N f_undone f_now f_past a1 = some oM ∧ oL.1 = oM.1 ∧ m_W n_states n_moveCount n_stateLabel n_moveActor n_moveFrom n_moveTo n_csz n_clt n_cle oL.2.1 oL.2.2.1 oL.2.2.2.1 oM.2.2.1 ∧ m_IP oL.2.2.2.2.1 oL.2.2.2.2.2.1 oL.2.2.2.2.2.2.1 oL.2.2.2.2.2.2.2.1 oL.2.2.2.2.2.2.2.2.1 oL.2.2.2.2.2.2.2.2.2.1 oL.2.2.2.2.2.2.2.2.2.2.1 oL.2.2.2.2.2.2.2.2.2.2.2.1 oL.2.2.2.2.2.2.2.2.2.2.2.2.1 oL.2.2.2.2.2.2.2.2.2.2.2.2.2.1 oL.2.2.2.2.2.2.2.2.2.2.2.2.2.2.1 oL.2.2.2.2.2.2.2.2.2.2.2.2.2.2.2.1 oL.2.2.2.2.2.2.2.2.2.2.2.2.2.2.2.2.1 oL.2.2.2.2.2.2.2.2.2.2.2.2.2.2.2.2.2 oM.2.1 oM.2.2.2 := by
  obtain ⟨⟨s, hs, rfl, hr, hl, mv, k1, rfl, k3, k4⟩, hF, hS⟩ := id hW
  rcases m_slot a1 with ⟨i, hi, rfl, e1, e2⟩ | ⟨e1, e2⟩
  · obtain ⟨pL, pM, q1, q2, q3⟩ := m_remember hW hP
    obtain ⟨B, t1, t2⟩ := m_copies_l1 37 (54 + 17 * i) (by omega) (by omega) (by omega) f_now
    have t0 : B (54 + 17 * i) = f_now 37 := by rw [t2, if_pos (by omega), Nat.sub_self]
    refine ⟨_, _, by simp (disch := omega) only [F_L_stores, F_F_copy, e1, m_n10, q1, if_true, if_false, m_lt, m_le, m_eq, m_0lt, m_0le, m_le0, m_0eq, if_pos, if_neg, pk_mul, nI_add, nI_1, m_1p, m_pred, m_inb, m_chkT, nI_clamp, Option.bind_some, decide_true, m_e2, m_e3, m_e4, m_e5, m_e6, m_e7, m_e8, m_e9, m_e10, m_e15, m_e16, m_e17, m_e31, m_e32, m_e37, m_e48, m_e54, m_e57, m_e64, m_e97, m_e105, m_e120, m_e525, m_e640, m_e2048]; rfl, by simp (disch := omega) only [F_M_stores, F_M_copies, e2, m_n10, q2, t1, if_true, if_false, m_lt, m_le, m_eq, m_0lt, m_0le, m_le0, m_0eq, if_pos, if_neg, pk_mul, nI_add, nI_1, m_1p, m_pred, m_inb, m_chkT, nI_clamp, Option.bind_some, decide_true, m_e2, m_e3, m_e4, m_e5, m_e6, m_e7, m_e8, m_e9, m_e10, m_e15, m_e16, m_e17, m_e31, m_e32, m_e37, m_e48, m_e54, m_e57, m_e64, m_e97, m_e105, m_e120, m_e525, m_e640, m_e2048]; rfl, ?_, ?_, q3⟩
    · dsimp only
      obtain ⟨n, -, -, h3, h4, -⟩ := hF
      rw [h3, t0]
      exact h4.symm
    dsimp only
    refine ⟨⟨s, hs, rfl, ?_, fun j hj => ?_, mv, k1, rfl, ?_, fun j hj => ?_⟩, ?_, fun k hk => ?_⟩
    · rw [t2, if_neg (by omega)]
      exact hr
    · rw [t2, if_neg (by omega)]
      exact hl j hj
    · rw [t2, if_neg (by omega)]
      exact k3
    · rw [t2, if_neg (by omega), t2, if_neg (by omega), t2, if_neg (by omega)]
      exact k4 j hj
    · exact hF.to (fun _ _ => rfl) (fun k hk => by rw [t2, if_neg (by omega)])
    · by_cases hki : k = i
      · subst hki
        simp only [va_up_self]
        exact hF.to (fun j hj => m_cpy hj) (fun z hz => by rw [t2, if_pos (by omega), Nat.add_sub_cancel_left])
      · simp only [va_up_ne _ _ hki]
        exact (hS k hk).to (fun _ _ => rfl) (fun z hz => by rw [t2, if_neg (by omega)])
  · exact ⟨_, _, by simp only [F_L_stores, e1, if_true]; rfl, by simp only [F_M_stores, e2, if_true]; rfl, rfl, hW, hP⟩
theorem mc_fetches {n_states : Int32} {n_moveCount : Int32} {n_stateLabel : Nat → Int32} {n_moveActor : Nat → Int32} {n_moveFrom : Nat → Int32} {n_moveTo : Nat → Int32} {n_csz : Int32} {n_clt : Int32} {n_cle : Nat → Int32} {n_ssz : Nat → Int32} {n_slt : Nat → Int32} {n_sle : Nat → Nat → Int32} {p_ix : Nat → Nat} {p_states : Nat → Int32} {p_moveCount : Nat → Int32} {p_stateLabel : Nat → Nat → Int32} {p_moveActor : Nat → Nat → Int32} {p_moveFrom : Nat → Nat → Int32} {p_moveTo : Nat → Nat → Int32} {p_csz : Nat → Int32} {p_clt : Nat → Int32} {p_cle : Nat → Nat → Int32} {p_ssz : Nat → Nat → Int32} {p_slt : Nat → Nat → Int32} {p_sle : Nat → Nat → Nat → Int32} {l_pastCount : Int32} {f_undone : Int32} {f_now : Nat → Int32} {f_past : Nat → Int32} (hW : m_W n_states n_moveCount n_stateLabel n_moveActor n_moveFrom n_moveTo n_csz n_clt n_cle n_ssz n_slt n_sle f_now) (hP : m_IP p_ix p_states p_moveCount p_stateLabel p_moveActor p_moveFrom p_moveTo p_csz p_clt p_cle p_ssz p_slt p_sle l_pastCount f_undone f_past) (a1 : Int32) : ∃ oL oM, F_L_fetches m_N n_states n_moveCount n_stateLabel n_moveActor n_moveFrom n_moveTo n_csz n_clt n_cle n_ssz n_slt n_sle p_ix p_states p_moveCount p_stateLabel p_moveActor p_moveFrom p_moveTo p_csz p_clt p_cle p_ssz p_slt p_sle l_pastCount a1 = some oL ∧ F_M_fetches m_N f_undone f_now f_past a1 = some oM ∧ oL.1 = oM.1 ∧ m_W n_states n_moveCount n_stateLabel n_moveActor n_moveFrom n_moveTo oL.2.1 oL.2.2.1 oL.2.2.2.1 n_ssz n_slt n_sle oM.2.2.1 ∧ m_IP oL.2.2.2.2.1 oL.2.2.2.2.2.1 oL.2.2.2.2.2.2.1 oL.2.2.2.2.2.2.2.1 oL.2.2.2.2.2.2.2.2.1 oL.2.2.2.2.2.2.2.2.2.1 oL.2.2.2.2.2.2.2.2.2.2.1 oL.2.2.2.2.2.2.2.2.2.2.2.1 oL.2.2.2.2.2.2.2.2.2.2.2.2.1 oL.2.2.2.2.2.2.2.2.2.2.2.2.2.1 oL.2.2.2.2.2.2.2.2.2.2.2.2.2.2.1 oL.2.2.2.2.2.2.2.2.2.2.2.2.2.2.2.1 oL.2.2.2.2.2.2.2.2.2.2.2.2.2.2.2.2.1 oL.2.2.2.2.2.2.2.2.2.2.2.2.2.2.2.2.2 oM.2.1 oM.2.2.2 := by
  obtain ⟨⟨s, hs, rfl, hr, hl, mv, k1, rfl, k3, k4⟩, hF, hS⟩ := id hW
  rcases m_slot a1 with ⟨i, hi, rfl, e1, e2⟩ | ⟨e1, e2⟩
  · obtain ⟨pL, pM, q1, q2, q3⟩ := m_remember hW hP
    obtain ⟨B, t1, t2⟩ := m_copies_l1 (54 + 17 * i) 37 (by omega) (by omega) (by omega) f_now
    have t0 : B 37 = f_now (54 + 17 * i) := by rw [t2, if_pos (by omega), Nat.sub_self]; rfl
    refine ⟨_, _, by simp (disch := omega) only [F_L_fetches, F_F_copy, e1, m_n10, q1, if_true, if_false, m_lt, m_le, m_eq, m_0lt, m_0le, m_le0, m_0eq, if_pos, if_neg, pk_mul, nI_add, nI_1, m_1p, m_pred, m_inb, m_chkT, nI_clamp, Option.bind_some, decide_true, m_e2, m_e3, m_e4, m_e5, m_e6, m_e7, m_e8, m_e9, m_e10, m_e15, m_e16, m_e17, m_e31, m_e32, m_e37, m_e48, m_e54, m_e57, m_e64, m_e97, m_e105, m_e120, m_e525, m_e640, m_e2048]; rfl, by simp (disch := omega) only [F_M_fetches, F_M_copies, e2, m_n10, q2, t1, if_true, if_false, m_lt, m_le, m_eq, m_0lt, m_0le, m_le0, m_0eq, if_pos, if_neg, pk_mul, nI_add, nI_1, m_1p, m_pred, m_inb, m_chkT, nI_clamp, Option.bind_some, decide_true, m_e2, m_e3, m_e4, m_e5, m_e6, m_e7, m_e8, m_e9, m_e10, m_e15, m_e16, m_e17, m_e31, m_e32, m_e37, m_e48, m_e54, m_e57, m_e64, m_e97, m_e105, m_e120, m_e525, m_e640, m_e2048]; rfl, ?_, ?_, q3⟩
    · dsimp only
      obtain ⟨n, -, -, h3, h4, -⟩ := hS i hi
      rw [h3, t0]
      exact h4.symm
    dsimp only
    refine ⟨⟨s, hs, rfl, ?_, fun j hj => ?_, mv, k1, rfl, ?_, fun j hj => ?_⟩, ?_, fun k hk => ?_⟩
    · rw [t2, if_neg (by omega)]
      exact hr
    · rw [t2, if_neg (by omega)]
      exact hl j hj
    · rw [t2, if_neg (by omega)]
      exact k3
    · rw [t2, if_neg (by omega), t2, if_neg (by omega), t2, if_neg (by omega)]
      exact k4 j hj
    · exact (hS i hi).to (fun j hj => m_cpy hj) (fun k hk => by rw [t2, if_pos (by omega), Nat.add_sub_cancel_left])
    · exact (hS k hk).to (fun _ _ => rfl) (fun z hz => by rw [t2, if_neg (by omega)])
  · exact ⟨_, _, by simp only [F_L_fetches, e1, if_true]; rfl, by simp only [F_M_fetches, e2, if_true]; rfl, rfl, hW, hP⟩
