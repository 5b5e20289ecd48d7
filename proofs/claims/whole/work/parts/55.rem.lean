/-! remembered -/
set_option maxRecDepth 20000 in
theorem m_rot {ix : Nat → Nat} (h6 : ∀ j, j < 6 → ix j < 6) : L_remember_l1 m_N 1 ix = some (va_up (va_up (va_up (va_up (va_up ix 0 (ix 1)) 1 (ix 2)) 2 (ix 3)) 3 (ix 4)) 4 (ix 5)) := by
  rw [show m_N = 4994 + 1 + 1 + 1 + 1 + 1 + 1 from rfl]
  rw [L_remember_l1_s, if_neg (by decide)]
  refine (m_chk (by decide)).trans ((m_chk (decide_eq_true (h6 1 (by omega)))).trans ((m_chk (by decide)).trans ?_))
  rw [L_remember_l1_s, if_neg (by decide)]
  refine (m_chk (by decide)).trans ((m_chk (decide_eq_true (h6 2 (by omega)))).trans ((m_chk (by decide)).trans ?_))
  rw [L_remember_l1_s, if_neg (by decide)]
  refine (m_chk (by decide)).trans ((m_chk (decide_eq_true (h6 3 (by omega)))).trans ((m_chk (by decide)).trans ?_))
  rw [L_remember_l1_s, if_neg (by decide)]
  refine (m_chk (by decide)).trans ((m_chk (decide_eq_true (h6 4 (by omega)))).trans ((m_chk (by decide)).trans ?_))
  rw [L_remember_l1_s, if_neg (by decide)]
  refine (m_chk (by decide)).trans ((m_chk (decide_eq_true (h6 5 (by omega)))).trans ((m_chk (by decide)).trans ?_))
  rw [L_remember_l1_s, if_pos (by decide)]
  rfl
theorem m_rotv (ix : Nat → Nat) (j : Nat) (hj : j < 6) : va_up (va_up (va_up (va_up (va_up (va_up ix 0 (ix 1)) 1 (ix 2)) 2 (ix 3)) 3 (ix 4)) 4 (ix 5)) 5 (ix 0) j = ix ((j + 1) % 6) := by
  rcases (show j = 0 ∨ j = 1 ∨ j = 2 ∨ j = 3 ∨ j = 4 ∨ j = 5 by omega) with rfl | rfl | rfl | rfl | rfl | rfl <;> rfl
theorem m_rem_l1 (past : Nat → Int32) : ∃ B, M_remembers_l1 m_N 0 past = some B ∧ ∀ j, j < 525 → B j = past (j + 105) := by
  have hs : ∀ n k A, 0 ≤ k → k < 525 → True → M_remembers_l1 (n + 1) (nI k) A = M_remembers_l1 n (nI (k + 1)) (upd A k (A (k + 105))) := fun n k A _ hk _ => by
    simp (disch := omega) only [M_remembers_l1_s, if_true, if_false, m_lt, m_le, m_eq, m_0lt, m_0le, m_le0, m_0eq, if_pos, if_neg, pk_mul, nI_add, nI_1, m_1p, m_pred, m_inb, m_chkT, nI_clamp, Option.bind_some, decide_true, m_e2, m_e3, m_e4, m_e5, m_e6, m_e7, m_e8, m_e9, m_e10, m_e15, m_e16, m_e17, m_e31, m_e32, m_e37, m_e48, m_e54, m_e57, m_e64, m_e97, m_e105, m_e120, m_e525, m_e640, m_e2048]
  have he : ∀ n A, True → M_remembers_l1 (n + 1) (nI 525) A = some A := fun n A _ => by
    rw [M_remembers_l1_s, if_pos (by decide)]
  obtain ⟨B, h1, h2⟩ := m_shift M_remembers_l1 525 105 (by omega) (fun _ => True) (fun _ _ _ _ => trivial) 0 hs he (Or.inr fun _ => trivial) 525 0 m_N past (by omega) trivial (by omega) (by decide)
  exact ⟨B, h1, fun j hj => by rw [h2 j, if_pos (by omega)]⟩
theorem m_rem_l2 (u : Nat) (hu : u < 6) (q : Nat → Int32) (now past : Nat → Int32) : ∃ B, M_remembers_l2 (nI u, q) now m_N 0 past = some B ∧ ∀ j, B j = if 105 * u ≤ j ∧ j < 105 * u + 105 then now (j - 105 * u) else past j := by
  have hs : ∀ n k A, k < 105 → M_remembers_l2 (nI u, q) now (n + 1) (nI k) A = M_remembers_l2 (nI u, q) now n (nI (k + 1)) (upd A (105 * u + k) (now k)) := fun n k A hk => by
    simp (disch := omega) only [M_remembers_l2_s, if_true, if_false, m_lt, m_le, m_eq, m_0lt, m_0le, m_le0, m_0eq, if_pos, if_neg, pk_mul, nI_add, nI_1, m_1p, m_pred, m_inb, m_chkT, nI_clamp, Option.bind_some, decide_true, m_e2, m_e3, m_e4, m_e5, m_e6, m_e7, m_e8, m_e9, m_e10, m_e15, m_e16, m_e17, m_e31, m_e32, m_e37, m_e48, m_e54, m_e57, m_e64, m_e97, m_e105, m_e120, m_e525, m_e640, m_e2048]
  have he : ∀ n A, M_remembers_l2 (nI u, q) now (n + 1) (nI 105) A = some A := fun n A => by
    rw [M_remembers_l2_s, if_pos (by decide)]
  obtain ⟨B, h1, h2⟩ := m_loop (M_remembers_l2 (nI u, q) now) (105 * u) 105 now hs he 105 0 m_N past rfl (by decide)
  exact ⟨B, h1, fun j => by rw [h2 j]; rfl⟩
theorem m_remember {n_states : Int32} {n_moveCount : Int32} {n_stateLabel : Nat → Int32} {n_moveActor : Nat → Int32} {n_moveFrom : Nat → Int32} {n_moveTo : Nat → Int32} {n_csz : Int32} {n_clt : Int32} {n_cle : Nat → Int32} {n_ssz : Nat → Int32} {n_slt : Nat → Int32} {n_sle : Nat → Nat → Int32} {f_now : Nat → Int32} {p_ix : Nat → Nat} {p_states : Nat → Int32} {p_moveCount : Nat → Int32} {p_stateLabel : Nat → Nat → Int32} {p_moveActor : Nat → Nat → Int32} {p_moveFrom : Nat → Nat → Int32} {p_moveTo : Nat → Nat → Int32} {p_csz : Nat → Int32} {p_clt : Nat → Int32} {p_cle : Nat → Nat → Int32} {p_ssz : Nat → Nat → Int32} {p_slt : Nat → Nat → Int32} {p_sle : Nat → Nat → Nat → Int32} {l_pastCount f_undone : Int32} {f_past : Nat → Int32} (hW : m_W n_states n_moveCount n_stateLabel n_moveActor n_moveFrom n_moveTo n_csz n_clt n_cle n_ssz n_slt n_sle f_now) (hP : m_IP p_ix p_states p_moveCount p_stateLabel p_moveActor p_moveFrom p_moveTo p_csz p_clt p_cle p_ssz p_slt p_sle l_pastCount f_undone f_past) : ∃ oL oM, F_L_remember m_N n_states n_moveCount n_stateLabel n_moveActor n_moveFrom n_moveTo n_csz n_clt n_cle n_ssz n_slt n_sle p_ix p_states p_moveCount p_stateLabel p_moveActor p_moveFrom p_moveTo p_csz p_clt p_cle p_ssz p_slt p_sle l_pastCount = some oL ∧ F_M_remembers m_N f_undone f_now f_past = some oM ∧ m_IP oL.1 oL.2.1 oL.2.2.1 oL.2.2.2.1 oL.2.2.2.2.1 oL.2.2.2.2.2.1 oL.2.2.2.2.2.2.1 oL.2.2.2.2.2.2.2.1 oL.2.2.2.2.2.2.2.2.1 oL.2.2.2.2.2.2.2.2.2.1 oL.2.2.2.2.2.2.2.2.2.2.1 oL.2.2.2.2.2.2.2.2.2.2.2.1 oL.2.2.2.2.2.2.2.2.2.2.2.2.1 oL.2.2.2.2.2.2.2.2.2.2.2.2.2 oM.1 oM.2 := by
  obtain ⟨u, hu, rfl, rfl, g1, g2, g3⟩ := hP
  obtain ⟨ix, v, past, hv, hL, hM, k1, k2, k3⟩ : ∃ (ix : Nat → Nat) (v : Nat) (past : Nat → Int32), v < 6 ∧ (if nI u < (6 : Int32) then (some (p_ix, nI u)) else (g_chk (decide ((p_ix 0) < 6)) ((L_remember_l1 m_N (1 : Int32) p_ix).bind fun o7 => (some ((va_up o7 5 (p_ix 0)), (5 : Int32)))))) = some (ix, nI v) ∧ (if nI u = (6 : Int32) then ((M_remembers_l1 m_N (0 : Int32) f_past).bind fun o5 => (some ((nI u - (1 : Int32)), o5))) else (some (nI u, f_past))) = some (nI v, past) ∧ (∀ j, j < 6 → ix j < 6) ∧ (∀ i j, i < 6 → j < 6 → ix i = ix j → i = j) ∧ ∀ j, j < v → m_W (p_states (ix j)) (p_moveCount (ix j)) (p_stateLabel (ix j)) (p_moveActor (ix j)) (p_moveFrom (ix j)) (p_moveTo (ix j)) (p_csz (ix j)) (p_clt (ix j)) (p_cle (ix j)) (p_ssz (ix j)) (p_slt (ix j)) (p_sle (ix j)) (fun k => past (105 * j + k)) := by
    by_cases h6 : u = 6
    · subst h6
      obtain ⟨B, d1, d2⟩ := m_rem_l1 f_past
      refine ⟨va_up (va_up (va_up (va_up (va_up (va_up p_ix 0 (p_ix 1)) 1 (p_ix 2)) 2 (p_ix 3)) 3 (p_ix 4)) 4 (p_ix 5)) 5 (p_ix 0), 5, B, by omega, ?_, ?_, fun j hj => ?_, fun i j hi hj hij => ?_, fun j hj => ?_⟩
      · rw [if_neg (by decide), m_chk (decide_eq_true (g1 0 (by omega))), m_rot g1]
        rfl
      · rw [if_pos (by decide), d1]
        rfl
      · rw [m_rotv _ j hj]
        exact g1 _ (Nat.mod_lt _ (by omega))
      · rw [m_rotv _ i hi, m_rotv _ j hj] at hij
        have := g2 _ _ (Nat.mod_lt _ (by omega)) (Nat.mod_lt _ (by omega)) hij
        omega
      · rw [m_rotv _ j (by omega), Nat.mod_eq_of_lt (by omega)]
        exact (g3 (j + 1) (by omega)).to (fun _ _ => rfl) (fun _ _ => rfl) (fun _ _ => rfl) (fun _ _ => rfl) (fun _ _ => rfl) (fun _ _ => ⟨rfl, rfl, fun _ _ => rfl⟩) (fun k hk => by rw [d2 _ (by omega)]; exact congrArg f_past (by omega))
    · exact ⟨p_ix, u, f_past, by omega, by simp (disch := omega) only [if_true, if_false, m_lt, m_le, m_eq, m_0lt, m_0le, m_le0, m_0eq, if_pos, if_neg, pk_mul, nI_add, nI_1, m_1p, m_pred, m_inb, m_chkT, nI_clamp, Option.bind_some, decide_true, m_e2, m_e3, m_e4, m_e5, m_e6, m_e7, m_e8, m_e9, m_e10, m_e15, m_e16, m_e17, m_e31, m_e32, m_e37, m_e48, m_e54, m_e57, m_e64, m_e97, m_e105, m_e120, m_e525, m_e640, m_e2048], by simp (disch := omega) only [if_true, if_false, m_lt, m_le, m_eq, m_0lt, m_0le, m_le0, m_0eq, if_pos, if_neg, pk_mul, nI_add, nI_1, m_1p, m_pred, m_inb, m_chkT, nI_clamp, Option.bind_some, decide_true, m_e2, m_e3, m_e4, m_e5, m_e6, m_e7, m_e8, m_e9, m_e10, m_e15, m_e16, m_e17, m_e31, m_e32, m_e37, m_e48, m_e54, m_e57, m_e64, m_e97, m_e105, m_e120, m_e525, m_e640, m_e2048], g1, g2, g3⟩
  obtain ⟨o, c1, c2, c3⟩ := m_copy hW (p_stateLabel (ix v)) (p_moveActor (ix v)) (p_moveFrom (ix v)) (p_moveTo (ix v)) (p_cle (ix v)) (p_ssz (ix v)) (p_slt (ix v)) (p_sle (ix v))
  obtain ⟨B, d1, d2⟩ := m_rem_l2 v hv past f_now past
  have hix := k1 v hv
  refine ⟨_, _, by simp only [F_L_remember]; rw [hL]; simp (disch := omega) only [hix, c1, if_true, if_false, m_lt, m_le, m_eq, m_0lt, m_0le, m_le0, m_0eq, if_pos, if_neg, pk_mul, nI_add, nI_1, m_1p, m_pred, m_inb, m_chkT, nI_clamp, Option.bind_some, decide_true, m_e2, m_e3, m_e4, m_e5, m_e6, m_e7, m_e8, m_e9, m_e10, m_e15, m_e16, m_e17, m_e31, m_e32, m_e37, m_e48, m_e54, m_e57, m_e64, m_e97, m_e105, m_e120, m_e525, m_e640, m_e2048]; rfl, by simp only [F_M_remembers]; rw [hM]; simp only [Option.bind_some, d1]; rfl, ?_⟩
  refine ⟨v + 1, by omega, rfl, nI_1 v, k1, k2, fun j hj => ?_⟩
  by_cases hjv : j = v
  · subst hjv
    simp only [va_up_self]
    exact c3.to (fun _ _ => rfl) (fun _ _ => rfl) (fun _ _ => rfl) (fun _ _ => rfl) (fun _ _ => rfl) (fun _ _ => ⟨rfl, rfl, fun _ _ => rfl⟩) (fun k hk => by rw [d2, if_pos (by omega), Nat.add_sub_cancel_left])
  · have hne : ix j ≠ ix v := fun z => hjv (k2 j v (by omega) hv z)
    simp only [va_up_ne _ _ hne]
    exact (k3 j (by omega)).to (fun _ _ => rfl) (fun _ _ => rfl) (fun _ _ => rfl) (fun _ _ => rfl) (fun _ _ => rfl) (fun _ _ => ⟨rfl, rfl, fun _ _ => rfl⟩) (fun k hk => by rw [d2, if_neg (by omega)])
theorem m_label_ (a : Int32) : (∃ j, j < 8 ∧ a = nI j ∧ F_L_isLabel a = 1 ∧ F_M_in a 0 (nI 7) = 1) ∨ (F_L_isLabel a = 0 ∧ F_M_in a 0 (nI 7) = 0) := by
  rcases m_case a with ha | ⟨c, hc, rfl⟩
  · exact Or.inr ⟨by simp only [F_L_isLabel, if_pos ha], m_in_neg ha⟩
  · by_cases h : c < 8
    · exact Or.inl ⟨c, h, rfl, by simp (disch := omega) only [F_L_isLabel, if_true, if_false, m_lt, m_le, m_eq, m_0lt, m_0le, m_le0, m_0eq, if_pos, if_neg, pk_mul, nI_add, nI_1, m_1p, m_pred, m_inb, m_chkT, nI_clamp, Option.bind_some, decide_true, m_e2, m_e3, m_e4, m_e5, m_e6, m_e7, m_e8, m_e9, m_e10, m_e15, m_e16, m_e17, m_e31, m_e32, m_e37, m_e48, m_e54, m_e57, m_e64, m_e97, m_e105, m_e120, m_e525, m_e640, m_e2048], m_in1 (hi := 7) (by omega) (by omega)⟩
    · exact Or.inr ⟨by simp (disch := omega) only [F_L_isLabel, if_true, if_false, m_lt, m_le, m_eq, m_0lt, m_0le, m_le0, m_0eq, if_pos, if_neg, pk_mul, nI_add, nI_1, m_1p, m_pred, m_inb, m_chkT, nI_clamp, Option.bind_some, decide_true, m_e2, m_e3, m_e4, m_e5, m_e6, m_e7, m_e8, m_e9, m_e10, m_e15, m_e16, m_e17, m_e31, m_e32, m_e37, m_e48, m_e54, m_e57, m_e64, m_e97, m_e105, m_e120, m_e525, m_e640, m_e2048], m_in0 (hi := 7) (by omega) hc⟩
theorem mc_labels {n_states : Int32} {n_moveCount : Int32} {n_stateLabel : Nat → Int32} {n_moveActor : Nat → Int32} {n_moveFrom : Nat → Int32} {n_moveTo : Nat → Int32} {n_csz : Int32} {n_clt : Int32} {n_cle : Nat → Int32} {n_ssz : Nat → Int32} {n_slt : Nat → Int32} {n_sle : Nat → Nat → Int32} {p_ix : Nat → Nat} {p_states : Nat → Int32} {p_moveCount : Nat → Int32} {p_stateLabel : Nat → Nat → Int32} {p_moveActor : Nat → Nat → Int32} {p_moveFrom : Nat → Nat → Int32} {p_moveTo : Nat → Nat → Int32} {p_csz : Nat → Int32} {p_clt : Nat → Int32} {p_cle : Nat → Nat → Int32} {p_ssz : Nat → Nat → Int32} {p_slt : Nat → Nat → Int32} {p_sle : Nat → Nat → Nat → Int32} {l_pastCount : Int32} {f_undone : Int32} {f_now : Nat → Int32} {f_past : Nat → Int32} (hW : m_W n_states n_moveCount n_stateLabel n_moveActor n_moveFrom n_moveTo n_csz n_clt n_cle n_ssz n_slt n_sle f_now) (hP : m_IP p_ix p_states p_moveCount p_stateLabel p_moveActor p_moveFrom p_moveTo p_csz p_clt p_cle p_ssz p_slt p_sle l_pastCount f_undone f_past) (a1 : Int32) (a2 : Int32) : ∃ oL oM, F_L_labels m_N n_states n_moveCount n_stateLabel n_moveActor n_moveFrom n_moveTo n_csz n_clt n_cle n_ssz n_slt n_sle p_ix p_states p_moveCount p_stateLabel p_moveActor p_moveFrom p_moveTo p_csz p_clt p_cle p_ssz p_slt p_sle l_pastCount a1 a2 = some oL ∧ F_M_labels m_N f_undone f_now f_past a1 a2 = some oM ∧ oL.1 = oM.1 ∧ m_W n_states n_moveCount oL.2.1 n_moveActor n_moveFrom n_moveTo n_csz n_clt n_cle n_ssz n_slt n_sle oM.2.2.1 ∧ m_IP oL.2.2.1 oL.2.2.2.1 oL.2.2.2.2.1 oL.2.2.2.2.2.1 oL.2.2.2.2.2.2.1 oL.2.2.2.2.2.2.2.1 oL.2.2.2.2.2.2.2.2.1 oL.2.2.2.2.2.2.2.2.2.1 oL.2.2.2.2.2.2.2.2.2.2.1 oL.2.2.2.2.2.2.2.2.2.2.2.1 oL.2.2.2.2.2.2.2.2.2.2.2.2.1 oL.2.2.2.2.2.2.2.2.2.2.2.2.2.1 oL.2.2.2.2.2.2.2.2.2.2.2.2.2.2.1 oL.2.2.2.2.2.2.2.2.2.2.2.2.2.2.2 oM.2.1 oM.2.2.2 := by
  obtain ⟨⟨s, hs, rfl, hr, hl, hmv⟩, hF, hS⟩ := id hW
  rcases m_state hs f_now hr a1 with ⟨i, hi, rfl, e1, e2⟩ | ⟨e1, e2⟩
  · rcases m_label_ a2 with ⟨c, hc, rfl, e3, e4⟩ | ⟨e3, e4⟩
    · have e5 := (hl i hi).1
      by_cases h : f_now (1 + i) = nI c
      · exact ⟨_, _, by simp (disch := omega) only [F_L_labels, e1, e3, m_n10, e5, h, if_true, if_false, m_lt, m_le, m_eq, m_0lt, m_0le, m_le0, m_0eq, if_pos, if_neg, pk_mul, nI_add, nI_1, m_1p, m_pred, m_inb, m_chkT, nI_clamp, Option.bind_some, decide_true, m_e2, m_e3, m_e4, m_e5, m_e6, m_e7, m_e8, m_e9, m_e10, m_e15, m_e16, m_e17, m_e31, m_e32, m_e37, m_e48, m_e54, m_e57, m_e64, m_e97, m_e105, m_e120, m_e525, m_e640, m_e2048]; rfl, by simp (disch := omega) only [F_M_labels, e2, e4, m_n10, h, if_true, if_false, m_lt, m_le, m_eq, m_0lt, m_0le, m_le0, m_0eq, if_pos, if_neg, pk_mul, nI_add, nI_1, m_1p, m_pred, m_inb, m_chkT, nI_clamp, Option.bind_some, decide_true, m_e2, m_e3, m_e4, m_e5, m_e6, m_e7, m_e8, m_e9, m_e10, m_e15, m_e16, m_e17, m_e31, m_e32, m_e37, m_e48, m_e54, m_e57, m_e64, m_e97, m_e105, m_e120, m_e525, m_e640, m_e2048]; rfl, rfl, hW, hP⟩
      · obtain ⟨pL, pM, q1, q2, q3⟩ := m_remember hW hP
        refine ⟨_, _, by simp (disch := omega) only [F_L_labels, e1, e3, m_n10, e5, h, q1, if_true, if_false, m_lt, m_le, m_eq, m_0lt, m_0le, m_le0, m_0eq, if_pos, if_neg, pk_mul, nI_add, nI_1, m_1p, m_pred, m_inb, m_chkT, nI_clamp, Option.bind_some, decide_true, m_e2, m_e3, m_e4, m_e5, m_e6, m_e7, m_e8, m_e9, m_e10, m_e15, m_e16, m_e17, m_e31, m_e32, m_e37, m_e48, m_e54, m_e57, m_e64, m_e97, m_e105, m_e120, m_e525, m_e640, m_e2048]; rfl, by simp (disch := omega) only [F_M_labels, e2, e4, m_n10, h, q2, if_true, if_false, m_lt, m_le, m_eq, m_0lt, m_0le, m_le0, m_0eq, if_pos, if_neg, pk_mul, nI_add, nI_1, m_1p, m_pred, m_inb, m_chkT, nI_clamp, Option.bind_some, decide_true, m_e2, m_e3, m_e4, m_e5, m_e6, m_e7, m_e8, m_e9, m_e10, m_e15, m_e16, m_e17, m_e31, m_e32, m_e37, m_e48, m_e54, m_e57, m_e64, m_e97, m_e105, m_e120, m_e525, m_e640, m_e2048]; rfl, rfl, ?_, q3⟩
        dsimp only
        refine ⟨⟨s, hs, rfl, by rw [pk_un (by omega)]; exact hr, fun j hj => ?_, ?_⟩, ?_, fun k hk => ?_⟩
        · by_cases hji : j = i
          · subst hji
            rw [pk_us, pk_us]
            exact ⟨rfl, c, by omega, rfl⟩
          · rw [pk_un hji, pk_un (by omega)]
            exact hl j hj
        · obtain ⟨mv, k1, k2, k3, k4⟩ := hmv
          refine ⟨mv, k1, k2, by rw [pk_un (by omega)]; exact k3, fun j hj => ?_⟩
          rw [pk_un (by omega), pk_un (by omega), pk_un (by omega)]
          exact k4 j hj
        · exact hF.to (fun _ _ => rfl) (fun k hk => pk_un (by omega))
        · exact (hS k hk).to (fun _ _ => rfl) (fun z hz => pk_un (by omega))
    · exact ⟨_, _, by simp (disch := omega) only [F_L_labels, e1, e3, m_n10, if_true, if_true, if_false, m_lt, m_le, m_eq, m_0lt, m_0le, m_le0, m_0eq, if_pos, if_neg, pk_mul, nI_add, nI_1, m_1p, m_pred, m_inb, m_chkT, nI_clamp, Option.bind_some, decide_true, m_e2, m_e3, m_e4, m_e5, m_e6, m_e7, m_e8, m_e9, m_e10, m_e15, m_e16, m_e17, m_e31, m_e32, m_e37, m_e48, m_e54, m_e57, m_e64, m_e97, m_e105, m_e120, m_e525, m_e640, m_e2048]; rfl, by simp (disch := omega) only [F_M_labels, e2, e4, m_n10, if_true, if_false, m_lt, m_le, m_eq, m_0lt, m_0le, m_le0, m_0eq, if_pos, if_neg, pk_mul, nI_add, nI_1, m_1p, m_pred, m_inb, m_chkT, nI_clamp, Option.bind_some, decide_true, m_e2, m_e3, m_e4, m_e5, m_e6, m_e7, m_e8, m_e9, m_e10, m_e15, m_e16, m_e17, m_e31, m_e32, m_e37, m_e48, m_e54, m_e57, m_e64, m_e97, m_e105, m_e120, m_e525, m_e640, m_e2048]; rfl, rfl, hW, hP⟩
  · exact ⟨_, _, by simp only [F_L_labels, e1, if_true]; rfl, by simp only [F_M_labels, e2, if_true]; rfl, rfl, hW, hP⟩
