/-! tokens of a system's text -/
theorem m_e59 : (59 : Int32) = nI 59 := rfl
theorem m_e99 : (99 : Int32) = nI 99 := rfl
theorem m_e100 : (100 : Int32) = nI 100 := rfl
theorem m_e109 : (109 : Int32) = nI 109 := rfl
theorem m_e115 : (115 : Int32) = nI 115 := rfl
theorem m_isb0 : g_isb 0 = true := by decide
theorem m_isb1 : g_isb 1 = true := by decide
theorem m_n01 : ¬ (0 : Int32) = 1 := by decide
/-- a text of both sides -/
def m_tx (L : Nat) (typed text : Nat → Int32) : Prop := L ≤ 120 ∧ ∀ j, j < L → typed j = text j ∧ ∃ c : Nat, c ≤ 255 ∧ text j = nI c
def m_rho (a b : Nat) : Prop := (a = b ∧ a ≤ 999) ∨ (99 < a ∧ a ≤ 999 ∧ b = 100)
theorem m_fig0 {c : Nat} (hc : c ≤ 255) : F_R_isFigure (nI c) = if 48 ≤ c ∧ c ≤ 57 then 1 else 0 := by
  by_cases h1 : c < 48
  · simp (disch := omega) only [F_R_isFigure, if_true, if_false, m_lt, m_le, m_eq, m_0lt, m_0le, m_le0, m_0eq, if_pos, if_neg, pk_mul, nI_add, nI_1, m_1p, m_pred, m_inb, m_chkT, nI_clamp, Option.bind_some, decide_true, m_e2, m_e3, m_e4, m_e5, m_e6, m_e7, m_e8, m_e9, m_e10, m_e15, m_e16, m_e17, m_e31, m_e32, m_e37, m_e48, m_e54, m_e57, m_e64, m_e97, m_e105, m_e120, m_e525, m_e640, m_e2048]
  · by_cases h2 : 57 < c
    · simp (disch := omega) only [F_R_isFigure, if_true, if_false, m_lt, m_le, m_eq, m_0lt, m_0le, m_le0, m_0eq, if_pos, if_neg, pk_mul, nI_add, nI_1, m_1p, m_pred, m_inb, m_chkT, nI_clamp, Option.bind_some, decide_true, m_e2, m_e3, m_e4, m_e5, m_e6, m_e7, m_e8, m_e9, m_e10, m_e15, m_e16, m_e17, m_e31, m_e32, m_e37, m_e48, m_e54, m_e57, m_e64, m_e97, m_e105, m_e120, m_e525, m_e640, m_e2048]
    · simp (disch := omega) only [F_R_isFigure, if_true, if_false, m_lt, m_le, m_eq, m_0lt, m_0le, m_le0, m_0eq, if_pos, if_neg, pk_mul, nI_add, nI_1, m_1p, m_pred, m_inb, m_chkT, nI_clamp, Option.bind_some, decide_true, m_e2, m_e3, m_e4, m_e5, m_e6, m_e7, m_e8, m_e9, m_e10, m_e15, m_e16, m_e17, m_e31, m_e32, m_e37, m_e48, m_e54, m_e57, m_e64, m_e97, m_e105, m_e120, m_e525, m_e640, m_e2048]
theorem m_fig1 {L j c : Nat} (hL : L ≤ 120) (hj : j < L) {text : Nat → Int32} (hc : c ≤ 255) (ht : text j = nI c) : F_M_isFigure (nI L) (nI j) text = some (if 48 ≤ c ∧ c ≤ 57 then 1 else 0) := by
  simp (disch := omega) only [F_M_isFigure, m_le, if_neg, m_inb, m_chkT, nI_clamp, ht, m_e48, m_e57, m_in]
  by_cases h : 48 ≤ c ∧ c ≤ 57
  · simp only [if_pos h, m_n10, if_false, Option.bind_some, m_isb1, m_chkT]
  · simp only [if_neg h, if_true, Option.bind_some, m_isb0, m_chkT]
theorem m_scan {L : Nat} {typed text : Nat → Int32} (hx : m_tx L typed text) : ∀ (d j n m vc vr : Nat), j + d = L → d < n → d < m → m_rho vc vr → ∃ e vc' vr', j ≤ e ∧ e ≤ L ∧ R_advanceOverNumber_l1 (nI L) typed n (nI j) (nI vc) = some (nI e, nI vc') ∧ M_takesNumber_l1 (nI L) text m (nI j) (nI vr) = some (nI e, nI vr') ∧ m_rho vc' vr' ∧ (∀ c, j < L → c ≤ 255 → text j = nI c → 48 ≤ c → c ≤ 57 → j < e)
  | 0, j, n + 1, m + 1, vc, vr, h, _, _, hr => by
    have hL := hx.1
    have hj : j = L := by omega
    subst hj
    refine ⟨j, vc, vr, by omega, by omega, ?_, ?_, hr, fun c hc => by omega⟩
    · simp (disch := omega) only [R_advanceOverNumber_l1_s, m_le, if_pos]
    · simp (disch := omega) only [M_takesNumber_l1_s, F_M_isFigure, m_le, if_pos, Option.bind_some, m_isb0, m_chkT, if_true]
  | d + 1, j, n + 1, m + 1, vc, vr, h, hn, hm, hr => by
    have hL := hx.1
    obtain ⟨ht, c, hc, htc⟩ := hx.2 j (by omega)
    have hty : typed j = nI c := ht.trans htc
    have hb : vc ≤ 999 ∧ vr ≤ 999 := by rcases hr with hr | hr <;> omega
    by_cases hf : 48 ≤ c ∧ c ≤ 57
    · have hf0 : F_R_isFigure (nI c) = 1 := by rw [m_fig0 hc, if_pos hf]
      have hf1 : F_M_isFigure (nI L) (nI j) text = some 1 := by rw [m_fig1 hL (by omega) hc htc, if_pos hf]
      by_cases h99 : vc ≤ 99
      · have hvr : vr = vc := by rcases hr with hr | hr <;> omega
        subst hvr
        obtain ⟨e, vc', vr', e1, e2, e3, e4, e5, e6⟩ := m_scan hx d (j + 1) n m (vr * 10 + c - 48) (vr * 10 + c - 48) (by omega) (by omega) (by omega) (Or.inl ⟨rfl, by omega⟩)
        refine ⟨e, vc', vr', by omega, e2, ?_, ?_, e5, fun _ _ _ _ _ _ => by omega⟩
        · simp (disch := omega) only [R_advanceOverNumber_l1_s, m_le, m_lt, if_neg, m_inb, m_chkT, nI_clamp, hty, hf0, m_n10, if_false, m_e99, m_e10, m_e48, pk_mul, nI_add, pk_sub, Option.bind_some, nI_1]
          exact e3
        · simp (disch := omega) only [M_takesNumber_l1_s, hf1, m_le, if_pos, m_inb, m_chkT, nI_clamp, htc, m_n10, if_false, m_e99, m_e10, m_e48, pk_mul, nI_add, pk_sub, Option.bind_some, nI_1, Nat.mul_comm 10 vr]
          exact e4
      · have hr2 : m_rho vc 100 := Or.inr ⟨by omega, by omega, rfl⟩
        have hvr : ¬ vr ≤ 99 := by rcases hr with hr | hr <;> omega
        obtain ⟨e, vc', vr', e1, e2, e3, e4, e5, e6⟩ := m_scan hx d (j + 1) n m vc 100 (by omega) (by omega) (by omega) hr2
        refine ⟨e, vc', vr', by omega, e2, ?_, ?_, e5, fun _ _ _ _ _ _ => by omega⟩
        · simp (disch := omega) only [R_advanceOverNumber_l1_s, m_le, m_lt, if_neg, if_pos, m_inb, m_chkT, nI_clamp, hty, hf0, m_n10, if_false, m_e99, Option.bind_some, nI_1]
          exact e3
        · simp (disch := omega) only [M_takesNumber_l1_s, hf1, m_le, if_neg, m_chkT, m_n10, if_false, m_e99, m_e100, Option.bind_some, nI_1]
          exact e4
    · have hf0 : F_R_isFigure (nI c) = 0 := by rw [m_fig0 hc, if_neg hf]
      have hf1 : F_M_isFigure (nI L) (nI j) text = some 0 := by rw [m_fig1 hL (by omega) hc htc, if_neg hf]
      refine ⟨j, vc, vr, by omega, by omega, ?_, ?_, hr, fun c2 h1 h2 h3 h4 h5 => ?_⟩
      · simp (disch := omega) only [R_advanceOverNumber_l1_s, m_le, if_neg, m_inb, m_chkT, nI_clamp, hty, hf0, if_true]
      · simp only [M_takesNumber_l1_s, hf1, Option.bind_some, if_true]
      · rw [htc] at h3
        have := (nI_eq (by omega) (by omega)).mp h3
        omega
theorem m_sk_congr {L : Nat} {typed text : Nat → Int32} (ht : ∀ j, j < L → typed j = text j) : ∀ d i, i + d = L → m_sk typed d i = m_sk text d i
  | 0, _, _ => rfl
  | d + 1, i, h => by
    simp only [m_sk]
    rw [ht i (by omega), m_sk_congr ht d (i + 1) (by omega)]
theorem m_sk_nb {L : Nat} {text : Nat → Int32} : ∀ d i, i + d = L → m_sk text d i < L → ¬ text (m_sk text d i) = 32
  | 0, i, h, h2 => by
    simp only [m_sk] at h2
    omega
  | d + 1, i, h, h2 => by
    simp only [m_sk] at h2 ⊢
    by_cases hb : text i = 32
    · rw [if_pos hb] at h2 ⊢
      exact m_sk_nb d (i + 1) (by omega) h2
    · rw [if_neg hb] at h2 ⊢
      exact hb
theorem m_advl (L : Nat) (hL : L ≤ 120) (t : Nat → Int32) : ∀ (d i n : Nat), i + d = L → d < n → R_advance_l1 (nI L) t n (nI i) = some (nI (m_sk t d i))
  | 0, i, n + 1, h, _ => by
    simp (disch := omega) only [R_advance_l1_s, m_sk, if_true, if_false, m_lt, m_le, m_eq, m_0lt, m_0le, m_le0, m_0eq, if_pos, if_neg, pk_mul, nI_add, nI_1, m_1p, m_pred, m_inb, m_chkT, nI_clamp, Option.bind_some, decide_true, m_e2, m_e3, m_e4, m_e5, m_e6, m_e7, m_e8, m_e9, m_e10, m_e15, m_e16, m_e17, m_e31, m_e32, m_e37, m_e48, m_e54, m_e57, m_e64, m_e97, m_e105, m_e120, m_e525, m_e640, m_e2048]
  | d + 1, i, n + 1, h, hn => by
    have ih := m_advl L hL t d (i + 1) n (by omega) (by omega)
    by_cases hb : t i = 32
    · simp only [m_sk, if_pos hb]
      simp (disch := omega) only [R_advance_l1_s, m_le, if_neg, m_inb, m_chkT, nI_clamp, hb, if_true, nI_1]
      exact ih
    · simp only [m_sk, if_neg hb]
      simp (disch := omega) only [R_advance_l1_s, m_le, if_neg, m_inb, m_chkT, nI_clamp, hb, if_false]
/-- one token of both sides -/
theorem m_tok {L : Nat} {typed text : Nat → Int32} (hx : m_tx L typed text) {i : Nat} (hi : i ≤ L) (v0 : Int32) : ∃ j, i ≤ j ∧ j ≤ L ∧ F_M_blanks m_N (nI L) (nI i) text = some (nI j, nI j) ∧
    ((j = L ∧ F_R_advance m_N typed (nI L) (nI i) v0 = some (nI L, nI L, -1, v0)) ∨
     (j < L ∧ ∃ c e vc vr k, c ≤ 255 ∧ text j = nI c ∧ 48 ≤ c ∧ c ≤ 57 ∧ j < e ∧ e ≤ L ∧ vr ≤ 999 ∧ vc ≤ 999 ∧ M_takesNumber_l1 (nI L) text m_N (nI j) 0 = some (nI e, nI vr) ∧ F_R_advance m_N typed (nI L) (nI i) v0 = some (nI e, nI j, k, nI vc) ∧ ((k = -2 ∧ (e = j + 1 ∨ c ≠ 48) ∧ vc = vr) ∨ (k = -3 ∧ (¬ (e = j + 1 ∨ c ≠ 48) ∨ 99 < vr)))) ∨
     (j < L ∧ ∃ c, c ≤ 255 ∧ text j = nI c ∧ (c < 48 ∨ 57 < c) ∧ F_R_advance m_N typed (nI L) (nI i) v0 = some (nI (j + 1), nI j, (if c = 115 ∨ c = 109 ∨ c = 59 then nI c else -3), v0))) := by
  have hL := hx.1
  have hsk := m_sk_le text (L - i) i
  have hcg := m_sk_congr (fun j hj => (hx.2 j hj).1) (L - i) i (by omega)
  have ha := m_advl L hL typed (L - i) i m_N (by omega) (by show _ < 5000; omega)
  rw [hcg] at ha
  refine ⟨m_sk text (L - i) i, hsk.1, by omega, m_blk hL text hi, ?_⟩
  generalize m_sk text (L - i) i = j at ha hsk
  by_cases hj : j = L
  · subst hj
    refine Or.inl ⟨rfl, ?_⟩
    simp (disch := omega) only [F_R_advance, ha, Option.bind_some, m_lt, if_neg]
  · refine Or.inr ?_
    obtain ⟨ht, c, hc, htc⟩ := hx.2 j (by omega)
    have hty : typed j = nI c := ht.trans htc
    by_cases hf : 48 ≤ c ∧ c ≤ 57
    · have hf0 : F_R_isFigure (nI c) = 1 := by rw [m_fig0 hc, if_pos hf]
      obtain ⟨e, vc, vr, e1, e2, e3, e4, e5, e6⟩ := m_scan hx (L - j) j m_N m_N 0 0 (by omega) (by show _ < 5000; omega) (by show _ < 5000; omega) (Or.inl ⟨rfl, by omega⟩)
      have hje := e6 c (by omega) hc htc hf.1 hf.2
      have hb : vc ≤ 999 ∧ vr ≤ 999 := by rcases e5 with hr | hr <;> omega
      have e3' : R_advanceOverNumber_l1 (nI L) typed m_N (nI j) 0 = some (nI e, nI vc) := e3
      refine Or.inl ⟨by omega, c, e, vc, vr, ?_⟩
      by_cases hz : e = j + 1 ∨ c ≠ 48
      · by_cases h99 : vc ≤ 99
        · refine ⟨-2, hc, htc, hf.1, hf.2, hje, e2, hb.2, hb.1, e4, ?_, Or.inl ⟨rfl, hz, by rcases e5 with hr | hr <;> omega⟩⟩
          rcases hz with hz | hz
          · by_cases h48 : c = 48
            · simp (disch := omega) only [F_R_advance, F_R_advanceOverNumber, ha, hty, hf0, e3', m_n10, Option.bind_some, m_lt, m_le, m_eq, if_pos, if_neg, if_true, if_false, m_inb, m_chkT, nI_clamp, m_e48, m_e99, pk_sub, show (1 : Int32) = nI 1 from rfl, show ¬ nI 1 = 0 from by decide]
            · simp (disch := omega) only [F_R_advance, F_R_advanceOverNumber, ha, hty, hf0, e3', m_n10, Option.bind_some, m_lt, m_le, m_eq, if_pos, if_neg, if_true, if_false, m_inb, m_chkT, nI_clamp, m_e48, m_e99]
          · simp (disch := omega) only [F_R_advance, F_R_advanceOverNumber, ha, hty, hf0, e3', m_n10, Option.bind_some, m_lt, m_le, m_eq, if_pos, if_neg, if_true, if_false, m_inb, m_chkT, nI_clamp, m_e48, m_e99]
        · refine ⟨-3, hc, htc, hf.1, hf.2, hje, e2, hb.2, hb.1, e4, ?_, Or.inr ⟨rfl, Or.inr (by rcases e5 with hr | hr <;> omega)⟩⟩
          rcases hz with hz | hz
          · by_cases h48 : c = 48
            · simp (disch := omega) only [F_R_advance, F_R_advanceOverNumber, ha, hty, hf0, e3', m_n10, Option.bind_some, m_lt, m_le, m_eq, if_pos, if_neg, if_true, if_false, m_inb, m_chkT, nI_clamp, m_e48, m_e99, pk_sub, show (1 : Int32) = nI 1 from rfl, show ¬ nI 1 = 0 from by decide]
            · simp (disch := omega) only [F_R_advance, F_R_advanceOverNumber, ha, hty, hf0, e3', m_n10, Option.bind_some, m_lt, m_le, m_eq, if_pos, if_neg, if_true, if_false, m_inb, m_chkT, nI_clamp, m_e48, m_e99]
          · simp (disch := omega) only [F_R_advance, F_R_advanceOverNumber, ha, hty, hf0, e3', m_n10, Option.bind_some, m_lt, m_le, m_eq, if_pos, if_neg, if_true, if_false, m_inb, m_chkT, nI_clamp, m_e48, m_e99]
      · refine ⟨-3, hc, htc, hf.1, hf.2, hje, e2, hb.2, hb.1, e4, ?_, Or.inr ⟨rfl, Or.inl hz⟩⟩
        simp (disch := omega) only [F_R_advance, F_R_advanceOverNumber, ha, hty, hf0, e3', m_n10, Option.bind_some, m_lt, m_le, m_eq, if_pos, if_neg, if_true, if_false, m_inb, m_chkT, nI_clamp, m_e48, m_e99, pk_sub, show (1 : Int32) = nI 1 from rfl, show ¬ nI 1 = 0 from by decide]
    · have hf0 : F_R_isFigure (nI c) = 0 := by rw [m_fig0 hc, if_neg hf]
      refine Or.inr ⟨by omega, c, hc, htc, by omega, ?_⟩
      simp (disch := omega) only [F_R_advance, ha, hty, hf0, Option.bind_some, m_lt, m_eq, if_pos, if_true, m_inb, m_chkT, nI_clamp, nI_1, m_e115, m_e109, m_e59]
      by_cases h1 : c = 115
      · simp only [h1, if_true, true_or]
      · by_cases h2 : c = 109
        · simp only [h2, if_true, true_or, or_true, if_false, show ¬ (109 : Nat) = 115 from by omega]
        · by_cases h3 : c = 59
          · simp only [h3, if_true, or_true, if_false, show ¬ (59 : Nat) = 115 from by omega, show ¬ (59 : Nat) = 109 from by omega]
          · simp only [h1, h2, h3, if_false, or_false]
