/-! a formula told -/
theorem m_arc (c : Int32) : (∃ k : Nat, k ≤ 2 ∧ m_ar c = (k : Int) ∧ F_L_innerCount c = nI k ∧ F_M_insideOf c = nI k) ∨ (m_ar c = -1 ∧ F_L_innerCount c < 0 ∧ F_M_insideOf c < 0) := by
  by_cases h : c = 48 ∨ c = 49 ∨ c = 97 ∨ c = 98 ∨ c = 99 ∨ c = 102 ∨ c = 103 ∨ c = 107 ∨ c = 110 ∨ c = 111 ∨ c = 117 ∨ c = 120
  · refine Or.inl ?_
    rcases h with rfl | rfl | rfl | rfl | rfl | rfl | rfl | rfl | rfl | rfl | rfl | rfl
    · exact ⟨0, by omega, by decide, by decide, by decide⟩
    · exact ⟨0, by omega, by decide, by decide, by decide⟩
    · exact ⟨0, by omega, by decide, by decide, by decide⟩
    · exact ⟨0, by omega, by decide, by decide, by decide⟩
    · exact ⟨0, by omega, by decide, by decide, by decide⟩
    · exact ⟨1, by omega, by decide, by decide, by decide⟩
    · exact ⟨1, by omega, by decide, by decide, by decide⟩
    · exact ⟨2, by omega, by decide, by decide, by decide⟩
    · exact ⟨1, by omega, by decide, by decide, by decide⟩
    · exact ⟨2, by omega, by decide, by decide, by decide⟩
    · exact ⟨2, by omega, by decide, by decide, by decide⟩
    · exact ⟨1, by omega, by decide, by decide, by decide⟩
  · refine Or.inr ?_
    simp only [not_or] at h
    obtain ⟨h1, h2, h3, h4, h5, h6, h7, h8, h9, ha, hb, hc⟩ := h
    refine ⟨?_, ?_, ?_⟩
    · simp only [m_ar, h1, h2, h3, h4, h5, h6, h7, h8, h9, ha, hb, hc, or_false, if_false]
    · simp only [F_L_innerCount, h1, h2, h3, h4, h5, h6, h7, h8, h9, ha, hb, hc, if_false]
      decide
    · simp only [F_M_insideOf, h1, h2, h3, h4, h5, h6, h7, h8, h9, ha, hb, hc, if_false]
      decide
theorem m_later (c : Int32) : (m_lat c ∧ F_L_isLater c = 1 ∧ F_M_isLater c = 1) ∨ (¬ m_lat c ∧ F_L_isLater c = 0 ∧ F_M_isLater c = 0) := by
  by_cases h : m_lat c
  · refine Or.inl ⟨h, ?_⟩
    rcases h with rfl | rfl | rfl | rfl <;> decide
  · refine Or.inr ⟨h, ?_⟩
    simp only [m_lat, not_or] at h
    obtain ⟨h1, h2, h3, h4⟩ := h
    exact ⟨by simp only [F_L_isLater, h1, h2, h3, h4, if_false], by simp only [F_M_isLater, h1, h2, h3, h4, if_false]⟩
theorem m_due {a : Nat} (k : Nat) (h : 1 ≤ a) : nI a + (nI k - 1) = nI (a + k - 1) := by
  rw [← m_pred (a := a + k) (by omega), ← nI_add, Int32.sub_eq_add_neg, Int32.sub_eq_add_neg, Int32.add_assoc]
theorem m_nm1 {j : Nat} (h : j < 2 ^ 31) : ¬ nI j = -1 := fun z => nI_pos h (by rw [z]; decide)
theorem m_flt : ∀ j : Nat, j ≤ 120 → ¬ (0 : Int32) ≤ (-10 : Int32) - nI j := by
  have h : ∀ j : Fin 121, ¬ (0 : Int32) ≤ (-10 : Int32) - nI j.1 := by decide
  exact fun j hj => h ⟨j, by omega⟩
/-- where the next letter that is no blank stands -/
def m_sk (t : Nat → Int32) : Nat → Nat → Nat
  | 0, i => i
  | d + 1, i => if t i = 32 then m_sk t d (i + 1) else i
theorem m_sk_le (t : Nat → Int32) : ∀ d i, i ≤ m_sk t d i ∧ m_sk t d i ≤ i + d
  | 0, i => ⟨Nat.le_refl _, Nat.le_refl _⟩
  | d + 1, i => by
    simp only [m_sk]
    have := m_sk_le t d (i + 1)
    by_cases h : t i = 32
    · rw [if_pos h]; omega
    · rw [if_neg h]; omega
theorem m_blanks (L : Nat) (hL : L ≤ 120) (t : Nat → Int32) : ∀ (d i n : Nat), i + d = L → d < n → M_blanks_l1 (nI L) t n (nI i) = some (nI (m_sk t d i))
  | 0, i, n + 1, h, _ => by
    simp (disch := omega) only [M_blanks_l1_s, m_sk, if_true, if_false, m_lt, m_le, m_eq, m_0lt, m_0le, m_le0, m_0eq, if_pos, if_neg, pk_mul, nI_add, nI_1, m_1p, m_pred, m_inb, m_chkT, nI_clamp, Option.bind_some, decide_true, m_e2, m_e3, m_e4, m_e5, m_e6, m_e7, m_e8, m_e9, m_e10, m_e15, m_e16, m_e17, m_e31, m_e32, m_e37, m_e48, m_e54, m_e57, m_e64, m_e97, m_e105, m_e120, m_e525, m_e640, m_e2048]
  | d + 1, i, n + 1, h, hn => by
    have ih := m_blanks L hL t d (i + 1) n (by omega) (by omega)
    by_cases hb : t i = 32
    · simp only [m_sk, if_pos hb]
      simp (disch := omega) only [M_blanks_l1_s, m_le, if_neg, m_inb, m_chkT, nI_clamp, hb, if_true, nI_1]
      exact ih
    · simp only [m_sk, if_neg hb]
      simp (disch := omega) only [M_blanks_l1_s, m_le, if_neg, m_inb, m_chkT, nI_clamp, hb, if_false]
theorem m_blk {L : Nat} (hL : L ≤ 120) (t : Nat → Int32) {i : Nat} (hi : i ≤ L) : F_M_blanks m_N (nI L) (nI i) t = some (nI (m_sk t (L - i) i), nI (m_sk t (L - i) i)) := by
  simp only [F_M_blanks, m_blanks L hL t (L - i) i m_N (by omega) (by show _ < 5000; omega), Option.bind_some]
/-- a formula as far as it is rd -/
def m_fi (due sz lt : Nat) (le rd : Nat → Int32) : Prop := sz ≤ 16 ∧ lt ≤ 3 ∧ due ≤ sz + 1 ∧ (∀ p, p < sz → le p = rd (1 + p)) ∧ (∀ p, p < sz → 0 ≤ m_ar (le p) ∧ 1 ≤ m_D le p) ∧ m_D le sz = (due : Int) ∧ m_LT le sz = lt
def m_fq (r1 : (Int32 × Int32 × Int32 × (Nat → Int32)) ⊕ (Int32 × Int32 × Int32 × (Nat → Int32))) (r2 : (Int32 × Int32 × Int32 × (Nat → Int32)) ⊕ (Int32 × Int32 × Int32 × Int32 × (Nat → Int32))) : Prop :=
  (∃ j x y, j ≤ 120 ∧ r1 = .inl (nI j, x) ∧ r2 = .inl (-10 - nI j, y)) ∨ (∃ due sz lt le sp tk rd, r1 = .inr (nI due, nI sz, nI lt, le) ∧ r2 = .inr (nI due, nI sz, sp, tk, rd) ∧ m_fi due sz lt le rd)
theorem m_fi_add {due sz lt k : Nat} {le rd : Nat → Int32} {c : Int32} (h : m_fi due sz lt le rd) (hs : sz < 16) (hd : 1 ≤ due) (hk : k ≤ 2) (hc : m_ar c = (k : Int)) (z : Nat) (hz : z = lt + (if (c = 120 ∨ c = 102 ∨ c = 103 ∨ c = 117) then 1 else 0)) (hz3 : z ≤ 3) : m_fi (due + k - 1) (sz + 1) z (upd le sz c) (upd rd (sz + 1) c) := by
  obtain ⟨h1, h2, h3, h4, h5, h6, h7⟩ := h
  have hu : ∀ p, p < sz → upd le sz c p = le p := fun p hp => pk_un (by omega)
  have hu2 : ∀ p, p < sz → le p = upd le sz c p := fun p hp => (hu p hp).symm
  refine ⟨by omega, hz3, by omega, fun p hp => ?_, fun p hp => ?_, ?_, ?_⟩
  · by_cases hps : p = sz
    · subst hps
      rw [pk_us, Nat.add_comm, pk_us]
    · rw [pk_un hps, pk_un (by omega)]
      exact h4 p (by omega)
  · rw [← m_D_congr hu2 p (by omega)]
    by_cases hps : p = sz
    · subst hps
      rw [pk_us, hc, h6]
      omega
    · rw [pk_un hps]
      exact h5 p (by omega)
  · simp only [m_D]
    rw [← m_D_congr hu2 sz (Nat.le_refl _), pk_us, h6, hc]
    omega
  · simp only [m_LT]
    rw [← m_LT_congr hu2 sz (Nat.le_refl _), pk_us, h7, hz]
theorem m_readF (L : Nat) (hL : L ≤ 120) (typed text : Nat → Int32) (ht : ∀ j, j < L → typed j = text j) : ∀ (d i n m due sz lt : Nat) (le rd : Nat → Int32), i + d = L → d < n → d < m → m_fi due sz lt le rd → ∃ r1 r2, L_readFormula_l1 (nI L) typed n (nI due) (nI i) (nI sz) (nI lt) le = some r1 ∧ M_readsFormula_l1 m_N (nI L) text m (nI due) (nI sz) (nI lt) (nI (m_sk text d i)) (nI (m_sk text d i)) rd = some r2 ∧ m_fq r1 r2
  | 0, i, n + 1, m + 1, due, sz, lt, le, rd, h, _, _, hf => by
    have hi : i = L := by omega
    subst hi
    exact ⟨_, _, by simp (disch := omega) only [L_readFormula_l1_s, if_true, if_false, m_lt, m_le, m_eq, m_0lt, m_0le, m_le0, m_0eq, if_pos, if_neg, pk_mul, nI_add, nI_1, m_1p, m_pred, m_inb, m_chkT, nI_clamp, Option.bind_some, decide_true, m_e2, m_e3, m_e4, m_e5, m_e6, m_e7, m_e8, m_e9, m_e10, m_e15, m_e16, m_e17, m_e31, m_e32, m_e37, m_e48, m_e54, m_e57, m_e64, m_e97, m_e105, m_e120, m_e525, m_e640, m_e2048] <;> rfl, by simp (disch := omega) only [M_readsFormula_l1_s, m_sk, if_true, if_false, m_lt, m_le, m_eq, m_0lt, m_0le, m_le0, m_0eq, if_pos, if_neg, pk_mul, nI_add, nI_1, m_1p, m_pred, m_inb, m_chkT, nI_clamp, Option.bind_some, decide_true, m_e2, m_e3, m_e4, m_e5, m_e6, m_e7, m_e8, m_e9, m_e10, m_e15, m_e16, m_e17, m_e31, m_e32, m_e37, m_e48, m_e54, m_e57, m_e64, m_e97, m_e105, m_e120, m_e525, m_e640, m_e2048] <;> rfl, Or.inr ⟨due, sz, lt, le, _, _, rd, rfl, rfl, hf⟩⟩
  | d + 1, i, n + 1, m + 1, due, sz, lt, le, rd, h, hn, hm, hf => by
    have hti := ht i (by omega)
    have hf1 := hf.1
    have hf2 := hf.2.1
    have hf3 := hf.2.2.1
    by_cases hb : text i = 32
    · obtain ⟨r1, r2, e1, e2, e3⟩ := m_readF L hL typed text ht d (i + 1) n (m + 1) due sz lt le rd (by omega) (by omega) (by omega) hf
      refine ⟨r1, r2, ?_, by simp only [m_sk, if_pos hb]; exact e2, e3⟩
      simp (disch := omega) only [L_readFormula_l1_s, m_le, if_neg, m_e120, m_inb, m_chkT, nI_clamp, hti, hb, if_true, nI_1]
      exact e1
    · simp only [m_sk, if_neg hb]
      generalize hcc : text i = c at hti hb
      have hfault : m_fq (.inl (nI i, nI sz, nI lt, le)) (.inl (-10 - nI i, nI i, nI i, rd)) := Or.inl ⟨i, _, _, by omega, rfl, rfl⟩
      rcases m_arc c with ⟨k, hk, k1, k2, k3⟩ | ⟨k1, k2, k3⟩
      · by_cases hd0 : due = 0
        · subst hd0
          exact ⟨_, _, by simp (disch := omega) only [L_readFormula_l1_s, m_le, m_0eq, if_neg, m_e120, m_inb, m_chkT, nI_clamp, hti, hb, if_true, if_false] <;> rfl, by simp (disch := omega) only [M_readsFormula_l1_s, m_le, m_0lt, m_0eq, if_neg, m_inb, m_chkT, nI_clamp, hcc, k3, if_true, if_false] <;> rfl, hfault⟩
        · by_cases hs16 : sz = 16
          · subst hs16
            exact ⟨_, _, by simp (disch := omega) only [L_readFormula_l1_s, m_le, m_lt, m_0lt, m_0eq, if_neg, m_e120, m_e16, m_inb, m_chkT, nI_clamp, hti, hb, k2, if_true, if_false, Nat.lt_irrefl] <;> rfl, by simp (disch := omega) only [M_readsFormula_l1_s, m_le, m_0lt, m_0eq, m_eq, if_neg, m_e16, m_inb, m_chkT, nI_clamp, hcc, k3, if_true, if_false] <;> rfl, hfault⟩
          · rcases m_later c with ⟨j1, j2, j3⟩ | ⟨j1, j2, j3⟩
            · by_cases hl3 : lt = 3
              · subst hl3
                exact ⟨_, _, by simp (disch := omega) only [L_readFormula_l1_s, m_le, m_lt, m_0lt, m_0eq, if_neg, if_pos, m_e120, m_e16, m_e3, m_inb, m_chkT, nI_clamp, hti, hb, k2, j2, m_n10, if_true, if_false, Nat.lt_irrefl] <;> rfl, by simp (disch := omega) only [M_readsFormula_l1_s, m_le, m_0lt, m_0eq, m_eq, if_neg, m_e16, m_e3, m_inb, m_chkT, nI_clamp, nI_1, hcc, k3, j3, m_n10, if_true, if_false] <;> rfl, hfault⟩
              · have hf' := m_fi_add hf (by omega) (by omega) hk k1 (lt + 1) (by rw [if_pos (show c = 120 ∨ c = 102 ∨ c = 103 ∨ c = 117 from j1)]) (by omega)
                obtain ⟨r1, r2, e1, e2, e3⟩ := m_readF L hL typed text ht d (i + 1) n m (due + k - 1) (sz + 1) (lt + 1) (upd le sz c) (upd rd (sz + 1) c) (by omega) (by omega) (by omega) hf'
                refine ⟨r1, r2, ?_, ?_, e3⟩
                · simp (disch := omega) only [L_readFormula_l1_s, F_F_add, m_le, m_lt, m_0lt, m_0eq, if_neg, if_pos, m_e120, m_e16, m_e3, m_inb, m_chkT, nI_clamp, nI_1, m_due, hti, hb, k2, j2, m_n10, if_true, if_false, Option.bind_some]
                  exact e1
                · have hbl := m_blk hL text (i := i + 1) (by omega)
                  simp (disch := omega) only [M_readsFormula_l1_s, m_le, m_0lt, m_0eq, m_eq, if_neg, if_pos, m_e16, m_e3, m_inb, m_chkT, nI_clamp, nI_1, m_due, hcc, k3, j3, m_n10, if_true, if_false, hbl, Option.bind_some]
                  rw [show L - (i + 1) = d by omega]
                  exact e2
            · have hf' := m_fi_add hf (by omega) (by omega) hk k1 lt (by rw [if_neg (show ¬ (c = 120 ∨ c = 102 ∨ c = 103 ∨ c = 117) from j1)]; rfl) (by omega)
              obtain ⟨r1, r2, e1, e2, e3⟩ := m_readF L hL typed text ht d (i + 1) n m (due + k - 1) (sz + 1) lt (upd le sz c) (upd rd (sz + 1) c) (by omega) (by omega) (by omega) hf'
              refine ⟨r1, r2, ?_, ?_, e3⟩
              · simp (disch := omega) only [L_readFormula_l1_s, F_F_add, m_le, m_lt, m_0lt, m_0eq, if_neg, if_pos, m_e120, m_e16, m_e3, m_inb, m_chkT, nI_clamp, nI_1, m_due, hti, hb, k2, j2, m_n10, if_true, if_false, Option.bind_some]
                exact e1
              · have hbl := m_blk hL text (i := i + 1) (by omega)
                simp (disch := omega) only [M_readsFormula_l1_s, m_le, m_0lt, m_0eq, m_eq, if_neg, if_pos, m_e16, m_e3, m_inb, m_chkT, nI_clamp, nI_1, Int32.add_zero, m_due, hcc, k3, j3, m_n10, if_true, if_false, hbl, Option.bind_some]
                rw [show L - (i + 1) = d by omega]
                exact e2
      · by_cases hd0 : due = 0
        · subst hd0
          exact ⟨_, _, by simp (disch := omega) only [L_readFormula_l1_s, m_le, m_0eq, if_neg, m_e120, m_inb, m_chkT, nI_clamp, hti, hb, if_true, if_false] <;> rfl, by simp (disch := omega) only [M_readsFormula_l1_s, m_le, if_neg, m_inb, m_chkT, nI_clamp, hcc, k3, if_true] <;> rfl, hfault⟩
        · exact ⟨_, _, by simp (disch := omega) only [L_readFormula_l1_s, m_le, m_0eq, if_neg, m_e120, m_inb, m_chkT, nI_clamp, hti, hb, k2, if_true, if_false] <;> rfl, by simp (disch := omega) only [M_readsFormula_l1_s, m_le, if_neg, m_inb, m_chkT, nI_clamp, hcc, k3, if_true] <;> rfl, hfault⟩
theorem m_formula_l1 (many : Nat) (hm : many ≤ 16) (x y : Int32) (rd A : Nat → Int32) : ∃ B, M_formula_l1 (nI many, x, y, rd) m_N 0 A = some B ∧ ∀ j, B j = if 37 ≤ j ∧ j < 54 then (if j - 37 ≤ many then rd (j - 37) else 0) else A j := by
  have hs : ∀ n k A, k < 17 → M_formula_l1 (nI many, x, y, rd) (n + 1) (nI k) A = M_formula_l1 (nI many, x, y, rd) n (nI (k + 1)) (upd A (37 + k) (if k ≤ many then rd k else 0)) := fun n k A hk => by
    by_cases hc : k ≤ many
    · simp (disch := omega) only [M_formula_l1_s, if_true, if_false, m_lt, m_le, m_eq, m_0lt, m_0le, m_le0, m_0eq, if_pos, if_neg, pk_mul, nI_add, nI_1, m_1p, m_pred, m_inb, m_chkT, nI_clamp, Option.bind_some, decide_true, m_e2, m_e3, m_e4, m_e5, m_e6, m_e7, m_e8, m_e9, m_e10, m_e15, m_e16, m_e17, m_e31, m_e32, m_e37, m_e48, m_e54, m_e57, m_e64, m_e97, m_e105, m_e120, m_e525, m_e640, m_e2048]
    · simp (disch := omega) only [M_formula_l1_s, if_true, if_false, m_lt, m_le, m_eq, m_0lt, m_0le, m_le0, m_0eq, if_pos, if_neg, pk_mul, nI_add, nI_1, m_1p, m_pred, m_inb, m_chkT, nI_clamp, Option.bind_some, decide_true, m_e2, m_e3, m_e4, m_e5, m_e6, m_e7, m_e8, m_e9, m_e10, m_e15, m_e16, m_e17, m_e31, m_e32, m_e37, m_e48, m_e54, m_e57, m_e64, m_e97, m_e105, m_e120, m_e525, m_e640, m_e2048]
  have he : ∀ n A, M_formula_l1 (nI many, x, y, rd) (n + 1) (nI 17) A = some A := fun n A => by
    rw [M_formula_l1_s, if_pos (by decide)]
  obtain ⟨B, h1, h2⟩ := m_loop (M_formula_l1 (nI many, x, y, rd)) 37 17 (fun k => if k ≤ many then rd k else 0) hs he 17 0 m_N A rfl (by decide)
  exact ⟨B, h1, h2⟩
theorem m_parse {l_typed f_text z_cle f_rd : Nat → Int32} {L : Nat} (hL : L ≤ 120) (ht : ∀ j, j < L → l_typed j = f_text j) : (∃ j x y, j ≤ 120 ∧ F_L_readFormula m_N l_typed z_cle (nI L) = some (nI j, x) ∧ F_M_readsFormula m_N (nI L) f_text f_rd = some (-10 - nI j, y)) ∨ (∃ sz lt le sp tk rd, 1 ≤ sz ∧ F_L_readFormula m_N l_typed z_cle (nI L) = some (-1, nI sz, nI lt, le) ∧ F_M_readsFormula m_N (nI L) f_text f_rd = some (nI sz, sp, tk, upd rd 0 (nI sz)) ∧ m_fi 0 sz lt le rd) := by
  have hf0 : m_fi 1 0 0 z_cle f_rd := ⟨by omega, by omega, by omega, fun p hp => by omega, fun p hp => by omega, rfl, rfl⟩
  obtain ⟨r1, r2, e1, e2, e3⟩ := m_readF L hL l_typed f_text ht L 0 m_N m_N 1 0 0 z_cle f_rd (by omega) (by show _ < 5000; omega) (by show _ < 5000; omega) hf0
  have hbl := m_blk hL f_text (i := 0) (by omega)
  rw [Nat.sub_zero] at hbl
  have w1 : F_L_readFormula m_N l_typed z_cle (nI L) = g_el (fun a => a) (some r1) (fun o7 => (some ((if o7.1 = 0 then (-1 : Int32) else nI L), o7.2.1, o7.2.2.1, o7.2.2.2))) := by
    rw [← e1]
    rfl
  have w2 : F_M_readsFormula m_N (nI L) f_text f_rd = g_el (fun a => a) (some r2) (fun o8 => (some ((if o8.1 ≤ 0 then o8.2.1 else ((-10 : Int32) - nI L)), o8.2.2.1, o8.2.2.2.1, (upd o8.2.2.2.2 0 o8.2.1)))) := by
    rw [← e2]
    simp only [F_M_readsFormula]
    rw [show F_M_blanks m_N (nI L) 0 f_text = _ from hbl]
    rfl
  rcases e3 with ⟨j, x, y, hj, rfl, rfl⟩ | ⟨due, sz, lt, le, sp, tk, rd, rfl, rfl, hf⟩
  · exact Or.inl ⟨j, x, y, hj, w1, w2⟩
  · have g6 := hf.2.2.2.2.2.1
    by_cases hd : due = 0
    · subst hd
      have hs1 : 1 ≤ sz := by
        rcases Nat.eq_zero_or_pos sz with h | h
        · subst h
          simp only [m_D] at g6
          omega
        · exact h
      exact Or.inr ⟨sz, lt, le, sp, tk, rd, hs1, w1, w2, hf⟩
    · have hdb : due ≤ 17 := by have := hf.1; have := hf.2.2.1; omega
      refine Or.inl ⟨L, (nI sz, nI lt, le), (sp, tk, upd rd 0 (nI sz)), hL, w1.trans ?_, w2.trans ?_⟩
      · simp (disch := omega) only [g_el, Option.bind_some, m_0eq, if_neg]
      · simp (disch := omega) only [g_el, Option.bind_some, m_le0, if_neg]
theorem mc_formula {l_typed : Nat → Int32} {n_states : Int32} {n_moveCount : Int32} {n_stateLabel : Nat → Int32} {n_moveActor : Nat → Int32} {n_moveFrom : Nat → Int32} {n_moveTo : Nat → Int32} {n_csz : Int32} {n_clt : Int32} {n_cle : Nat → Int32} {n_ssz : Nat → Int32} {n_slt : Nat → Int32} {n_sle : Nat → Nat → Int32} {z_cle : Nat → Int32} {p_ix : Nat → Nat} {p_states : Nat → Int32} {p_moveCount : Nat → Int32} {p_stateLabel : Nat → Nat → Int32} {p_moveActor : Nat → Nat → Int32} {p_moveFrom : Nat → Nat → Int32} {p_moveTo : Nat → Nat → Int32} {p_csz : Nat → Int32} {p_clt : Nat → Int32} {p_cle : Nat → Nat → Int32} {p_ssz : Nat → Nat → Int32} {p_slt : Nat → Nat → Int32} {p_sle : Nat → Nat → Nat → Int32} {l_typedCount : Int32} {l_pastCount : Int32} {f_undone : Int32} {f_letters : Int32} {f_now : Nat → Int32} {f_past : Nat → Int32} {f_text : Nat → Int32} {f_read : Nat → Int32} (hT : m_IT l_typed l_typedCount f_letters f_text) (hW : m_W n_states n_moveCount n_stateLabel n_moveActor n_moveFrom n_moveTo n_csz n_clt n_cle n_ssz n_slt n_sle f_now) (hP : m_IP p_ix p_states p_moveCount p_stateLabel p_moveActor p_moveFrom p_moveTo p_csz p_clt p_cle p_ssz p_slt p_sle l_pastCount f_undone f_past) : ∃ oL oM, F_L_formula m_N l_typed n_states n_moveCount n_stateLabel n_moveActor n_moveFrom n_moveTo n_csz n_clt n_cle n_ssz n_slt n_sle z_cle p_ix p_states p_moveCount p_stateLabel p_moveActor p_moveFrom p_moveTo p_csz p_clt p_cle p_ssz p_slt p_sle l_typedCount l_pastCount = some oL ∧ F_M_formula m_N f_undone f_letters f_now f_past f_text f_read = some oM ∧ oL.1 = oM.1 ∧ m_IT l_typed oL.2.2.2.2.2.2.2.2.2.2.2.2.2.2.2.2.2.2.2.2.1 oM.2.2.1 f_text ∧ m_W n_states n_moveCount n_stateLabel n_moveActor n_moveFrom n_moveTo oL.2.1 oL.2.2.1 oL.2.2.2.1 n_ssz n_slt n_sle oM.2.2.2.2.2.1 ∧ m_IP oL.2.2.2.2.2.2.2.1 oL.2.2.2.2.2.2.2.2.1 oL.2.2.2.2.2.2.2.2.2.1 oL.2.2.2.2.2.2.2.2.2.2.1 oL.2.2.2.2.2.2.2.2.2.2.2.1 oL.2.2.2.2.2.2.2.2.2.2.2.2.1 oL.2.2.2.2.2.2.2.2.2.2.2.2.2.1 oL.2.2.2.2.2.2.2.2.2.2.2.2.2.2.1 oL.2.2.2.2.2.2.2.2.2.2.2.2.2.2.2.1 oL.2.2.2.2.2.2.2.2.2.2.2.2.2.2.2.2.1 oL.2.2.2.2.2.2.2.2.2.2.2.2.2.2.2.2.2.1 oL.2.2.2.2.2.2.2.2.2.2.2.2.2.2.2.2.2.2.1 oL.2.2.2.2.2.2.2.2.2.2.2.2.2.2.2.2.2.2.2.1 oL.2.2.2.2.2.2.2.2.2.2.2.2.2.2.2.2.2.2.2.2.2 oM.2.1 oM.2.2.2.2.2.2.1 := by
  obtain ⟨L, hL, rfl, rfl, ht⟩ := id hT
  rcases m_parse (z_cle := z_cle) (f_rd := f_read) hL (fun j hj => (ht j hj).1) with ⟨j, x, y, hj, h1, h2⟩ | ⟨sz, lt, le, sp, tk, rd, hs1, h1, h2, g1, g2, g3, g4, g5, g6, g7⟩
  · obtain ⟨fl, hfl⟩ : ∃ fl, (-10 : Int32) - nI j = fl := ⟨_, rfl⟩
    have hfn := m_flt j hj
    rw [hfl] at h2 hfn
    refine ⟨_, _, by simp (disch := omega) only [F_L_formula, h1, Option.bind_some, m_nm1, if_false, hfl] <;> rfl, by simp (disch := omega) only [F_M_formula, h2, Option.bind_some, hfn, if_false] <;> rfl, ?_⟩
    exact ⟨rfl, hT, hW, hP⟩
  · obtain ⟨pL, pM, q1, q2, q3⟩ := m_remember hW hP
    obtain ⟨B, b1, b2⟩ := m_formula_l1 sz g1 sp tk (upd rd 0 (nI sz)) f_now
    refine ⟨_, _, by simp only [F_L_formula, h1, Option.bind_some, if_true, q1, F_F_copy] <;> rfl, by simp (disch := omega) only [F_M_formula, h2, Option.bind_some, m_0le, if_true, q2, b1] <;> rfl, rfl, ⟨0, by omega, rfl, rfl, fun j hj => by omega⟩, ?_, q3⟩
    dsimp only
    obtain ⟨⟨s, hs, rfl, hr, hl, mv, k1, rfl, k3, k4⟩, hF, hS⟩ := hW
    refine ⟨⟨s, hs, rfl, ?_, fun j hj => ?_, mv, k1, rfl, ?_, fun j hj => ?_⟩, ⟨sz, hs1, g1, rfl, ?_, fun p hp => ?_, ?_, ?_, ?_⟩, fun k hk => ?_⟩
    · rw [b2, if_neg (by omega)]
      exact hr
    · rw [b2, if_neg (by omega)]
      exact hl j hj
    · rw [b2, if_neg (by omega)]
      exact k3
    · rw [b2, if_neg (by omega), b2, if_neg (by omega), b2, if_neg (by omega)]
      exact k4 j hj
    · show B (37 + 0) = nI sz
      rw [b2, if_pos (by omega), if_pos (by omega)]
      exact pk_us
    · show _ = B (37 + (1 + p))
      rw [b2, if_pos (by omega), if_pos (by omega), m_cpy (by omega), g4 p hp, pk_un (by omega)]
      exact congrArg rd (by omega)
    · exact m_WF_congr (le := le) (fun p hp => (m_cpy (by omega)).symm) ⟨g5, g6⟩
    · rw [← g7, m_LT_congr (fun p hp => (m_cpy (f := le) (g := n_cle) (n := 16) (j := p) (by omega)).symm) sz (Nat.le_refl _)]
    · rw [← m_LT_congr (fun p hp => (m_cpy (f := le) (g := n_cle) (n := 16) (j := p) (by omega)).symm) sz (Nat.le_refl _), g7]
      exact g2
    · exact (hS k hk).to (fun _ _ => rfl) (fun z hz => by rw [b2, if_neg (by omega)])
