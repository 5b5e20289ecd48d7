/-! how far a part reaches -/
def m_end (le : Nat → Int32) : Nat → Nat → Nat → Nat
  | 0, _, q => q
  | _ + 1, 0, q => q
  | f + 1, d + 1, q => m_end le f (d + (m_ar (le q)).toNat) (q + 1)
abbrev m_E (le : Nat → Int32) (n q : Nat) : Nat := m_end le (n - q) 1 q
theorem m_ar_le (c : Int32) : m_ar c ≤ 2 := by
  rcases m_arc c with ⟨k, hk, h, _⟩ | ⟨h, _⟩ <;> omega
theorem m_D_le (le : Nat → Int32) : ∀ q, m_D le q ≤ q + 1
  | 0 => by simp only [m_D]; omega
  | q + 1 => by
    have h1 := m_D_le le q
    have h2 := m_ar_le (le q)
    simp only [m_D]
    omega
theorem m_end0 (le : Nat → Int32) : ∀ f q, m_end le f 0 q = q
  | 0, _ => rfl
  | _ + 1, _ => rfl
theorem m_endD {le : Nat → Int32} {n : Nat} (hw : m_WF le n) : ∀ (f d q : Nat), q + f = n → (d : Int) ≤ m_D le q → q ≤ m_end le f d q ∧ m_end le f d q ≤ n ∧ m_D le (m_end le f d q) = m_D le q - d ∧ (1 ≤ d → q < m_end le f d q)
  | 0, d, q, h, hd => by
    have hq : q = n := by omega
    subst hq
    have := hw.2
    simp only [m_end]
    omega
  | f + 1, 0, q, h, hd => by
    simp only [m_end]
    omega
  | f + 1, d + 1, q, h, hd => by
    have h1 := hw.1 q (by omega)
    have h2 : m_D le (q + 1) = m_D le q + m_ar (le q) - 1 := rfl
    have h3 := m_endD hw f (d + (m_ar (le q)).toNat) (q + 1) (by omega) (by omega)
    simp only [m_end]
    omega
theorem m_endA {le : Nat → Int32} {n : Nat} (hw : m_WF le n) : ∀ (f a b q : Nat), q + f = n → ((a + b : Nat) : Int) ≤ m_D le q → m_end le f (a + b) q = m_end le (n - m_end le f a q) b (m_end le f a q)
  | 0, a, b, q, h, hd => by
    have hq : n - q = 0 := by omega
    simp only [m_end, hq]
  | f + 1, 0, b, q, h, hd => by
    have hq : n - q = f + 1 := by omega
    simp only [m_end, hq, Nat.zero_add]
  | f + 1, a + 1, b, q, h, hd => by
    have h1 := hw.1 q (by omega)
    have h2 : m_D le (q + 1) = m_D le q + m_ar (le q) - 1 := rfl
    have h3 := m_endA hw f (a + (m_ar (le q)).toNat) b (q + 1) (by omega) (by omega)
    rw [show a + 1 + b = a + b + 1 by omega]
    simp only [m_end]
    rw [show a + b + (m_ar (le q)).toNat = a + (m_ar (le q)).toNat + b by omega]
    exact h3
/-- where a part's parts are -/
theorem m_Es {le : Nat → Int32} {n : Nat} (hw : m_WF le n) {q : Nat} (hq : q < n) : q < m_E le n q ∧ m_E le n q ≤ n ∧
    ((m_ar (le q) = 0 ∧ m_E le n q = q + 1) ∨ (m_ar (le q) = 1 ∧ q + 1 < n ∧ m_E le n q = m_E le n (q + 1)) ∨ (m_ar (le q) = 2 ∧ q + 1 < n ∧ q + 1 < m_E le n (q + 1) ∧ m_E le n (q + 1) < n ∧ m_E le n q = m_E le n (m_E le n (q + 1)))) := by
  have h1 := hw.1 q hq
  have h0 := hw.2
  have h2 : m_D le (q + 1) = m_D le q + m_ar (le q) - 1 := rfl
  have h3 := m_endD hw (n - q) 1 q (by omega) (by omega)
  have h4 : m_E le n q = m_end le (n - (q + 1)) (m_ar (le q)).toNat (q + 1) := by
    show m_end le (n - q) 1 q = _
    rw [show n - q = n - (q + 1) + 1 by omega]
    simp only [m_end, Nat.zero_add]
  refine ⟨h3.2.2.2 (by omega), h3.2.1, ?_⟩
  have h5 := m_ar_le (le q)
  rcases (show m_ar (le q) = 0 ∨ m_ar (le q) = 1 ∨ m_ar (le q) = 2 by omega) with h6 | h6 | h6
  · refine Or.inl ⟨h6, ?_⟩
    rw [h4, h6]
    exact m_end0 _ _ _
  · have hn : q + 1 ≠ n := fun z => by rw [z] at h2; omega
    refine Or.inr (Or.inl ⟨h6, by omega, ?_⟩)
    rw [h4, h6]
    rfl
  · have hn : q + 1 ≠ n := fun z => by rw [z] at h2; omega
    have h7 := m_endD hw (n - (q + 1)) 1 (q + 1) (by omega) (by omega)
    have hn2 : m_E le n (q + 1) ≠ n := fun z => by rw [show m_end le (n - (q + 1)) 1 (q + 1) = n from z] at h7; omega
    refine Or.inr (Or.inr ⟨h6, by omega, h7.2.2.2 (by omega), by have := h7.2.1; show m_end le (n - (q + 1)) 1 (q + 1) < n; have h8 : m_end le (n - (q + 1)) 1 (q + 1) ≠ n := hn2; omega, ?_⟩)
    rw [h4, h6]
    exact m_endA hw (n - (q + 1)) 1 1 (q + 1) (by omega) (by omega)
theorem m_letterOf {n p : Nat} (hn : n ≤ 16) (hp : p < n) (le : Nat → Int32) : F_F_letterOf (nI n) le (nI p) = some (le p) := by
  simp (disch := omega) only [F_F_letterOf, if_true, if_false, m_lt, m_le, m_eq, m_0lt, m_0le, m_le0, m_0eq, if_pos, if_neg, pk_mul, nI_add, nI_1, m_1p, m_pred, m_inb, m_chkT, nI_clamp, Option.bind_some, decide_true, m_e2, m_e3, m_e4, m_e5, m_e6, m_e7, m_e8, m_e9, m_e10, m_e15, m_e16, m_e17, m_e31, m_e32, m_e37, m_e48, m_e54, m_e57, m_e64, m_e97, m_e105, m_e120, m_e525, m_e640, m_e2048]
theorem m_spanl {le : Nat → Int32} {n : Nat} (hn : n ≤ 16) (hw : m_WF le n) : ∀ (f d q m : Nat), q + f = n → (d : Int) ≤ m_D le q → f < m → F_spanOf_l1 (nI n) le m (nI d) (nI q) = some (nI (m_end le f d q))
  | 0, d, q, m + 1, h, hd, hm => by
    have hq : q = n := by omega
    subst hq
    have h0 := hw.2
    have hd0 : d = 0 := by omega
    subst hd0
    simp (disch := omega) only [F_spanOf_l1_s, m_le0, if_true, m_end]
  | f + 1, 0, q, m + 1, h, hd, hm => by
    simp (disch := omega) only [F_spanOf_l1_s, m_le0, if_true, m_end]
  | f + 1, d + 1, q, m + 1, h, hd, hm => by
    have h1 := hw.1 q (by omega)
    have h2 : m_D le (q + 1) = m_D le q + m_ar (le q) - 1 := rfl
    have h4 := m_D_le le q
    rcases m_arc (le q) with ⟨k, hk, k1, k2, _⟩ | ⟨k1, _⟩
    · have h3 := m_spanl hn hw f (d + (m_ar (le q)).toNat) (q + 1) m (by omega) (by omega) (by omega)
      have h5 := m_letterOf hn (show q < n by omega) le
      simp (disch := omega) only [F_spanOf_l1_s, m_le0, m_le, if_neg, h5, Option.bind_some, k2, m_due, nI_1, m_end]
      rw [show d + 1 + k - 1 = d + (m_ar (le q)).toNat by omega]
      exact h3
    · omega
theorem m_span {le : Nat → Int32} {n : Nat} (hn : n ≤ 16) (hw : m_WF le n) {p : Nat} (hp : p < n) : F_F_spanOf m_N (nI n) le (nI p) = some (nI (m_E le n p - p)) := by
  have h1 := hw.1 p hp
  have h2 := m_spanl hn hw (n - p) 1 p m_N (by omega) (by omega) (by show _ < 5000; omega)
  have h3 := (m_Es hw hp).1
  simp only [F_F_spanOf]
  rw [show F_spanOf_l1 (nI n) le m_N 1 (nI p) = _ from h2, Option.bind_some, pk_sub (show p ≤ m_end le (n - p) 1 p from Nat.le_of_lt h3)]
/-! the reference's rows of a formula -/
def m_ln (c x : Int32) : Int32 := if (c = 120 ∨ c = 102 ∨ c = 103 ∨ c = 117) then x else -9
theorem m_ln1 {c x : Int32} (h : m_lat c) : m_ln c x = x := if_pos h
theorem m_ln0 {c x : Int32} (h : ¬ m_lat c) : m_ln c x = -9 := if_neg h
theorem m_laysF1 {now le : Nat → Int32} {b n w l0 : Nat} (hb : b ≤ 88) (hn : n ≤ 16) (hw : w < 2) (h0 : now b = nI n) (hr : ∀ q, q < n → now (b + 1 + q) = le q) : ∀ (d p m : Nat) (A B : Nat → Int32), p + d = n → d < m → ∃ A' B', M_laysFormula_l1 now (nI b) (nI w) m (nI p) (nI (l0 + m_LT le p)) A B = some (nI (l0 + m_LT le n), A', B') ∧ (∀ q, p ≤ q → q < n → A' (16 * w + q) = le q ∧ B' (16 * w + q) = m_ln (le q) (nI (l0 + m_LT le q))) ∧ (∀ j, (j < 16 * w + p ∨ 16 * w + 16 ≤ j) → A' j = A j ∧ B' j = B j)
  | 0, p, m + 1, A, B, h, _ => by
    have hp : p = n := by omega
    subst hp
    exact ⟨A, B, by simp (disch := omega) only [M_laysFormula_l1_s, nI_clamp, h0, m_le, if_pos], fun q h1 h2 => by omega, fun j _ => ⟨rfl, rfl⟩⟩
  | d + 1, p, m + 1, A, B, h, hm => by
    have hrp := hr p (by omega)
    have hLT : m_LT le (p + 1) = m_LT le p + (if (le p = 120 ∨ le p = 102 ∨ le p = 103 ∨ le p = 117) then 1 else 0) := rfl
    rcases m_later (le p) with ⟨j1, j2, j3⟩ | ⟨j1, j2, j3⟩
    · rw [if_pos (show le p = 120 ∨ le p = 102 ∨ le p = 103 ∨ le p = 117 from j1)] at hLT
      obtain ⟨A', B', e1, e2, e3⟩ := m_laysF1 (l0 := l0) hb hn hw h0 hr d (p + 1) m (upd A (16 * w + p) (le p)) (upd B (16 * w + p) (nI (l0 + m_LT le p))) (by omega) (by omega)
      refine ⟨A', B', ?_, fun q h1 h2 => ?_, fun j hj => ?_⟩
      · simp (disch := omega) only [M_laysFormula_l1_s, nI_clamp, h0, m_le, if_neg, nI_1, nI_add, m_e16, pk_mul, m_inb, m_chkT, hrp, j3, m_n10, if_false]
        rw [← e1, hLT, Nat.add_assoc l0]
      · by_cases hq : q = p
        · subst hq
          have h4 := e3 (16 * w + q) (Or.inl (by omega))
          rw [h4.1, h4.2, pk_us, pk_us, m_ln1 j1]
          exact ⟨rfl, rfl⟩
        · exact e2 q (by omega) h2
      · have h4 := e3 j (by omega)
        rw [h4.1, h4.2, pk_un (by omega), pk_un (by omega)]
        exact ⟨rfl, rfl⟩
    · rw [if_neg (show ¬ (le p = 120 ∨ le p = 102 ∨ le p = 103 ∨ le p = 117) from j1)] at hLT
      obtain ⟨A', B', e1, e2, e3⟩ := m_laysF1 (l0 := l0) hb hn hw h0 hr d (p + 1) m (upd A (16 * w + p) (le p)) (upd B (16 * w + p) (-9)) (by omega) (by omega)
      refine ⟨A', B', ?_, fun q h1 h2 => ?_, fun j hj => ?_⟩
      · simp (disch := omega) only [M_laysFormula_l1_s, nI_clamp, h0, m_le, if_neg, nI_1, nI_add, m_e16, pk_mul, m_inb, m_chkT, hrp, j3, if_true, Int32.add_zero]
        rw [← e1, hLT, Nat.add_zero (m_LT le p)]
      · by_cases hq : q = p
        · subst hq
          have h4 := e3 (16 * w + q) (Or.inl (by omega))
          rw [h4.1, h4.2, pk_us, pk_us, m_ln0 j1]
          exact ⟨rfl, rfl⟩
        · exact e2 q (by omega) h2
      · have h4 := e3 j (by omega)
        rw [h4.1, h4.2, pk_un (by omega), pk_un (by omega)]
        exact ⟨rfl, rfl⟩
theorem m_n01' (n : Nat) : nI (n + 1) + (-1 : Int32) = nI n := by
  rw [← nI_1, Int32.add_assoc, show (1 : Int32) + -1 = 0 from rfl, Int32.add_zero]
theorem m_laysF3 {le : Nat → Int32} {n w : Nat} (hn : n ≤ 16) (hw2 : w < 2) (hw : m_WF le n) (x : Int32) (A B S : Nat → Int32) {p : Nat} (hp : p < n) (hA : A (16 * w + p) = le p) (hS : ∀ q, p < q → q < n → S (16 * w + q) = nI (m_E le n q - q)) (m : Nat) : M_laysFormula_l3 (x, A, B) (nI w) (nI p) S (m + 3) 1 0 = some (nI (m_E le n p - p)) := by
  obtain ⟨h1, h2, h3⟩ := m_Es hw hp
  rcases m_arc (le p) with ⟨k, hk, k1, k2, k3⟩ | ⟨k1, _⟩
  · have g1 : (16 : Int32) * nI w + nI p = nI (16 * w + p) := by rw [m_e16, pk_mul, nI_add]
    have s1 : ∀ m a b, M_laysFormula_l3 (x, A, B) (nI w) (nI p) S (m + 1) a b = if nI k ≤ b then some a else g_chk (g_inb (nI (16 * w + p) + a) 32) (M_laysFormula_l3 (x, A, B) (nI w) (nI p) S m (a + S ((nI (16 * w + p) + a)).toNatClampNeg) (b + 1)) := fun m a b => by
      rw [M_laysFormula_l3_s]
      simp (disch := omega) only [g1, nI_clamp, hA, k3]
    rcases h3 with ⟨g2, g3⟩ | ⟨g2, g3, g4⟩ | ⟨g2, g3, g4, g5, g6⟩
    · have hk0 : k = 0 := by omega
      subst hk0
      rw [s1, if_pos (show nI 0 ≤ 0 by decide), g3, Nat.add_sub_cancel_left]
      rfl
    · have hk0 : k = 1 := by omega
      subst hk0
      have h5 := (m_Es hw g3).1
      rw [s1, if_neg (by decide), nI_1, m_chk (m_inb (by omega) (by omega)), nI_clamp (by omega), show 16 * w + p + 1 = 16 * w + (p + 1) by omega, hS (p + 1) (by omega) g3, m_1p, s1, if_pos (by decide)]
      rw [g4]
      congr 2
      omega
    · have hk0 : k = 2 := by omega
      subst hk0
      have h5 := (m_Es hw g5).1
      rw [s1, if_neg (by decide), nI_1, m_chk (m_inb (by omega) (by omega)), nI_clamp (by omega), show 16 * w + p + 1 = 16 * w + (p + 1) by omega, hS (p + 1) (by omega) g3, m_1p, s1, if_neg (by decide), nI_add, m_chk (m_inb (by omega) (by omega)), nI_clamp (by omega), show 16 * w + p + (1 + (m_E le n (p + 1) - (p + 1))) = 16 * w + m_E le n (p + 1) by omega, hS (m_E le n (p + 1)) (by omega) g5, nI_add, s1, if_pos (by decide)]
      rw [g6]
      congr 2
      omega
  · have := (hw.1 p hp).1
    omega
theorem m_laysF2 {le : Nat → Int32} {n w : Nat} (hn : n ≤ 16) (hw2 : w < 2) (hw : m_WF le n) (x : Int32) (A B : Nat → Int32) (hA : ∀ q, q < n → A (16 * w + q) = le q) : ∀ (p m : Nat) (S : Nat → Int32), p ≤ n → p < m → (∀ q, p ≤ q → q < n → S (16 * w + q) = nI (m_E le n q - q)) → ∃ S', M_laysFormula_l2 m_N (nI w) (x, A, B) m (nI p + -1) S = some S' ∧ (∀ q, q < n → S' (16 * w + q) = nI (m_E le n q - q)) ∧ ∀ j, (j < 16 * w ∨ 16 * w + 16 ≤ j) → S' j = S j
  | 0, m + 1, S, h, _, hS => by
    exact ⟨S, by rw [M_laysFormula_l2_s, if_pos (by decide)], fun q hq => hS q (by omega) hq, fun _ _ => rfl⟩
  | p + 1, m + 1, S, h, hm, hS => by
    have h3 := m_laysF3 hn hw2 hw x A B S (p := p) (by omega) (hA p (by omega)) (fun q h1 h2 => hS q (by omega) h2) 4997
    obtain ⟨S', e1, e2, e3⟩ := m_laysF2 hn hw2 hw x A B hA p m (upd S (16 * w + p) (nI (m_E le n p - p))) (by omega) (by omega) (fun q h1 h2 => by
      by_cases hq : q = p
      · subst hq
        exact pk_us
      · rw [pk_un (by omega)]
        exact hS q (by omega) h2)
    refine ⟨S', ?_, e2, fun j hj => ?_⟩
    · rw [M_laysFormula_l2_s, m_n01', if_neg (nI_pos (by omega)), show M_laysFormula_l3 (x, A, B) (nI w) (nI p) S m_N 1 0 = _ from h3]
      simp (disch := omega) only [m_e16, pk_mul, nI_add, m_inb, m_chkT, Option.bind_some, nI_clamp]
      exact e1
    · rw [e3 j hj, pk_un (by omega)]
/-- a formula laid in the reference's rows -/
def m_lay (le : Nat → Int32) (n l0 w : Nat) (letter sizes lnum many : Nat → Int32) : Prop := many w = nI n ∧ ∀ p, p < n → letter (16 * w + p) = le p ∧ sizes (16 * w + p) = nI (m_E le n p - p) ∧ lnum (16 * w + p) = m_ln (le p) (nI (l0 + m_LT le p))
theorem m_laysF {now le : Nat → Int32} {b n w l0 : Nat} (hb : b ≤ 88) (hn : n ≤ 16) (hw2 : w < 2) (hw : m_WF le n) (h0 : now b = nI n) (hr : ∀ q, q < n → now (b + 1 + q) = le q) (letter sizes lnum many : Nat → Int32) : ∃ letter' sizes' lnum', F_M_laysFormula m_N (nI l0) now letter sizes lnum many (nI b) (nI w) = some (nI (l0 + m_LT le n), letter', sizes', lnum', upd many w (nI n)) ∧ m_lay le n l0 w letter' sizes' lnum' (upd many w (nI n)) ∧ ∀ j, (j < 16 * w ∨ 16 * w + 16 ≤ j) → letter' j = letter j ∧ sizes' j = sizes j ∧ lnum' j = lnum j := by
  obtain ⟨A, B, e1, e2, e3⟩ := m_laysF1 (l0 := l0) hb hn hw2 h0 hr n 0 m_N letter lnum (by omega) (by show _ < 5000; omega)
  obtain ⟨S, f1, f2, f3⟩ := m_laysF2 hn hw2 hw (nI (l0 + m_LT le n)) A B (fun q hq => (e2 q (by omega) hq).1) n m_N sizes (Nat.le_refl _) (by show _ < 5000; omega) (fun q h1 h2 => by omega)
  refine ⟨A, S, B, ?_, ⟨pk_us, fun p hp => ⟨(e2 p (by omega) hp).1, f2 p hp, (e2 p (by omega) hp).2⟩⟩, fun j hj => ⟨(e3 j (by omega)).1, f3 j hj, (e3 j (by omega)).2⟩⟩
  simp (disch := omega) only [F_M_laysFormula, m_inb, m_chkT, nI_clamp, h0]
  rw [show M_laysFormula_l1 now (nI b) (nI w) m_N 0 (nI l0) letter lnum = _ from e1, Option.bind_some, Int32.sub_eq_add_neg, show -(1 : Int32) = -1 from rfl, f1, Option.bind_some]
theorem m_laysO {now le : Nat → Int32} {n : Nat} (hn : n ≤ 16) (hw : m_WF le n) (h0 : now 37 = nI n) (hr : ∀ q, q < n → now (37 + 1 + q) = le q) (letter sizes lnum many : Nat → Int32) : ∃ letter' sizes' lnum' many', F_M_laysOne m_N now letter sizes lnum many = some (nI (m_LT le n), letter', sizes', lnum', many') ∧ m_lay le n 0 0 letter' sizes' lnum' many' ∧ many' 1 = 0 := by
  obtain ⟨A, S, B, e1, e2, e3⟩ := m_laysF (b := 37) (w := 0) (l0 := 0) (by omega) hn (by omega) hw h0 hr letter sizes lnum (upd many 1 0)
  refine ⟨A, S, B, _, ?_, e2, ?_⟩
  · simp only [F_M_laysOne]
    rw [show F_M_laysFormula m_N 0 now letter sizes lnum (upd many 1 0) 37 0 = _ from e1, Option.bind_some, Nat.zero_add]
  · rw [pk_un (by omega), pk_us]
/-! the part around a part -/
theorem m_outC {le : Nat → Int32} {n : Nat} (hn : n ≤ 16) (hw : m_WF le n) {p : Nat} (hp : p < n) : ∀ q m, q ≤ p → q < m → (∃ o, o < q ∧ F_outerOf_l1 m_N (nI n) le (nI p) m (nI q + -1) = some (.inl (nI o)) ∧ p < m_E le n o ∧ ∀ r, o < r → r < q → m_E le n r ≤ p) ∨ (F_outerOf_l1 m_N (nI n) le (nI p) m (nI q + -1) = some (.inr ()) ∧ ∀ r, r < q → m_E le n r ≤ p)
  | 0, m + 1, _, _ => Or.inr ⟨by rw [F_outerOf_l1_s, if_pos (by decide)], fun r hr => by omega⟩
  | q + 1, m + 1, h, hm => by
    have h1 := m_Es hw (show q < n by omega)
    have h2 : F_outerOf_l1 m_N (nI n) le (nI p) (m + 1) (nI (q + 1) + -1) = if m_E le n q ≤ p then F_outerOf_l1 m_N (nI n) le (nI p) m (nI q + -1) else some (.inl (nI q)) := by
      rw [F_outerOf_l1_s, m_n01', if_neg (nI_pos (by omega)), m_span hn hw (by omega), Option.bind_some, nI_add, show q + (m_E le n q - q) = m_E le n q by omega]
      simp (disch := omega) only [m_le]
    by_cases hc : m_E le n q ≤ p
    · rw [h2, if_pos hc]
      rcases m_outC hn hw hp q m (by omega) (by omega) with ⟨o, o1, o2, o3, o4⟩ | ⟨o2, o4⟩
      · refine Or.inl ⟨o, by omega, o2, o3, fun r h3 h4 => ?_⟩
        by_cases hr : r = q
        · subst hr
          exact hc
        · exact o4 r h3 (by omega)
      · refine Or.inr ⟨o2, fun r h4 => ?_⟩
        by_cases hr : r = q
        · subst hr
          exact hc
        · exact o4 r (by omega)
    · rw [h2, if_neg hc]
      exact Or.inl ⟨q, by omega, rfl, by omega, fun r h3 h4 => by omega⟩
def m_child (le : Nat → Int32) (n q p : Nat) : Prop := (1 ≤ m_ar (le q) ∧ p = q + 1) ∨ (m_ar (le q) = 2 ∧ p = m_E le n (q + 1))
theorem m_outM {le : Nat → Int32} {n : Nat} (hn : n ≤ 16) (hw : m_WF le n) {letter sizes lnum many : Nat → Int32} (hl : m_lay le n 0 0 letter sizes lnum many) {p : Nat} (hp : p < n) : ∀ d q m (f : Int32), q + d = p → d < m → ∃ o, M_outerOf_l1 (nI p) letter sizes m f (nI q) = some o ∧ ((o = f ∧ ∀ r, q ≤ r → r < p → ¬ m_child le n r p) ∨ ∃ r, q ≤ r ∧ r < p ∧ o = nI r ∧ m_child le n r p ∧ ∀ t, r < t → t < p → ¬ m_child le n t p)
  | 0, q, m + 1, f, h, _ => by
    have hq : q = p := by omega
    subst hq
    exact ⟨f, by rw [M_outerOf_l1_s, if_pos (Int32.le_refl _)], Or.inl ⟨rfl, fun r h1 h2 => by omega⟩⟩
  | d + 1, q, m + 1, f, h, hm => by
    have l1 := hl.2 q (by omega)
    have l2 := hl.2 (q + 1) (by omega)
    have hq1 := m_Es hw (show q + 1 < n by omega)
    simp only [Nat.mul_zero, Nat.zero_add] at l1 l2
    have hstep : ∀ o9 : Int32, ((o9 = 1 ∧ m_child le n q p) ∨ (o9 = 0 ∧ ¬ m_child le n q p)) → M_outerOf_l1 (nI p) letter sizes (m + 1) f (nI q) = M_outerOf_l1 (nI p) letter sizes m (if o9 = 0 then f else nI q) (nI (q + 1)) → ∃ o, M_outerOf_l1 (nI p) letter sizes (m + 1) f (nI q) = some o ∧ ((o = f ∧ ∀ r, q ≤ r → r < p → ¬ m_child le n r p) ∨ ∃ r, q ≤ r ∧ r < p ∧ o = nI r ∧ m_child le n r p ∧ ∀ t, r < t → t < p → ¬ m_child le n t p) := fun o9 ho he => by
      obtain ⟨o, e1, e2⟩ := m_outM hn hw hl hp d (q + 1) m (if o9 = 0 then f else nI q) (by omega) (by omega)
      refine ⟨o, he.trans e1, ?_⟩
      rcases ho with ⟨rfl, ho⟩ | ⟨rfl, ho⟩
      · rw [if_neg m_n10] at e2
        rcases e2 with ⟨e2, e3⟩ | ⟨r, e2, e3, e4, e5, e6⟩
        · exact Or.inr ⟨q, by omega, by omega, e2, ho, fun t h1 h2 => e3 t (by omega) h2⟩
        · exact Or.inr ⟨r, by omega, e3, e4, e5, e6⟩
      · rw [if_pos rfl] at e2
        rcases e2 with ⟨e2, e3⟩ | ⟨r, e2, e3, e4, e5, e6⟩
        · refine Or.inl ⟨e2, fun r h1 h2 => ?_⟩
          by_cases hr : r = q
          · subst hr
            exact ho
          · exact e3 r (by omega) h2
        · exact Or.inr ⟨r, by omega, e3, e4, e5, e6⟩
    have hbase : M_outerOf_l1 (nI p) letter sizes (m + 1) f (nI q) = _ := M_outerOf_l1_s (nI p) letter sizes m f (nI q)
    rcases m_arc (le q) with ⟨k, hk, k1, k2, k3⟩ | ⟨k1, _⟩
    · simp (disch := omega) only [m_le, if_neg, nI_1, m_inb, m_chkT, nI_clamp, l1.1, k3, l2.2.1, m_le0, m_e2, m_eq, nI_add, show q + 1 + (m_E le n (q + 1) - (q + 1)) = m_E le n (q + 1) from by omega] at hbase
      by_cases h0 : k = 0
      · subst h0
        simp only [if_true, if_false, show ¬ (0 : Nat) = 2 from by omega, Option.bind_some] at hbase
        exact hstep 0 (Or.inr ⟨rfl, fun z => by rcases z with ⟨z, _⟩ | ⟨z, _⟩ <;> omega⟩) hbase
      · rw [if_neg h0] at hbase
        by_cases hp1 : p = q + 1
        · rw [if_pos hp1, Option.bind_some] at hbase
          exact hstep 1 (Or.inl ⟨rfl, Or.inl ⟨by omega, hp1⟩⟩) hbase
        · rw [if_neg hp1] at hbase
          by_cases h2 : k = 2
          · rw [if_pos h2] at hbase
            by_cases hp2 : p = m_E le n (q + 1)
            · rw [if_pos hp2, Option.bind_some] at hbase
              exact hstep 1 (Or.inl ⟨rfl, Or.inr ⟨by omega, hp2⟩⟩) hbase
            · rw [if_neg hp2, Option.bind_some] at hbase
              exact hstep 0 (Or.inr ⟨rfl, fun z => by rcases z with ⟨_, z⟩ | ⟨_, z⟩ <;> omega⟩) hbase
          · rw [if_neg h2, Option.bind_some] at hbase
            exact hstep 0 (Or.inr ⟨rfl, fun z => by rcases z with ⟨_, z⟩ | ⟨z, _⟩ <;> omega⟩) hbase
    · have := (hw.1 q (by omega)).1
      omega
theorem m_outEq {le : Nat → Int32} {n : Nat} (hw : m_WF le n) {p : Nat} (hp : p < n) : (∀ r, r < p → m_child le n r p → p < m_E le n r) ∧ (∀ o, o < p → p < m_E le n o → (∀ r, o < r → r < p → m_E le n r ≤ p) → m_child le n o p) := by
  refine ⟨fun r hr hc => ?_, fun o ho h1 h2 => ?_⟩
  · obtain ⟨a1, a2, a3⟩ := m_Es hw (show r < n by omega)
    rcases hc with ⟨c1, c2⟩ | ⟨c1, c2⟩
    · rcases a3 with ⟨b1, b2⟩ | ⟨b1, b2, b3⟩ | ⟨b1, b2, b3, b4, b5⟩
      · omega
      · have := (m_Es hw b2).1
        omega
      · have := (m_Es hw b4).1
        omega
    · rcases a3 with ⟨b1, b2⟩ | ⟨b1, b2, b3⟩ | ⟨b1, b2, b3, b4, b5⟩
      · omega
      · omega
      · have := (m_Es hw b4).1
        omega
  · obtain ⟨a1, a2, a3⟩ := m_Es hw (show o < n by omega)
    rcases a3 with ⟨b1, b2⟩ | ⟨b1, b2, b3⟩ | ⟨b1, b2, b3, b4, b5⟩
    · omega
    · by_cases hc : p = o + 1
      · exact Or.inl ⟨by omega, hc⟩
      · have := h2 (o + 1) (by omega) (by omega)
        omega
    · by_cases hc : p = o + 1
      · exact Or.inl ⟨by omega, hc⟩
      · have h3 := h2 (o + 1) (by omega) (by omega)
        by_cases hd : p = m_E le n (o + 1)
        · exact Or.inr ⟨b1, hd⟩
        · have h4 := h2 (m_E le n (o + 1)) (by omega) (by omega)
          omega
theorem m_outer {le : Nat → Int32} {n : Nat} (hn : n ≤ 16) (hw : m_WF le n) {letter sizes lnum many : Nat → Int32} (hl : m_lay le n 0 0 letter sizes lnum many) {p : Nat} (hp : p < n) : ∃ o, F_F_outerOf m_N (nI n) le (nI p) = some o ∧ F_M_outerOf m_N letter sizes (nI p) = some o := by
  obtain ⟨q1, q2⟩ := m_outEq hw hp
  have hc := m_outC hn hw hp p m_N (Nat.le_refl _) (by show _ < 5000; omega)
  obtain ⟨o, e1, e2⟩ := m_outM hn hw hl hp p 0 m_N (-9) (by omega) (by show _ < 5000; omega)
  have w1 : ∀ r, F_outerOf_l1 m_N (nI n) le (nI p) m_N (nI p + -1) = some r → F_F_outerOf m_N (nI n) le (nI p) = g_el (fun a => a) (some r) (fun _ => some (-9)) := fun r hr => by
    simp only [F_F_outerOf]
    rw [Int32.sub_eq_add_neg, show -(1 : Int32) = -1 from rfl, hr]
  have w2 : F_M_outerOf m_N letter sizes (nI p) = some o := by
    simp only [F_M_outerOf]
    rw [show M_outerOf_l1 (nI p) letter sizes m_N (-9) 0 = _ from e1, Option.bind_some]
  refine ⟨o, ?_, w2⟩
  rcases hc with ⟨c, c1, c2, c3, c4⟩ | ⟨c2, c4⟩
  · rw [w1 _ c2]
    show some (nI c) = some o
    rcases e2 with ⟨e2, e3⟩ | ⟨r, _, e3, e4, e5, e6⟩
    · exact absurd (q2 c c1 c3 c4) (e3 c (by omega) c1)
    · have h1 := q1 r e3 e5
      have h2 := q2 c c1 c3 c4
      have h3 : r = c := by
        rcases Nat.lt_trichotomy r c with h | h | h
        · exact absurd h2 (e6 c h c1)
        · exact h
        · have := c4 r h e3
          omega
      rw [e4, h3]
  · rw [w1 _ c2]
    show some (-9) = some o
    rcases e2 with ⟨e2, e3⟩ | ⟨r, _, e3, e4, e5, e6⟩
    · rw [e2]
    · have h1 := q1 r e3 e5
      have := c4 r e3
      omega
theorem mc_part {n_states : Int32} {n_moveCount : Int32} {n_stateLabel : Nat → Int32} {n_moveActor : Nat → Int32} {n_moveFrom : Nat → Int32} {n_moveTo : Nat → Int32} {n_csz : Int32} {n_clt : Int32} {n_cle : Nat → Int32} {n_ssz : Nat → Int32} {n_slt : Nat → Int32} {n_sle : Nat → Nat → Int32} {f_laters : Int32} {f_now : Nat → Int32} {f_letter : Nat → Int32} {f_sizes : Nat → Int32} {f_laterNumber : Nat → Int32} {f_many : Nat → Int32} (hW : m_W n_states n_moveCount n_stateLabel n_moveActor n_moveFrom n_moveTo n_csz n_clt n_cle n_ssz n_slt n_sle f_now) (a1 : Int32) (a2 : Int32) : ∃ oL oM, F_L_part m_N n_csz n_cle a1 a2 = some oL ∧ F_M_part m_N f_laters f_now f_letter f_sizes f_laterNumber f_many a1 a2 = some oM ∧ oL = oM.1 := by
  obtain ⟨-, ⟨n, hn1, hn, rfl, hr0, hr, hw, rfl, h3⟩, -⟩ := hW
  have hr0' : f_now 37 = nI n := hr0
  obtain ⟨A, S, B, mn, e1, e2, e3⟩ := m_laysO hn hw hr0' (fun q hq => ((hr q hq).trans (congrArg f_now (by omega))).symm) f_letter f_sizes f_laterNumber f_many
  have hbad : (F_M_in a1 0 (f_now 37 - 1) = 0) → (a1 < 0 ∨ ¬ a1 < nI n) → ∃ oL oM, F_L_part m_N (nI n) n_cle a1 a2 = some oL ∧ F_M_part m_N f_laters f_now f_letter f_sizes f_laterNumber f_many a1 a2 = some oM ∧ oL = oM.1 := fun h1 h2 => by
    refine ⟨-1, _, ?_, by simp only [F_M_part, h1, if_true] <;> rfl, rfl⟩
    by_cases h4 : a1 < 0
    · simp only [F_L_part, if_pos h4]
    · rcases h2 with h2 | h2
      · exact absurd h2 h4
      · simp only [F_L_part, if_neg h4, if_neg h2]
  rcases m_case a1 with ha | ⟨p, hp, rfl⟩
  · exact hbad (m_in_neg ha) (Or.inl ha)
  · by_cases hpn : p < n
    · have i1 : F_M_in (nI p) 0 (f_now 37 - 1) = 1 := by
        rw [hr0', m_pred hn1]
        exact m_in1 (by omega) (by omega)
      have l1 := e2.2 p hpn
      simp only [Nat.mul_zero, Nat.zero_add] at l1
      by_cases w0 : a2 = 0
      · subst w0
        exact ⟨n_cle p, _, by simp (disch := omega) only [F_L_part, m_0lt, m_lt, if_false, if_pos, if_true, m_letterOf hn hpn, Option.bind_some], by simp (disch := omega) only [F_M_part, i1, m_n10, if_false, show ¬ F_M_in 0 0 3 = 0 from by decide, e1, Option.bind_some, if_true, m_inb, m_chkT, nI_clamp] <;> rfl, l1.1.symm⟩
      · by_cases w1 : a2 = 1
        · subst w1
          exact ⟨_, _, by simp (disch := omega) only [F_L_part, m_0lt, m_lt, if_false, if_pos, if_true, m_span hn hw hpn, Option.bind_some, m_n10] <;> rfl, by simp (disch := omega) only [F_M_part, i1, m_n10, if_false, show ¬ F_M_in 1 0 3 = 0 from by decide, e1, Option.bind_some, if_true, m_inb, m_chkT, nI_clamp] <;> rfl, l1.2.1.symm⟩
        · by_cases w2 : a2 = 2
          · subst w2
            obtain ⟨o, o1, o2⟩ := m_outer hn hw e2 hpn
            exact ⟨o, _, by simp (disch := omega) only [F_L_part, m_0lt, m_lt, if_false, if_pos, if_true, o1, Option.bind_some, show ¬ (2 : Int32) = 0 from by decide, show ¬ (2 : Int32) = 1 from by decide], by simp (disch := omega) only [F_M_part, i1, m_n10, if_false, show ¬ F_M_in 2 0 3 = 0 from by decide, e1, Option.bind_some, if_true, show ¬ (2 : Int32) = 0 from by decide, show ¬ (2 : Int32) = 1 from by decide, o2] <;> rfl, rfl⟩
          · by_cases w3 : a2 = 3
            · subst w3
              rcases m_later (n_cle p) with ⟨j1, j2, j3⟩ | ⟨j1, j2, j3⟩
              · exact ⟨1, _, by simp (disch := omega) only [F_L_part, m_0lt, m_lt, if_false, if_pos, if_true, m_letterOf hn hpn, Option.bind_some, show ¬ (3 : Int32) = 0 from by decide, show ¬ (3 : Int32) = 1 from by decide, show ¬ (3 : Int32) = 2 from by decide, j2, show F_L_bit 1 = 1 from by decide], by simp (disch := omega) only [F_M_part, i1, m_n10, if_false, show ¬ F_M_in 3 0 3 = 0 from by decide, e1, Option.bind_some, if_true, show ¬ (3 : Int32) = 0 from by decide, show ¬ (3 : Int32) = 1 from by decide, show ¬ (3 : Int32) = 2 from by decide, m_inb, m_chkT, nI_clamp, l1.1, j3] <;> rfl, rfl⟩
              · exact ⟨0, _, by simp (disch := omega) only [F_L_part, m_0lt, m_lt, if_false, if_pos, if_true, m_letterOf hn hpn, Option.bind_some, show ¬ (3 : Int32) = 0 from by decide, show ¬ (3 : Int32) = 1 from by decide, show ¬ (3 : Int32) = 2 from by decide, j2, show F_L_bit 0 = 0 from by decide], by simp (disch := omega) only [F_M_part, i1, m_n10, if_false, show ¬ F_M_in 3 0 3 = 0 from by decide, e1, Option.bind_some, if_true, show ¬ (3 : Int32) = 0 from by decide, show ¬ (3 : Int32) = 1 from by decide, show ¬ (3 : Int32) = 2 from by decide, m_inb, m_chkT, nI_clamp, l1.1, j3] <;> rfl, rfl⟩
            · have i2 : F_M_in a2 0 3 = 0 := by
                rcases m_case a2 with ha | ⟨q, hq, rfl⟩
                · exact m_in_neg ha
                · have hq4 : 3 < q := by
                    refine Nat.lt_of_not_le fun z => ?_
                    rcases (show q = 0 ∨ q = 1 ∨ q = 2 ∨ q = 3 by omega) with rfl | rfl | rfl | rfl
                    · exact w0 rfl
                    · exact w1 rfl
                    · exact w2 rfl
                    · exact w3 rfl
                  exact m_in0 hq4 hq
              exact ⟨-1, _, by simp (disch := omega) only [F_L_part, m_0lt, m_lt, if_false, if_pos, w0, w1, w2, w3], by simp only [F_M_part, i1, m_n10, if_false, i2, if_true] <;> rfl, rfl⟩
    · refine hbad ?_ (Or.inr ?_)
      · rw [hr0', m_pred hn1]
        exact m_in0 (by omega) hp
      · rw [m_lt hp (by omega)]
        exact hpn
theorem mc_count {l_typed : Nat → Int32} {l_shown : Nat → Int32} {n_states : Int32} {n_moveCount : Int32} {n_stateLabel : Nat → Int32} {n_moveActor : Nat → Int32} {n_moveFrom : Nat → Int32} {n_moveTo : Nat → Int32} {n_csz : Int32} {n_clt : Int32} {n_cle : Nat → Int32} {n_ssz : Nat → Int32} {n_slt : Nat → Int32} {n_sle : Nat → Nat → Int32} {p_ix : Nat → Nat} {p_states : Nat → Int32} {p_moveCount : Nat → Int32} {p_stateLabel : Nat → Nat → Int32} {p_moveActor : Nat → Nat → Int32} {p_moveFrom : Nat → Nat → Int32} {p_moveTo : Nat → Nat → Int32} {p_csz : Nat → Int32} {p_clt : Nat → Int32} {p_cle : Nat → Nat → Int32} {p_ssz : Nat → Nat → Int32} {p_slt : Nat → Nat → Int32} {p_sle : Nat → Nat → Nat → Int32} {l_typedCount : Int32} {l_shownCount : Int32} {l_pastCount : Int32} {f_undone : Int32} {f_letters : Int32} {f_showing : Int32} {f_laters : Int32} {f_now : Nat → Int32} {f_past : Nat → Int32} {f_text : Nat → Int32} {f_shown : Nat → Int32} {f_letter : Nat → Int32} {f_sizes : Nat → Int32} {f_laterNumber : Nat → Int32} {f_many : Nat → Int32} (hT : m_IT l_typed l_typedCount f_letters f_text) (hS : m_IS l_shown l_shownCount f_showing f_shown) (hW : m_W n_states n_moveCount n_stateLabel n_moveActor n_moveFrom n_moveTo n_csz n_clt n_cle n_ssz n_slt n_sle f_now) (hP : m_IP p_ix p_states p_moveCount p_stateLabel p_moveActor p_moveFrom p_moveTo p_csz p_clt p_cle p_ssz p_slt p_sle l_pastCount f_undone f_past) (a1 : Int32) : ∃ oL oM, some (F_L_count n_states n_moveCount n_csz n_clt l_typedCount l_shownCount l_pastCount a1) = some oL ∧ F_M_count m_N f_undone f_letters f_showing f_laters f_now f_letter f_sizes f_laterNumber f_many a1 = some oM ∧ oL = oM.1 := by
  obtain ⟨⟨s, hs, rfl, hr, hl, mv, k1, rfl, k3, k4⟩, ⟨n, hn1, hn, rfl, hr0, hr1, hw, rfl, h3⟩, -⟩ := hW
  have hr0' : f_now 37 = nI n := hr0
  obtain ⟨A, S, B, mn, e1, e2, e3⟩ := m_laysO hn hw hr0' (fun q hq => ((hr1 q hq).trans (congrArg f_now (by omega))).symm) f_letter f_sizes f_laterNumber f_many
  obtain ⟨t, ht, rfl, rfl, _⟩ := hT
  obtain ⟨w, hw', rfl, rfl, _⟩ := hS
  obtain ⟨u, hu, rfl, rfl, _⟩ := hP
  by_cases c0 : a1 = 0
  · exact ⟨_, _, rfl, by simp only [F_M_count, if_pos c0] <;> rfl, by simp only [F_L_count, if_pos c0]; exact hr.symm⟩
  by_cases c1 : a1 = 1
  · exact ⟨_, _, rfl, by simp only [F_M_count, if_neg c0, if_pos c1] <;> rfl, by simp only [F_L_count, if_neg c0, if_pos c1]; exact k3.symm⟩
  by_cases c2 : a1 = 2
  · exact ⟨_, _, rfl, by simp only [F_M_count, if_neg c0, if_neg c1, if_pos c2] <;> rfl, by simp only [F_L_count, if_neg c0, if_neg c1, if_pos c2]; exact hr0'.symm⟩
  by_cases c3 : a1 = 3
  · exact ⟨_, _, rfl, by simp only [F_M_count, if_neg c0, if_neg c1, if_neg c2, if_pos c3, F_M_latersNow, e1, Option.bind_some] <;> rfl, by simp only [F_L_count, if_neg c0, if_neg c1, if_neg c2, if_pos c3]⟩
  by_cases c4 : a1 = 4
  · exact ⟨_, _, rfl, by simp only [F_M_count, if_neg c0, if_neg c1, if_neg c2, if_neg c3, if_pos c4] <;> rfl, by simp only [F_L_count, if_neg c0, if_neg c1, if_neg c2, if_neg c3, if_pos c4]⟩
  by_cases c5 : a1 = 5
  · exact ⟨_, _, rfl, by simp only [F_M_count, if_neg c0, if_neg c1, if_neg c2, if_neg c3, if_neg c4, if_pos c5] <;> rfl, by simp only [F_L_count, if_neg c0, if_neg c1, if_neg c2, if_neg c3, if_neg c4, if_pos c5]⟩
  by_cases c6 : a1 = 6
  · exact ⟨_, _, rfl, by simp only [F_M_count, if_neg c0, if_neg c1, if_neg c2, if_neg c3, if_neg c4, if_neg c5, if_pos c6] <;> rfl, by simp only [F_L_count, if_neg c0, if_neg c1, if_neg c2, if_neg c3, if_neg c4, if_neg c5, if_pos c6]⟩
  · exact ⟨_, _, rfl, by simp only [F_M_count, if_neg c0, if_neg c1, if_neg c2, if_neg c3, if_neg c4, if_neg c5, if_neg c6] <;> rfl, by simp only [F_L_count, if_neg c0, if_neg c1, if_neg c2, if_neg c3, if_neg c4, if_neg c5, if_neg c6]⟩
