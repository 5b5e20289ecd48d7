/-! the reference: a told row judged -/
def m_nx (L k i : Nat) : Nat := if i + 1 < L then i + 1 else k
def m_itr (nx : Nat → Nat) : Nat → Nat → Nat
  | 0, i => i
  | m + 1, i => m_itr nx m (nx i)
theorem m_nx_lt {L k i : Nat} (hk : k < L) : m_nx L k i < L := by
  unfold m_nx
  by_cases h : i + 1 < L
  · rw [if_pos h]
    exact h
  · rw [if_neg h]
    exact hk
def m_S (L : Nat) (F : Nat → Bool → Bool) (y : Nat → Bool) (c : Bool) : Prop := (∀ j, j + 1 < L → y j = F j (y (j + 1))) ∧ y (L - 1) = F (L - 1) c
theorem m_S_eq {L : Nat} {F : Nat → Bool → Bool} {y y' : Nat → Bool} {c : Bool} (h : m_S L F y c) (h' : m_S L F y' c) : ∀ d j, j + d = L - 1 → y j = y' j
  | 0, j, e => by
    have : j = L - 1 := by omega
    subst this
    rw [h.2, h'.2]
  | d + 1, j, e => by
    rw [h.1 j (by omega), h'.1 j (by omega), m_S_eq h h' d (j + 1) (by omega)]
theorem m_S_mono {L : Nat} {F : Nat → Bool → Bool} {y y' : Nat → Bool} {β : Bool} (hm : ∀ j, F j β = !β → F j (!β) = !β) (h : m_S L F y β) (h' : m_S L F y' (!β)) : ∀ d j, j + d = L - 1 → y j = !β → y' j = !β
  | 0, j, e, z => by
    have : j = L - 1 := by omega
    subst this
    rw [h.2] at z
    rw [h'.2]
    exact hm _ z
  | d + 1, j, e, z => by
    have ih := m_S_mono hm h h' d (j + 1) (by omega)
    rw [h.1 j (by omega)] at z
    rw [h'.1 j (by omega)]
    by_cases hy : y (j + 1) = !β
    · rw [ih hy, ← hy]
      exact z.trans hy.symm
    · have hy2 : y (j + 1) = β := by
        revert hy
        cases y (j + 1) <;> cases β <;> decide
      rw [hy2] at z
      by_cases hy' : y' (j + 1) = !β
      · rw [hy']
        exact hm _ z
      · have hy3 : y' (j + 1) = β := by
          revert hy'
          cases y' (j + 1) <;> cases β <;> decide
        rw [hy3]
        exact z
theorem m_S_fix {L k : Nat} (hk : k < L) {F : Nat → Bool → Bool} {y y' : Nat → Bool} {β : Bool} (hm : ∀ j, F j β = !β → F j (!β) = !β) (h : m_S L F y β) (h' : m_S L F y' (y k)) : m_S L F y' (y' k) := by
  have e : y' k = y k := by
    by_cases hy : y k = !β
    · rw [hy] at h'
      rw [hy]
      exact m_S_mono hm h h' (L - 1 - k) k (by omega) hy
    · have hy2 : y k = β := by
        revert hy
        cases y k <;> cases β <;> decide
      rw [hy2] at h'
      exact m_S_eq h' h (L - 1 - k) k (by omega)
  rw [e]
  exact h'
theorem m_S_stay {L k : Nat} (hk : k < L) {F : Nat → Bool → Bool} {y y' : Nat → Bool} (h : m_S L F y (y k)) (h' : m_S L F y' (y k)) : m_S L F y' (y' k) := by
  rw [m_S_eq h' h (L - 1 - k) k (by omega)]
  exact h'
theorem m_S_nx {L k : Nat} (hk : k < L) {F : Nat → Bool → Bool} {y : Nat → Bool} (h : m_S L F y (y k)) {i : Nat} (hi : i < L) : y i = F i (y (m_nx L k i)) := by
  unfold m_nx
  by_cases hL : i + 1 < L
  · rw [if_pos hL]
    exact h.1 i hL
  · rw [if_neg hL]
    have : i = L - 1 := by omega
    subst this
    exact h.2
/-- one telling of a later part -/
def m_tl (c : Int32) (a b : Nat → Bool) (nx : Nat → Nat) (i : Nat) (x : Bool) : Bool := if c = 120 then a (nx i) else if c = 102 then a i || x else if c = 103 then a i && x else b i || (a i && x)
def m_be (c : Int32) : Bool := decide (c = 103)
def m_Q (c : Int32) (a b : Nat → Bool) (i : Nat) : Prop := if c = 120 then True else if c = 102 then a i = true else if c = 103 then a i = false else b i = true
theorem m_tl_mono {c : Int32} (hc : m_lat c) (a b : Nat → Bool) (nx : Nat → Nat) (j : Nat) : m_tl c a b nx j (m_be c) = !m_be c → m_tl c a b nx j (!m_be c) = !m_be c := by
  rcases hc with rfl | rfl | rfl | rfl
  · exact fun z => z
  · show (a j || false) = !false → (a j || !false) = !false
    cases a j <;> decide
  · show (a j && true) = !true → (a j && !true) = !true
    cases a j <;> decide
  · show (b j || (a j && false)) = !false → (b j || (a j && !false)) = !false
    cases a j <;> cases b j <;> decide
theorem m_tl_ful {c : Int32} (hc : m_lat c) (a b : Nat → Bool) (nx : Nat → Nat) (i : Nat) (x : Bool) (hx : x = !m_be c → ∃ m, m_Q c a b (m_itr nx m (nx i))) : m_tl c a b nx i x = !m_be c → ∃ m, m_Q c a b (m_itr nx m i) := by
  intro z
  have hsucc : x = !m_be c → ∃ m, m_Q c a b (m_itr nx m i) := fun w => by
    obtain ⟨m, hm⟩ := hx w
    exact ⟨m + 1, hm⟩
  rcases hc with rfl | rfl | rfl | rfl
  · exact ⟨0, trivial⟩
  · have z' : (a i || x) = true := z
    cases ha : a i with
    | true => exact ⟨0, ha⟩
    | false =>
      rw [ha, Bool.false_or] at z'
      exact hsucc z'
  · have z' : (a i && x) = false := z
    cases ha : a i with
    | false => exact ⟨0, ha⟩
    | true =>
      rw [ha, Bool.true_and] at z'
      exact hsucc z'
  · have z' : (b i || (a i && x)) = true := z
    cases hb : b i with
    | true => exact ⟨0, hb⟩
    | false =>
      rw [hb, Bool.false_or] at z'
      refine hsucc ?_
      revert z'
      cases a i <;> cases x <;> decide
theorem m_val_ge {le : Nat → Int32} {n : Nat} (hw : m_WF le n) {lab : Int32} {g g' v v' : Nat → Bool} (h : m_val le n lab g v) (h' : m_val le n lab g' v') {p0 : Nat} (hg : ∀ p, p0 ≤ p → p < n → m_lat (le p) → g p = g' p) : ∀ d p, p + d = n → 0 < d → p0 ≤ p → v p = v' p := by
  intro d
  induction d using Nat.strongRecOn with
  | ind d ih =>
    intro p hp hd hp0
    obtain ⟨h1, h2, h3⟩ := m_Es hw (show p < n by omega)
    rw [h p (by omega), h' p (by omega)]
    have hf : 1 ≤ m_ar (le p) → v (p + 1) = v' (p + 1) := fun z => by
      rcases h3 with ⟨b1, b2⟩ | ⟨b1, b2, b3⟩ | ⟨b1, b2, b3, b4, b5⟩
      · omega
      · exact ih (n - (p + 1)) (by omega) (p + 1) (by omega) (by omega) (by omega)
      · exact ih (n - (p + 1)) (by omega) (p + 1) (by omega) (by omega) (by omega)
    have hs : m_ar (le p) = 2 → v (m_E le n (p + 1)) = v' (m_E le n (p + 1)) := fun z => by
      rcases h3 with ⟨b1, b2⟩ | ⟨b1, b2, b3⟩ | ⟨b1, b2, b3, b4, b5⟩
      · omega
      · omega
      · exact ih (n - m_E le n (p + 1)) (by omega) (m_E le n (p + 1)) (by omega) (by omega) (by omega)
    have hgp := hg p hp0 (by omega)
    have hlt := m_letters (hw.1 p (by omega)).1
    generalize le p = c at hlt hf hs hgp ⊢
    rcases hlt with rfl | rfl | rfl | rfl | rfl | rfl | rfl | rfl | rfl | rfl | rfl | rfl
    · rfl
    · rfl
    · rfl
    · rfl
    · rfl
    · show (!v (p + 1)) = (!v' (p + 1))
      rw [hf (by decide)]
    · show (v (p + 1) && v (m_E le n (p + 1))) = (v' (p + 1) && v' (m_E le n (p + 1)))
      rw [hf (by decide), hs (by decide)]
    · show (v (p + 1) || v (m_E le n (p + 1))) = (v' (p + 1) || v' (m_E le n (p + 1)))
      rw [hf (by decide), hs (by decide)]
    · exact hgp (Or.inl rfl)
    · exact hgp (Or.inr (Or.inl rfl))
    · exact hgp (Or.inr (Or.inr (Or.inl rfl)))
    · exact hgp (Or.inr (Or.inr (Or.inr rfl)))
def m_pv (letter sizes lnum many : Nat → Int32) (lab gs : Int32) : Int32 := (F_M_partsAt m_N letter sizes lnum many 0 lab gs).getD 0
/-- one formula laid -/
def m_one (le : Nat → Int32) (n : Nat) (letter sizes lnum many : Nat → Int32) : Prop := n ≤ 16 ∧ m_WF le n ∧ m_LT le n ≤ 3 ∧ m_lay le n 0 0 letter sizes lnum many
section
variable {le : Nat → Int32} {n : Nat} {letter sizes lnum many : Nat → Int32}
theorem m_pvs (ho : m_one le n letter sizes lnum many) (lab gs : Int32) : F_M_partsAt m_N letter sizes lnum many 0 lab gs = some (m_pv letter sizes lnum many lab gs) ∧ m_val le n lab (fun q => m_b gs (m_LT le q)) (m_b (m_pv letter sizes lnum many lab gs)) ∧ ∀ q, n ≤ q → m_b (m_pv letter sizes lnum many lab gs) q = false := by
  obtain ⟨hn, hw, h3, hl⟩ := ho
  obtain ⟨s, a, b, c⟩ := m_parts (w := 0) (by omega) ⟨hn, Or.inr hw⟩ hl (by omega) lab gs
  have a' : F_M_partsAt m_N letter sizes lnum many 0 lab gs = some s := a
  have e : m_pv letter sizes lnum many lab gs = s := by
    unfold m_pv
    rw [a']
    rfl
  rw [e]
  refine ⟨a', ?_, c⟩
  simp only [Nat.zero_add] at b
  exact b
theorem m_pv_ge (ho : m_one le n letter sizes lnum many) {lab gs gs' : Int32} {p0 : Nat} (hg : ∀ q, p0 ≤ q → q < n → m_lat (le q) → m_b gs (m_LT le q) = m_b gs' (m_LT le q)) : ∀ q, p0 ≤ q → m_b (m_pv letter sizes lnum many lab gs) q = m_b (m_pv letter sizes lnum many lab gs') q := by
  intro q hq
  obtain ⟨-, a1, a2⟩ := m_pvs ho lab gs
  obtain ⟨-, b1, b2⟩ := m_pvs ho lab gs'
  by_cases hqn : q < n
  · exact m_val_ge ho.2.1 a1 b1 hg (n - q) q (by omega) (by omega) hq
  · rw [a2 q (by omega), b2 q (by omega)]
theorem m_pv_lat (ho : m_one le n letter sizes lnum many) (lab gs : Int32) {p : Nat} (hp : p < n) (hl : m_lat (le p)) : m_b (m_pv letter sizes lnum many lab gs) p = m_b gs (m_LT le p) := m_val_lat (m_pvs ho lab gs).2.1 hp hl
theorem m_setb (x : Int32) {J b : Nat} (hJ : J < 3) (hb : b < 32) (y : Bool) : m_b ((x &&& (g_ishl 1 (nI J) ^^^ -1)) ||| (if (if y = true then (1 : Int32) else 0) = 0 then (0 : Int32) else g_ishl 1 (nI J))) b = if b = J then y else m_b x b := by
  rw [m_b_or, m_b_and, m_b_not _ hb, m_b_shl (by omega) hb]
  cases y with
  | true =>
    rw [if_neg (by decide), m_b_shl (by omega) hb]
    by_cases h : b = J
    · rw [if_pos h, decide_eq_true h, Bool.or_true]
    · rw [if_neg h, decide_eq_false h, Bool.not_false, Bool.and_true, Bool.or_false]
  | false =>
    rw [if_pos (by decide), m_b_0]
    by_cases h : b = J
    · rw [if_pos h, decide_eq_true h, Bool.not_true, Bool.and_false, Bool.or_false]
    · rw [if_neg h, decide_eq_false h, Bool.not_false, Bool.and_true, Bool.or_false]
theorem m_tl3step (ho : m_one le n letter sizes lnum many) {L k p i : Nat} (hL : L ≤ 8) (hk : k < L) (hp : p < n) (hlat : m_lat (le p)) (hi : i < L) (shown g : Nat → Int32) (m : Nat) : M_tellsLater_l3 m_N letter sizes lnum many shown (nI L) (nI k) (nI p) (m + 1) (nI i) g = M_tellsLater_l3 m_N letter sizes lnum many shown (nI L) (nI k) (nI p) m (nI i + -1) (upd g i ((g i &&& (g_ishl 1 (nI (m_LT le p)) ^^^ -1)) ||| (if (if m_tl (le p) (fun j => m_b (m_pv letter sizes lnum many (shown j) (g j)) (p + 1)) (fun j => m_b (m_pv letter sizes lnum many (shown j) (g j)) (m_E le n (p + 1))) (m_nx L k) i (m_b (m_pv letter sizes lnum many (shown (m_nx L k i)) (g (m_nx L k i))) p) = true then (1 : Int32) else 0) = 0 then (0 : Int32) else g_ishl 1 (nI (m_LT le p))))) := by
  have hnl := m_nx_lt (i := i) hk
  have hn := ho.1
  have hnx : (if nI L ≤ nI (i + 1) then nI k else nI (i + 1)) = nI (m_nx L k i) := by
    unfold m_nx
    by_cases h : i + 1 < L
    · rw [if_neg (by rw [m_le (by omega) (by omega)]; omega), if_pos h]
    · rw [if_pos (by rw [m_le (by omega) (by omega)]; omega), if_neg h]
  have l1 : letter p = le p := by
    have := (ho.2.2.2.2 p hp).1
    rw [show 16 * 0 + p = p by omega] at this
    exact this
  have l3 : lnum p = nI (m_LT le p) := by
    have := (ho.2.2.2.2 p hp).2.2
    rw [show 16 * 0 + p = p by omega, m_ln1 hlat, Nat.zero_add] at this
    exact this
  obtain ⟨p1, -, -⟩ := m_pvs ho (shown i) (g i)
  obtain ⟨q1, -, -⟩ := m_pvs ho (shown (m_nx L k i)) (g (m_nx L k i))
  have hE := m_E_le (le := le) (n := n) (q := p + 1) (by omega)
  have h2E : le p = 117 → p + 1 < 32 ∧ nI (p + 1) + sizes (p + 1) = nI (m_E le n (p + 1)) := fun z => by
    have har : m_ar (le p) = 2 := by rw [z]; decide
    rcases (m_Es ho.2.1 hp).2.2 with ⟨b1, b2⟩ | ⟨b1, b2, b3⟩ | ⟨b1, b2, b3, b4, b5⟩
    · omega
    · omega
    · have := (ho.2.2.2.2 (p + 1) b2).2.1
      rw [show 16 * 0 + (p + 1) = p + 1 by omega] at this
      refine ⟨by omega, ?_⟩
      rw [this, nI_add]
      congr 1
      omega
  rw [M_tellsLater_l3_s]
  simp (disch := omega) only [m_0lt, if_false, nI_1, hnx, m_inb, m_chkT, nI_clamp, p1, q1, Option.bind_some, l1, l3, m_has]
  have hT : m_tl (le p) (fun j => m_b (m_pv letter sizes lnum many (shown j) (g j)) (p + 1)) (fun j => m_b (m_pv letter sizes lnum many (shown j) (g j)) (m_E le n (p + 1))) (m_nx L k) i (m_b (m_pv letter sizes lnum many (shown (m_nx L k i)) (g (m_nx L k i))) p) = (if le p = 120 then m_b (m_pv letter sizes lnum many (shown (m_nx L k i)) (g (m_nx L k i))) (p + 1) else if le p = 102 then m_b (m_pv letter sizes lnum many (shown i) (g i)) (p + 1) || m_b (m_pv letter sizes lnum many (shown (m_nx L k i)) (g (m_nx L k i))) p else if le p = 103 then m_b (m_pv letter sizes lnum many (shown i) (g i)) (p + 1) && m_b (m_pv letter sizes lnum many (shown (m_nx L k i)) (g (m_nx L k i))) p else m_b (m_pv letter sizes lnum many (shown i) (g i)) (m_E le n (p + 1)) || (m_b (m_pv letter sizes lnum many (shown i) (g i)) (p + 1) && m_b (m_pv letter sizes lnum many (shown (m_nx L k i)) (g (m_nx L k i))) p)) := rfl
  generalize m_tl (le p) (fun j => m_b (m_pv letter sizes lnum many (shown j) (g j)) (p + 1)) (fun j => m_b (m_pv letter sizes lnum many (shown j) (g j)) (m_E le n (p + 1))) (m_nx L k) i (m_b (m_pv letter sizes lnum many (shown (m_nx L k i)) (g (m_nx L k i))) p) = y at hT ⊢
  generalize m_b (m_pv letter sizes lnum many (shown i) (g i)) (p + 1) = x1 at hT ⊢
  generalize m_b (m_pv letter sizes lnum many (shown (m_nx L k i)) (g (m_nx L k i))) (p + 1) = x2 at hT ⊢
  generalize m_b (m_pv letter sizes lnum many (shown (m_nx L k i)) (g (m_nx L k i))) p = x3 at hT ⊢
  generalize M_tellsLater_l3 m_N letter sizes lnum many shown (nI L) (nI k) (nI p) m (nI i + -1) = Z
  have hlat' : le p = 120 ∨ le p = 102 ∨ le p = 103 ∨ le p = 117 := hlat
  rcases hlat' with z | z | z | z
  · rw [z] at hT ⊢
    have hT' : y = x2 := hT
    subst hT'
    cases y <;> rfl
  · rw [z] at hT ⊢
    have hT' : y = (x1 || x3) := hT
    subst hT'
    cases x1 <;> cases x3 <;> rfl
  · rw [z] at hT ⊢
    have hT' : y = (x1 && x3) := hT
    subst hT'
    cases x1 <;> cases x3 <;> rfl
  · obtain ⟨c1, c2⟩ := h2E z
    rw [z] at hT ⊢
    have hT' : y = (m_b (m_pv letter sizes lnum many (shown i) (g i)) (m_E le n (p + 1)) || (x1 && x3)) := hT
    clear hT
    rw [if_pos rfl, c2, m_has _ (by omega)]
    generalize m_b (m_pv letter sizes lnum many (shown i) (g i)) (m_E le n (p + 1)) = x4 at hT' ⊢
    subst hT'
    cases x1 <;> cases x3 <;> cases x4 <;> rfl
/-- in the midst of a turn -/
def m_mid (le : Nat → Int32) (n : Nat) (letter sizes lnum many : Nat → Int32) (L k p : Nat) (shown g0 : Nat → Int32) (x0 : Nat → Bool) (i : Nat) (g : Nat → Int32) : Prop := (∀ j, j < L → ∀ b, b < 32 → b ≠ m_LT le p → m_b (g j) b = m_b (g0 j) b) ∧ (∀ j, j < i → m_b (g j) (m_LT le p) = x0 j) ∧ (∀ j, i ≤ j → j + 1 < L → m_b (g j) (m_LT le p) = m_tl (le p) (fun j => m_b (m_pv letter sizes lnum many (shown j) (g0 j)) (p + 1)) (fun j => m_b (m_pv letter sizes lnum many (shown j) (g0 j)) (m_E le n (p + 1))) (m_nx L k) j (m_b (g (j + 1)) (m_LT le p))) ∧ (i < L → m_b (g (L - 1)) (m_LT le p) = m_tl (le p) (fun j => m_b (m_pv letter sizes lnum many (shown j) (g0 j)) (p + 1)) (fun j => m_b (m_pv letter sizes lnum many (shown j) (g0 j)) (m_E le n (p + 1))) (m_nx L k) (L - 1) (x0 k)) ∧ ∀ j, j < L → m_b (g j) (m_LT le p) = !m_be (le p) → ∃ m, m_Q (le p) (fun j => m_b (m_pv letter sizes lnum many (shown j) (g0 j)) (p + 1)) (fun j => m_b (m_pv letter sizes lnum many (shown j) (g0 j)) (m_E le n (p + 1))) (m_itr (m_nx L k) m j)
theorem m_pv_keep (ho : m_one le n letter sizes lnum many) {p : Nat} (hp : p < n) (hlat : m_lat (le p)) {lab gs gs' : Int32} (hg : ∀ b, b < 32 → b ≠ m_LT le p → m_b gs b = m_b gs' b) {q : Nat} (hq : p < q) : m_b (m_pv letter sizes lnum many lab gs) q = m_b (m_pv letter sizes lnum many lab gs') q := by
  have h3 := ho.2.2.1
  refine m_pv_ge ho (p0 := p + 1) (fun q' h1 h2 h4 => hg _ ?_ ?_) q (by omega)
  · have := m_LT_lt h2 h4
    omega
  · have := m_LT_lt (show p < q' by omega) hlat
    omega
theorem m_tl3 (ho : m_one le n letter sizes lnum many) {L k p : Nat} (hL : L ≤ 8) (hk : k < L) (hp : p < n) (hlat : m_lat (le p)) (shown g0 : Nat → Int32) (x0 : Nat → Bool) : ∀ (i m : Nat) (g : Nat → Int32), i ≤ L → i < m → m_mid le n letter sizes lnum many L k p shown g0 x0 i g → ∃ g', M_tellsLater_l3 m_N letter sizes lnum many shown (nI L) (nI k) (nI p) m (nI i + -1) g = some g' ∧ m_mid le n letter sizes lnum many L k p shown g0 x0 0 g'
  | 0, m + 1, g, _, _, hI => by
    exact ⟨g, by rw [M_tellsLater_l3_s, if_pos (by decide)], hI⟩
  | i + 1, m + 1, g, hi, hm, hI => by
    have hJ : m_LT le p < 3 := by
      have := m_LT_lt hp hlat
      have := ho.2.2.1
      omega
    have hnl := m_nx_lt (i := i) hk
    obtain ⟨i1, i2, i3, i4, i5⟩ := hI
    have e0 := m_tl3step ho hL hk hp hlat (show i < L by omega) shown g m
    have ha : ∀ j, j < L → m_b (m_pv letter sizes lnum many (shown j) (g j)) (p + 1) = m_b (m_pv letter sizes lnum many (shown j) (g0 j)) (p + 1) := fun j hj => m_pv_keep ho hp hlat (i1 j hj) (by omega)
    have hE := m_E_le (le := le) (n := n) (q := p + 1) (by omega)
    have hb : ∀ j, j < L → m_b (m_pv letter sizes lnum many (shown j) (g j)) (m_E le n (p + 1)) = m_b (m_pv letter sizes lnum many (shown j) (g0 j)) (m_E le n (p + 1)) := fun j hj => m_pv_keep ho hp hlat (i1 j hj) (by omega)
    have hx : m_b (m_pv letter sizes lnum many (shown (m_nx L k i)) (g (m_nx L k i))) p = m_b (g (m_nx L k i)) (m_LT le p) := m_pv_lat ho _ _ hp hlat
    have htl : m_tl (le p) (fun j => m_b (m_pv letter sizes lnum many (shown j) (g j)) (p + 1)) (fun j => m_b (m_pv letter sizes lnum many (shown j) (g j)) (m_E le n (p + 1))) (m_nx L k) i (m_b (m_pv letter sizes lnum many (shown (m_nx L k i)) (g (m_nx L k i))) p) = m_tl (le p) (fun j => m_b (m_pv letter sizes lnum many (shown j) (g0 j)) (p + 1)) (fun j => m_b (m_pv letter sizes lnum many (shown j) (g0 j)) (m_E le n (p + 1))) (m_nx L k) i (m_b (g (m_nx L k i)) (m_LT le p)) := by
      unfold m_tl
      dsimp only
      rw [hx, ha i (by omega), ha _ hnl, hb i (by omega)]
    rw [htl] at e0
    rw [m_n01', e0]
    generalize hy : m_tl (le p) (fun j => m_b (m_pv letter sizes lnum many (shown j) (g0 j)) (p + 1)) (fun j => m_b (m_pv letter sizes lnum many (shown j) (g0 j)) (m_E le n (p + 1))) (m_nx L k) i (m_b (g (m_nx L k i)) (m_LT le p)) = y
    have hnew : ∀ b, b < 32 → m_b ((g i &&& (g_ishl 1 (nI (m_LT le p)) ^^^ -1)) ||| (if (if y = true then (1 : Int32) else 0) = 0 then (0 : Int32) else g_ishl 1 (nI (m_LT le p)))) b = if b = m_LT le p then y else m_b (g i) b := fun b hb => m_setb (g i) hJ hb y
    generalize ((g i &&& (g_ishl 1 (nI (m_LT le p)) ^^^ -1)) ||| (if (if y = true then (1 : Int32) else 0) = 0 then (0 : Int32) else g_ishl 1 (nI (m_LT le p)))) = ng at hnew ⊢
    have hy1 : m_b ng (m_LT le p) = y := by
      rw [hnew _ (by omega), if_pos rfl]
    refine m_tl3 ho hL hk hp hlat shown g0 x0 i m (upd g i ng) (by omega) (by omega) ⟨fun j hj b hb hne => ?_, fun j hj => ?_, fun j hj1 hj2 => ?_, fun hiL => ?_, fun j hj z => ?_⟩
    · by_cases hji : j = i
      · subst hji
        rw [pk_us, hnew b hb, if_neg hne]
        exact i1 j hj b hb hne
      · rw [pk_un hji]
        exact i1 j hj b hb hne
    · rw [pk_un (by omega)]
      exact i2 j (by omega)
    · by_cases hji : j = i
      · subst hji
        rw [pk_us, pk_un (by omega), hy1, ← hy]
        unfold m_nx
        rw [if_pos hj2]
      · rw [pk_un hji, pk_un (by omega)]
        exact i3 j (by omega) hj2
    · by_cases hji : L - 1 = i
      · rw [hji, pk_us, hy1, ← hy]
        have hnk : m_nx L k i = k := by
          unfold m_nx
          rw [if_neg (by omega)]
        rw [hnk, i2 k (by omega)]
      · rw [pk_un hji]
        exact i4 (by omega)
    · by_cases hji : j = i
      · subst hji
        rw [pk_us, hy1, ← hy] at z
        exact m_tl_ful hlat _ _ _ _ _ (fun w => i5 _ hnl w) z
      · rw [pk_un hji] at z
        exact i5 j hj z
end
