/-! what is so: by a label and guesses -/
def m_sem (c lab : Int32) (g f s : Bool) : Bool := if c = 97 then m_b lab 0 else if c = 98 then m_b lab 1 else if c = 99 then m_b lab 2 else if c = 48 then false else if c = 49 then true else if c = 110 then !f else if c = 107 then f && s else if c = 111 then f || s else g
def m_go (c : Int32) (is f s isN fN : Bool) : Bool := if c = 120 then is == fN else if c = 102 then is == (f || isN) else if c = 103 then is == (f && isN) else if c = 117 then is == (s || (f && isN)) else true
def m_calm (c : Int32) (is f s : Bool) : Bool := if c = 102 then !is || f else if c = 103 then is || !f else if c = 117 then !is || s else true
def m_val (le : Nat → Int32) (n : Nat) (lab : Int32) (g v : Nat → Bool) : Prop := ∀ p, p < n → v p = m_sem (le p) lab (g p) (v (p + 1)) (v (m_E le n (p + 1)))
theorem m_letters {c : Int32} (h : 0 ≤ m_ar c) : c = 97 ∨ c = 98 ∨ c = 99 ∨ c = 48 ∨ c = 49 ∨ c = 110 ∨ c = 107 ∨ c = 111 ∨ c = 120 ∨ c = 102 ∨ c = 103 ∨ c = 117 := by
  refine Classical.byContradiction fun z => ?_
  simp only [not_or] at z
  obtain ⟨h1, h2, h3, h4, h5, h6, h7, h8, h9, ha, hb, hc⟩ := z
  simp only [m_ar, h1, h2, h3, h4, h5, h6, h7, h8, h9, ha, hb, hc, or_false, if_false] at h
  omega
theorem m_end_ge (le : Nat → Int32) : ∀ f d q : Nat, q ≤ m_end le f d q
  | 0, _, _ => Nat.le_refl _
  | _ + 1, 0, _ => Nat.le_refl _
  | f + 1, d + 1, q => by
    simp only [m_end]
    have := m_end_ge le f (d + (m_ar (le q)).toNat) (q + 1)
    omega
theorem m_E_n (le : Nat → Int32) (n : Nat) : m_E le n n = n := by
  show m_end le (n - n) 1 n = n
  rw [Nat.sub_self]
  rfl
theorem m_end_le (le : Nat → Int32) : ∀ f d q : Nat, m_end le f d q ≤ q + f
  | 0, _, _ => Nat.le_refl _
  | _ + 1, 0, _ => by simp only [m_end]; omega
  | f + 1, d + 1, q => by
    simp only [m_end]
    have := m_end_le le f (d + (m_ar (le q)).toNat) (q + 1)
    omega
theorem m_E_le {le : Nat → Int32} {n q : Nat} (h : q ≤ n) : q ≤ m_E le n q ∧ m_E le n q ≤ n := by
  have h1 := m_end_ge le (n - q) 1 q
  have h2 := m_end_le le (n - q) 1 q
  exact ⟨h1, by show m_end le (n - q) 1 q ≤ n; omega⟩
/-- a value is told by label and guesses -/
theorem m_val_eq {le : Nat → Int32} {n : Nat} (hw : m_WF le n) {lab : Int32} {g g' v v' : Nat → Bool} (h : m_val le n lab g v) (h' : m_val le n lab g' v') (hg : ∀ p, p < n → m_lat (le p) → g p = g' p) : ∀ d p, p + d = n → 0 < d → v p = v' p := by
  intro d
  induction d using Nat.strongRecOn with
  | ind d ih =>
    intro p hp hd
    obtain ⟨h1, h2, h3⟩ := m_Es hw (show p < n by omega)
    rw [h p (by omega), h' p (by omega)]
    have hf : 1 ≤ m_ar (le p) → v (p + 1) = v' (p + 1) := fun z => by
      rcases h3 with ⟨b1, b2⟩ | ⟨b1, b2, b3⟩ | ⟨b1, b2, b3, b4, b5⟩
      · omega
      · exact ih (n - (p + 1)) (by omega) (p + 1) (by omega) (by omega)
      · exact ih (n - (p + 1)) (by omega) (p + 1) (by omega) (by omega)
    have hs : m_ar (le p) = 2 → v (m_E le n (p + 1)) = v' (m_E le n (p + 1)) := fun z => by
      rcases h3 with ⟨b1, b2⟩ | ⟨b1, b2, b3⟩ | ⟨b1, b2, b3, b4, b5⟩
      · omega
      · omega
      · exact ih (n - m_E le n (p + 1)) (by omega) (m_E le n (p + 1)) (by omega) (by omega)
    have hgp := hg p (by omega)
    have hlt := m_letters (hw.1 p (by omega)).1
    generalize le p = c at hlt hf hs hgp ⊢
    rcases hlt with rfl | rfl | rfl | rfl | rfl | rfl | rfl | rfl | rfl | rfl | rfl | rfl
    · rfl
    · rfl
    · rfl
    · rfl
    · rfl
    · show (!v (p + 1)) = (!v' (p + 1))
      rw [hf (by decide)]
    · show (v (p + 1) && v (m_E le n (p + 1))) = (v' (p + 1) && v' (m_E le n (p + 1)))
      rw [hf (by decide), hs (by decide)]
    · show (v (p + 1) || v (m_E le n (p + 1))) = (v' (p + 1) || v' (m_E le n (p + 1)))
      rw [hf (by decide), hs (by decide)]
    · exact hgp (Or.inl rfl)
    · exact hgp (Or.inr (Or.inl rfl))
    · exact hgp (Or.inr (Or.inr (Or.inl rfl)))
    · exact hgp (Or.inr (Or.inr (Or.inr rfl)))
theorem m_LT_mono (le : Nat → Int32) {p : Nat} : ∀ q, p ≤ q → m_LT le p ≤ m_LT le q
  | 0, h => by rw [show p = 0 by omega]; exact Nat.le_refl _
  | q + 1, h => by
    by_cases hpq : p = q + 1
    · rw [hpq]; exact Nat.le_refl _
    · have h1 := m_LT_mono le (p := p) q (by omega)
      simp only [m_LT]
      omega
theorem m_LT_lt {le : Nat → Int32} {p n : Nat} (h : p < n) (hl : m_lat (le p)) : m_LT le p < m_LT le n := by
  have h1 := m_LT_mono le n (show p + 1 ≤ n from h)
  have h2 : m_LT le (p + 1) = m_LT le p + (if (le p = 120 ∨ le p = 102 ∨ le p = 103 ∨ le p = 117) then 1 else 0) := rfl
  rw [if_pos (show le p = 120 ∨ le p = 102 ∨ le p = 103 ∨ le p = 117 from hl)] at h2
  omega
theorem m_i0 (b : Bool) : ((if b = true then (1 : Int32) else 0) = 0) = (b = false) := by cases b <;> decide
theorem m_iab (a b : Bool) : ((if a = true then (1 : Int32) else 0) = (if b = true then (1 : Int32) else 0)) = (a = b) := by cases a <;> cases b <;> decide
/-- the reference: one part by label and guesses -/
theorem m_soBy {le : Nat → Int32} {n l0 w : Nat} (hn : n ≤ 16) (hw2 : w < 2) (hw : m_WF le n) {letter sizes lnum many : Nat → Int32} (hl : m_lay le n l0 w letter sizes lnum many) (h3 : l0 + m_LT le n ≤ 3) {p : Nat} (hp : p < n) (lab gs : Int32) (f s : Bool) : F_M_isSoBy letter lnum (nI (16 * w + p)) lab gs (if f = true then 1 else 0) (if s = true then 1 else 0) = some (if m_sem (le p) lab (m_b gs (l0 + m_LT le p)) f s = true then 1 else 0) := by
  obtain ⟨l1, l2, l3⟩ := hl.2 p hp
  have hlt := m_letters (hw.1 p hp).1
  have hk : ∀ c, m_lat c → le p = c → F_M_has gs (lnum (16 * w + p)) = if m_b gs (l0 + m_LT le p) = true then 1 else 0 := fun c hc he => by
    have h5 : m_lat (le p) := by rw [he]; exact hc
    have := m_LT_lt hp h5
    rw [l3, m_ln1 h5, m_has _ (by omega)]
  simp (disch := omega) only [F_M_isSoBy, m_inb, m_chkT, nI_clamp, l1]
  generalize hcc : le p = c at hlt hk ⊢
  rcases hlt with rfl | rfl | rfl | rfl | rfl | rfl | rfl | rfl | rfl | rfl | rfl | rfl
  · exact congrArg some (m_has lab (k := 0) (by omega))
  · exact congrArg some (m_has lab (k := 1) (by omega))
  · exact congrArg some (m_has lab (k := 2) (by omega))
  · rfl
  · rfl
  · cases f <;> rfl
  · cases f <;> cases s <;> rfl
  · cases f <;> cases s <;> rfl
  · exact congrArg some (hk _ (Or.inl rfl) rfl)
  · exact congrArg some (hk _ (Or.inr (Or.inl rfl)) rfl)
  · exact congrArg some (hk _ (Or.inr (Or.inr (Or.inl rfl))) rfl)
  · exact congrArg some (hk _ (Or.inr (Or.inr (Or.inr rfl))) rfl)
theorem m_partsL {le : Nat → Int32} {n l0 w : Nat} (hn : n ≤ 16) (hw2 : w < 2) (hw : m_WF le n) {letter sizes lnum many : Nat → Int32} (hl : m_lay le n l0 w letter sizes lnum many) (h3 : l0 + m_LT le n ≤ 3) (lab gs : Int32) : ∀ (p m : Nat) (s : Int32), p ≤ n → p < m → (∀ q, q < p ∨ n ≤ q → m_b s q = false) → (∀ q, p ≤ q → q < n → m_b s q = m_sem (le q) lab (m_b gs (l0 + m_LT le q)) (m_b s (q + 1)) (m_b s (m_E le n (q + 1)))) → ∃ s', M_partsAt_l1 (nI w) many sizes letter lnum lab gs m s (nI p + -1) = some s' ∧ m_val le n lab (fun q => m_b gs (l0 + m_LT le q)) (m_b s') ∧ ∀ q, n ≤ q → m_b s' q = false
  | 0, m + 1, s, h, _, h1, h2 => by
    exact ⟨s, by rw [M_partsAt_l1_s, if_pos (by decide)], fun q hq => h2 q (by omega) hq, fun q hq => h1 q (Or.inr hq)⟩
  | p + 1, m + 1, s, h, hm, h1, h2 => by
    have hE := m_E_le (le := le) (n := n) (q := p + 1) h
    have hsec : (if (many (nI w).toNatClampNeg) ≤ (nI p + (1 : Int32)) then (some (0 : Int32)) else (g_chk (g_inb ((((16 : Int32) * nI w) + nI p) + (1 : Int32)) 32) (if (F_M_has s ((nI p + (1 : Int32)) + (sizes (((((16 : Int32) * nI w) + nI p) + (1 : Int32))).toNatClampNeg))) = 0 then (some (0 : Int32)) else (some (1 : Int32))))) = some (if m_b s (m_E le n (p + 1)) = true then 1 else 0) := by
      by_cases hp1 : p + 1 < n
      · have l2 := (hl.2 (p + 1) hp1).2.1
        simp (disch := omega) only [nI_clamp, hl.1, nI_1, m_le, if_neg, m_e16, pk_mul, nI_add, m_inb, m_chkT, Nat.add_assoc]
        rw [l2, nI_add, show p + 1 + (m_E le n (p + 1) - (p + 1)) = m_E le n (p + 1) by omega, m_has _ (by omega)]
        cases m_b s (m_E le n (p + 1)) <;> rfl
      · have hpn : p + 1 = n := by omega
        simp (disch := omega) only [nI_clamp, hl.1, nI_1, m_le, if_pos]
        rw [hpn, m_E_n, h1 n (Or.inr (Nat.le_refl _))]
        rfl
    have hso := m_soBy hn hw2 hw hl h3 (p := p) (by omega) lab gs (m_b s (p + 1)) (m_b s (m_E le n (p + 1)))
    have hfst : F_M_has s (nI p + 1) = if m_b s (p + 1) = true then 1 else 0 := by
      rw [nI_1, m_has _ (by omega)]
    have hst : M_partsAt_l1 (nI w) many sizes letter lnum lab gs (m + 1) s (nI (p + 1) + -1) = M_partsAt_l1 (nI w) many sizes letter lnum lab gs m (s ||| (if (if m_sem (le p) lab (m_b gs (l0 + m_LT le p)) (m_b s (p + 1)) (m_b s (m_E le n (p + 1))) = true then (1 : Int32) else 0) = 0 then (0 : Int32) else (g_ishl (1 : Int32) (nI p)))) (nI p + -1) := by
      rw [M_partsAt_l1_s, m_n01', if_neg (nI_pos (by omega)), m_chk (m_inb (by omega) (by omega)), hsec, Option.bind_some, hfst, show (16 : Int32) * nI w + nI p = nI (16 * w + p) by rw [m_e16, pk_mul, nI_add], hso, Option.bind_some]
    rw [hst]
    have hb : ∀ q, q < 32 → m_b (s ||| (if (if m_sem (le p) lab (m_b gs (l0 + m_LT le p)) (m_b s (p + 1)) (m_b s (m_E le n (p + 1))) = true then (1 : Int32) else 0) = 0 then (0 : Int32) else (g_ishl (1 : Int32) (nI p)))) q = (m_b s q || (m_sem (le p) lab (m_b gs (l0 + m_LT le p)) (m_b s (p + 1)) (m_b s (m_E le n (p + 1))) && decide (q = p))) := fun q hq => by
      rw [m_b_or]
      cases m_sem (le p) lab (m_b gs (l0 + m_LT le p)) (m_b s (p + 1)) (m_b s (m_E le n (p + 1))) with
      | false => rw [if_pos (by decide), m_b_0, Bool.false_and]
      | true => rw [if_neg (by decide), m_b_shl (by omega) hq, Bool.true_and]
    refine m_partsL hn hw2 hw hl h3 lab gs p m _ (by omega) (by omega) (fun q hq => ?_) (fun q hq1 hq2 => ?_)
    · rcases Nat.lt_or_ge q 32 with h32 | h32
      · rw [hb q h32, h1 q (by omega), decide_eq_false (by omega), Bool.and_false, Bool.or_false]
      · exact m_b_big h32
    · have hEq := m_E_le (le := le) (n := n) (q := q + 1) (by omega)
      rw [hb (q + 1) (by omega), hb (m_E le n (q + 1)) (by omega), decide_eq_false (show ¬ q + 1 = p by omega), decide_eq_false (show ¬ m_E le n (q + 1) = p by omega), Bool.and_false, Bool.or_false, Bool.or_false, hb q (by omega)]
      by_cases hqp : q = p
      · subst hqp
        rw [h1 q (Or.inl (by omega)), decide_eq_true rfl, Bool.and_true, Bool.false_or]
      · rw [decide_eq_false hqp, Bool.and_false, Bool.or_false]
        exact h2 q (by omega) hq2
/-- a formula, or none -/
def m_W0 (le : Nat → Int32) (n : Nat) : Prop := n ≤ 16 ∧ (n = 0 ∨ m_WF le n)
theorem m_parts {le : Nat → Int32} {n l0 w : Nat} (hw2 : w < 2) (hw : m_W0 le n) {letter sizes lnum many : Nat → Int32} (hl : m_lay le n l0 w letter sizes lnum many) (h3 : l0 + m_LT le n ≤ 3) (lab gs : Int32) : ∃ s, F_M_partsAt m_N letter sizes lnum many (nI w) lab gs = some s ∧ m_val le n lab (fun q => m_b gs (l0 + m_LT le q)) (m_b s) ∧ ∀ q, n ≤ q → m_b s q = false := by
  have hn := hw.1
  have e : F_M_partsAt m_N letter sizes lnum many (nI w) lab gs = (M_partsAt_l1 (nI w) many sizes letter lnum lab gs m_N 0 (nI n + -1)) := by
    simp (disch := omega) only [F_M_partsAt, m_inb, m_chkT, nI_clamp, hl.1]
    rw [Int32.sub_eq_add_neg, show -(1 : Int32) = -1 from rfl]
    cases M_partsAt_l1 (nI w) many sizes letter lnum lab gs m_N 0 (nI n + -1) <;> rfl
  rw [e]
  rcases hw.2 with h0 | hw
  · subst h0
    exact ⟨0, by rw [show m_N = 4999 + 1 from rfl, M_partsAt_l1_s, if_pos (by decide)], fun q hq => by omega, fun q _ => m_b_0 q⟩
  · exact m_partsL hn hw2 hw hl h3 lab gs n m_N 0 (Nat.le_refl _) (by show _ < 5000; omega) (fun q _ => m_b_0 q) (fun q h1 h2 => by omega)
theorem m_goes {le : Nat → Int32} {n l0 w : Nat} (hw2 : w < 2) (hn : n ≤ 16) (hw : m_WF le n) {letter sizes lnum many : Nat → Int32} (hl : m_lay le n l0 w letter sizes lnum many) {p u v : Nat} (hp : p < n) (hu : u < 64) (hv : v < 64) (so : Nat → Int32) : F_M_goesWith letter sizes so (nI w) (nI p) (nI u) (nI v) = some (if m_go (le p) (m_b (so (64 * w + u)) p) (m_b (so (64 * w + u)) (p + 1)) (m_b (so (64 * w + u)) (m_E le n (p + 1))) (m_b (so (64 * w + v)) p) (m_b (so (64 * w + v)) (p + 1)) = true then 1 else 0) := by
  obtain ⟨l1, l2, l3⟩ := hl.2 p hp
  have hlt := m_letters (hw.1 p hp).1
  have hE := m_E_le (le := le) (n := n) (q := p + 1) (by omega)
  have h2E : m_ar (le p) = 2 → 16 * w + p + 1 < 32 ∧ nI (p + 1) + sizes (16 * w + p + 1) = nI (m_E le n (p + 1)) := fun z => by
    rcases (m_Es hw hp).2.2 with ⟨b1, b2⟩ | ⟨b1, b2, b3⟩ | ⟨b1, b2, b3, b4, b5⟩
    · omega
    · omega
    · refine ⟨by omega, ?_⟩
      rw [Nat.add_assoc, (hl.2 (p + 1) b2).2.1, nI_add]
      congr 1
      omega
  simp (disch := omega) only [F_M_goesWith, m_e64, m_e16, pk_mul, nI_add, m_inb, m_chkT, nI_clamp, l1, nI_1, m_has]
  generalize le p = c at hlt h2E ⊢
  generalize hb1 : m_b (so (64 * w + u)) p = b1
  generalize hb2 : m_b (so (64 * w + u)) (p + 1) = b2
  generalize hb4 : m_b (so (64 * w + v)) p = b4
  generalize hb5 : m_b (so (64 * w + v)) (p + 1) = b5
  rcases hlt with rfl | rfl | rfl | rfl | rfl | rfl | rfl | rfl | rfl | rfl | rfl | rfl
  · rfl
  · rfl
  · rfl
  · rfl
  · rfl
  · rfl
  · rfl
  · rfl
  · cases b1 <;> cases b5 <;> rfl
  · cases b1 <;> cases b2 <;> cases b4 <;> rfl
  · cases b1 <;> cases b2 <;> cases b4 <;> rfl
  · obtain ⟨q1, q2⟩ := h2E (by decide)
    rw [if_neg (by decide), if_neg (by decide), if_pos rfl, m_chk (m_inb q1 (by omega)), q2, m_has _ (by omega)]
    generalize m_b (so (64 * w + u)) (m_E le n (p + 1)) = b3
    cases b1 <;> cases b2 <;> cases b3 <;> cases b4 <;> rfl
theorem m_calmF {le : Nat → Int32} {n l0 w : Nat} (hw2 : w < 2) (hn : n ≤ 16) (hw : m_WF le n) {letter sizes lnum many : Nat → Int32} (hl : m_lay le n l0 w letter sizes lnum many) {p u : Nat} (hp : p < n) (hu : u < 64) (so : Nat → Int32) : F_M_isCalm letter sizes so (nI w) (nI p) (nI u) = some (if m_calm (le p) (m_b (so (64 * w + u)) p) (m_b (so (64 * w + u)) (p + 1)) (m_b (so (64 * w + u)) (m_E le n (p + 1))) = true then 1 else 0) := by
  obtain ⟨l1, l2, l3⟩ := hl.2 p hp
  have hlt := m_letters (hw.1 p hp).1
  have hE := m_E_le (le := le) (n := n) (q := p + 1) (by omega)
  have h2E : m_ar (le p) = 2 → 16 * w + p + 1 < 32 ∧ nI (p + 1) + sizes (16 * w + p + 1) = nI (m_E le n (p + 1)) := fun z => by
    rcases (m_Es hw hp).2.2 with ⟨b1, b2⟩ | ⟨b1, b2, b3⟩ | ⟨b1, b2, b3, b4, b5⟩
    · omega
    · omega
    · refine ⟨by omega, ?_⟩
      rw [Nat.add_assoc, (hl.2 (p + 1) b2).2.1, nI_add]
      congr 1
      omega
  simp (disch := omega) only [F_M_isCalm, m_e64, m_e16, pk_mul, nI_add, m_inb, m_chkT, nI_clamp, l1, nI_1, m_has]
  generalize le p = c at hlt h2E ⊢
  generalize hb1 : m_b (so (64 * w + u)) p = b1
  generalize hb2 : m_b (so (64 * w + u)) (p + 1) = b2
  rcases hlt with rfl | rfl | rfl | rfl | rfl | rfl | rfl | rfl | rfl | rfl | rfl | rfl
  · rfl
  · rfl
  · rfl
  · rfl
  · rfl
  · rfl
  · rfl
  · rfl
  · rfl
  · cases b1 <;> cases b2 <;> rfl
  · cases b1 <;> cases b2 <;> rfl
  · obtain ⟨q1, q2⟩ := h2E (by decide)
    rw [if_neg (by decide), if_neg (by decide), if_pos rfl, m_chk (m_inb q1 (by omega)), q2, m_has _ (by omega)]
    generalize m_b (so (64 * w + u)) (m_E le n (p + 1)) = b3
    cases b1 <;> cases b2 <;> cases b3 <;> rfl
/-! two formulas -/
def m_fs (le : Nat → Nat → Int32) (n : Nat → Nat) : Prop := (∀ w, w < 2 → m_W0 (le w) (n w)) ∧ m_LT (le 0) (n 0) + m_LT (le 1) (n 1) ≤ 3
abbrev m_G (le : Nat → Nat → Int32) (n : Nat → Nat) : Nat := m_LT (le 0) (n 0) + m_LT (le 1) (n 1)
def m_o (le : Nat → Nat → Int32) (n : Nat → Nat) (w : Nat) : Nat := if w = 0 then 0 else m_LT (le 0) (n 0)
def m_lays (le : Nat → Nat → Int32) (n : Nat → Nat) (letter sizes lnum many : Nat → Int32) : Prop := ∀ w, w < 2 → m_lay (le w) (n w) (m_o le n w) w letter sizes lnum many
theorem m_o_le {le : Nat → Nat → Int32} {n : Nat → Nat} (hf : m_fs le n) {w : Nat} (hw : w < 2) : m_o le n w + m_LT (le w) (n w) ≤ m_G le n ∧ m_o le n w + m_LT (le w) (n w) ≤ 3 := by
  have h := hf.2
  have hG : m_G le n = m_LT (le 0) (n 0) + m_LT (le 1) (n 1) := rfl
  rcases (show w = 0 ∨ w = 1 by omega) with rfl | rfl
  · simp only [m_o, if_true]
    omega
  · simp only [m_o, show ¬ (1 : Nat) = 0 by omega, if_false]
    omega
/-- two nodes (told by what is so there) may follow one another -/
def m_ok (le : Nat → Nat → Int32) (n : Nat → Nat) (V V' : Nat → Nat → Bool) : Prop := ∀ w, w < 2 → ∀ p, p < n w → m_go (le w p) (V w p) (V w (p + 1)) (V w (m_E (le w) (n w) (p + 1))) (V' w p) (V' w (p + 1)) = true
def m_so (so : Nat → Int32) (u w p : Nat) : Bool := m_b (so (64 * w + u)) p
theorem m_next2 {le : Nat → Nat → Int32} {n : Nat → Nat} (hf : m_fs le n) {letter sizes lnum many : Nat → Int32} (hl : m_lays le n letter sizes lnum many) {u v : Nat} (hu : u < 64) (hv : v < 64) (so : Nat → Int32) {w : Nat} (hw : w < 2) : ∀ (d p m : Nat) (b : Int32), p + d = n w → d < m → (b = 1 ∨ b = 0) → ∃ r, M_areNext_l2 (nI w) many letter sizes so (nI u) (nI v) m b (nI p) = some r ∧ (r = 1 ∨ r = 0) ∧ (r = 1 ↔ b = 1 ∧ ∀ q, p ≤ q → q < n w → m_go (le w q) (m_so so u w q) (m_so so u w (q + 1)) (m_so so u w (m_E (le w) (n w) (q + 1))) (m_so so v w q) (m_so so v w (q + 1)) = true)
  | 0, p, m + 1, b, h, _, hb => by
    have h16 := (hf.1 w hw).1
    refine ⟨b, ?_, hb, ⟨fun z => ⟨z, fun q h1 h2 => by omega⟩, fun z => z.1⟩⟩
    simp (disch := omega) only [M_areNext_l2_s, m_inb, m_chkT, nI_clamp, (hl w hw).1, m_le, if_pos]
  | d + 1, p, m + 1, b, h, hm, hb => by
    have h16 := (hf.1 w hw).1
    have e0 : M_areNext_l2 (nI w) many letter sizes so (nI u) (nI v) (m + 1) b (nI p) = if b = 0 then some b else (F_M_goesWith letter sizes so (nI w) (nI p) (nI u) (nI v)).bind fun o11 => M_areNext_l2 (nI w) many letter sizes so (nI u) (nI v) m o11 (nI (p + 1)) := by
      simp (disch := omega) only [M_areNext_l2_s, m_inb, m_chkT, nI_clamp, (hl w hw).1, m_le, if_neg, nI_1]
    rcases hb with rfl | rfl
    · rcases (hf.1 w hw).2 with h0 | hwf
      · omega
      · rw [if_neg m_n10, m_goes hw h16 hwf (hl w hw) (show p < n w by omega) hu hv, Option.bind_some] at e0
        obtain ⟨r, e1, e2, e3⟩ := m_next2 hf hl hu hv so hw d (p + 1) m (if m_go (le w p) (m_so so u w p) (m_so so u w (p + 1)) (m_so so u w (m_E (le w) (n w) (p + 1))) (m_so so v w p) (m_so so v w (p + 1)) = true then 1 else 0) (by omega) (by omega) (by
          cases m_go (le w p) (m_so so u w p) (m_so so u w (p + 1)) (m_so so u w (m_E (le w) (n w) (p + 1))) (m_so so v w p) (m_so so v w (p + 1))
          · exact Or.inr rfl
          · exact Or.inl rfl)
        refine ⟨r, e0.trans e1, e2, e3.trans ⟨fun ⟨z1, z2⟩ => ⟨rfl, fun q h1 h2 => ?_⟩, fun ⟨_, z⟩ => ⟨?_, fun q h1 h2 => z q (by omega) h2⟩⟩⟩
        · by_cases hq : q = p
          · subst hq
            refine Classical.byContradiction fun z => ?_
            rw [if_neg z] at z1
            exact absurd z1 (by decide)
          · exact z2 q (by omega) h2
        · exact if_pos (z p (Nat.le_refl _) (by omega))
    · rw [if_pos rfl] at e0
      exact ⟨0, e0, Or.inr rfl, ⟨fun z => absurd z (by decide), fun z => absurd z.1 (by decide)⟩⟩
theorem m_next {le : Nat → Nat → Int32} {n : Nat → Nat} (hf : m_fs le n) {letter sizes lnum many : Nat → Int32} (hl : m_lays le n letter sizes lnum many) {u v : Nat} (hu : u < 64) (hv : v < 64) (so : Nat → Int32) : ∃ r, F_M_areNext m_N letter sizes many so (nI u) (nI v) = some r ∧ (r = 1 ∨ r = 0) ∧ (r = 1 ↔ m_ok le n (m_so so u) (m_so so v)) := by
  have h0 := (hf.1 0 (by omega)).1
  have h1 := (hf.1 1 (by omega)).1
  obtain ⟨r, a1, a2, a3⟩ := m_next2 hf hl hu hv so (w := 0) (by omega) (n 0) 0 m_N 1 (by omega) (by show _ < 5000; omega) (Or.inl rfl)
  obtain ⟨r2, b1, b2, b3⟩ := m_next2 hf hl hu hv so (w := 1) (by omega) (n 1) 0 m_N r (by omega) (by show _ < 5000; omega) a2
  refine ⟨r2, ?_, b2, b3.trans ⟨fun ⟨z1, z2⟩ w hw p hp => ?_, fun z => ⟨a3.mpr ⟨rfl, fun q _ h => z 0 (by omega) q h⟩, fun q _ h => z 1 (by omega) q h⟩⟩⟩
  · simp only [F_M_areNext]
    rw [show m_N = 4997 + 1 + 1 + 1 from rfl] at a1 b1 ⊢
    rw [M_areNext_l1_s, if_neg (by decide)]
    rw [show M_areNext_l2 0 many letter sizes so (nI u) (nI v) (4997 + 1 + 1 + 1) 1 0 = _ from a1, Option.bind_some, M_areNext_l1_s, if_neg (by decide)]
    rw [show M_areNext_l2 (0 + 1) many letter sizes so (nI u) (nI v) (4997 + 1 + 1 + 1) r 0 = _ from b1, Option.bind_some, M_areNext_l1_s, if_pos (by decide), Option.bind_some]
    rcases b2 with rfl | rfl <;> rfl
  · rcases (show w = 0 ∨ w = 1 by omega) with rfl | rfl
    · exact (a3.mp z1).2 p (by omega) hp
    · exact z2 p (by omega) hp
