/-! the reference: a told row judged, all parts -/
def m_V (letter sizes lnum many shown g : Nat → Int32) (i q : Nat) : Bool := m_b (m_pv letter sizes lnum many (shown i) (g i)) q
/-- a later part is told well at all places -/
def m_good (le : Nat → Int32) (n L k : Nat) (V : Nat → Nat → Bool) (q : Nat) : Prop := ∀ i, i < L → m_go (le q) (V i q) (V i (q + 1)) (V i (m_E le n (q + 1))) (V (m_nx L k i) q) (V (m_nx L k i) (q + 1)) = true ∧ ∃ m, m_calm (le q) (V (m_itr (m_nx L k) m i) q) (V (m_itr (m_nx L k) m i) (q + 1)) (V (m_itr (m_nx L k) m i) (m_E le n (q + 1))) = true
theorem m_itr_lt {L k : Nat} (hk : k < L) : ∀ m i, i < L → m_itr (m_nx L k) m i < L
  | 0, i, h => h
  | m + 1, i, _ => m_itr_lt hk m (m_nx L k i) (m_nx_lt hk)
theorem m_good_keep {le : Nat → Int32} {n L k : Nat} (hk : k < L) {V V' : Nat → Nat → Bool} {q : Nat} (h : m_good le n L k V q) (hV : ∀ i, i < L → ∀ q', q ≤ q' → V' i q' = V i q') : m_good le n L k V' q := by
  intro i hi
  have hE : q + 1 ≤ m_E le n (q + 1) := m_end_ge le (n - (q + 1)) 1 (q + 1)
  obtain ⟨h1, m, h2⟩ := h i hi
  have hnx := m_nx_lt (i := i) hk
  have him := m_itr_lt hk m i hi
  refine ⟨?_, m, ?_⟩
  · rw [hV i hi q (by omega), hV i hi (q + 1) (by omega), hV i hi _ (by omega), hV _ hnx q (by omega), hV _ hnx (q + 1) (by omega)]
    exact h1
  · rw [hV _ him q (by omega), hV _ him (q + 1) (by omega), hV _ him _ (by omega)]
    exact h2
theorem m_and1b (x : Int32) : x &&& 1 = if m_b x 0 = true then 1 else 0 := by
  apply m_b_ext
  intro i hi
  rw [m_b_and, m_b_1]
  by_cases h0 : i = 0
  · subst h0
    cases m_b x 0 <;> decide
  · rw [decide_eq_false h0, Bool.and_false]
    by_cases hb : m_b x 0 = true
    · rw [if_pos hb, m_b_1, decide_eq_false h0]
    · rw [if_neg hb, m_b_0]
section
variable {le : Nat → Int32} {n : Nat} {letter sizes lnum many : Nat → Int32}
theorem m_tells (ho : m_one le n letter sizes lnum many) {L k p : Nat} (hL : L ≤ 8) (hk : k < L) (hp : p < n) (hlat : m_lat (le p)) (shown g0 : Nat → Int32) : ∃ g', F_M_tellsLater m_N (nI L) shown letter sizes lnum many g0 (nI p) (nI k) = some g' ∧ (∀ j, j < L → ∀ b, b < 32 → b ≠ m_LT le p → m_b (g' j) b = m_b (g0 j) b) ∧ m_good le n L k (m_V letter sizes lnum many shown g') p := by
  have hn := ho.1
  have hJ : m_LT le p < 3 := by
    have := m_LT_lt hp hlat
    have := ho.2.2.1
    omega
  have l1 : letter p = le p := by
    have := (ho.2.2.2.2 p hp).1
    rw [show 16 * 0 + p = p by omega] at this
    exact this
  have l3 : lnum p = nI (m_LT le p) := by
    have := (ho.2.2.2.2 p hp).2.2
    rw [show 16 * 0 + p = p by omega, m_ln1 hlat, Nat.zero_add] at this
    exact this
  have hbe : (if le p = 103 then (1 : Int32) else 0) = if m_be (le p) = true then 1 else 0 := m_ifeq (by unfold m_be; exact decide_eq_true_iff.symm) 1 0
  obtain ⟨g1, a1, a2, a3⟩ := m_it (fun m i g => M_tellsLater_l1 (nI L) lnum (nI p) letter m (nI i) g) id L (fun i0 g => (∀ j, j < i0 → ∀ b, b < 32 → m_b (g j) b = if b = m_LT le p then m_be (le p) else m_b (g0 j) b) ∧ ∀ j, i0 ≤ j → g j = g0 j)
    (fun m g _ => by simp (disch := omega) only [M_tellsLater_l1_s, m_le, if_pos, id])
    (fun m i g hi hI => by
      refine ⟨upd g i ((g i &&& (g_ishl 1 (nI (m_LT le p)) ^^^ -1)) ||| (if (if m_be (le p) = true then (1 : Int32) else 0) = 0 then (0 : Int32) else g_ishl 1 (nI (m_LT le p)))), ⟨fun j hj b hb => ?_, fun j hj => ?_⟩, ?_⟩
      · by_cases hji : j = i
        · subst hji
          rw [pk_us, m_setb _ hJ hb, hI.2 j (Nat.le_refl _)]
        · rw [pk_un hji]
          exact hI.1 j (by omega) b hb
      · rw [pk_un (by omega)]
        exact hI.2 j (by omega)
      · simp (disch := omega) only [M_tellsLater_l1_s, m_le, if_neg, m_inb, m_chkT, nI_clamp, nI_1, l1, l3, hbe])
    L 0 m_N g0 (by omega) (by show _ < 5000; omega) ⟨fun j hj => by omega, fun j _ => rfl⟩
  obtain ⟨g2, b1, b2, b3, b4, b5, b6⟩ := m_it (fun m t g => M_tellsLater_l2 m_N (nI L) letter sizes lnum many shown (nI k) (nI p) m (nI t) g) id (L + 1) (fun t g => (∀ j, j < L → ∀ b, b < 32 → b ≠ m_LT le p → m_b (g j) b = m_b (g0 j) b) ∧ (t = 0 → ∀ j, j < L → m_b (g j) (m_LT le p) = m_be (le p)) ∧ (t = 1 → m_S L (m_tl (le p) (fun j => m_b (m_pv letter sizes lnum many (shown j) (g0 j)) (p + 1)) (fun j => m_b (m_pv letter sizes lnum many (shown j) (g0 j)) (m_E le n (p + 1))) (m_nx L k)) (fun j => m_b (g j) (m_LT le p)) (m_be (le p))) ∧ (2 ≤ t → m_S L (m_tl (le p) (fun j => m_b (m_pv letter sizes lnum many (shown j) (g0 j)) (p + 1)) (fun j => m_b (m_pv letter sizes lnum many (shown j) (g0 j)) (m_E le n (p + 1))) (m_nx L k)) (fun j => m_b (g j) (m_LT le p)) (m_b (g k) (m_LT le p))) ∧ ∀ j, j < L → m_b (g j) (m_LT le p) = !m_be (le p) → ∃ m, m_Q (le p) (fun j => m_b (m_pv letter sizes lnum many (shown j) (g0 j)) (p + 1)) (fun j => m_b (m_pv letter sizes lnum many (shown j) (g0 j)) (m_E le n (p + 1))) (m_itr (m_nx L k) m j))
    (fun m g _ => by simp (disch := omega) only [M_tellsLater_l2_s, m_lt, if_pos, id])
    (fun m t g ht hI => by
      obtain ⟨i1, i2, i3, i4, i5⟩ := hI
      obtain ⟨g', c1, c2, c3, c4, c5, c6⟩ := m_tl3 ho hL hk hp hlat shown g0 (fun j => m_b (g j) (m_LT le p)) L m_N g (Nat.le_refl _) (by show _ < 5000; omega) ⟨i1, fun j _ => rfl, fun j h1 h2 => by omega, fun h => by omega, i5⟩
      have hS : m_S L (m_tl (le p) (fun j => m_b (m_pv letter sizes lnum many (shown j) (g0 j)) (p + 1)) (fun j => m_b (m_pv letter sizes lnum many (shown j) (g0 j)) (m_E le n (p + 1))) (m_nx L k)) (fun j => m_b (g' j) (m_LT le p)) (m_b (g k) (m_LT le p)) := ⟨fun j hj => c4 j (Nat.zero_le _) hj, c5 (by omega)⟩
      refine ⟨g', ⟨c2, fun h => by omega, fun h => ?_, fun h => ?_, c6⟩, ?_⟩
      · rw [i2 (by omega) k hk] at hS
        exact hS
      · by_cases h1 : t = 1
        · exact m_S_fix hk (fun j => m_tl_mono hlat _ _ _ j) (i3 h1) hS
        · exact m_S_stay hk (i4 (by omega)) hS
      · simp (disch := omega) only [M_tellsLater_l2_s, m_lt, if_neg, nI_1]
        rw [Int32.sub_eq_add_neg, show -(1 : Int32) = -1 from rfl, c1, Option.bind_some])
    (L + 1) 0 m_N g1 (by omega) (by show _ < 5000; omega) ⟨fun j hj b hb hne => by rw [a2 j hj b hb, if_neg hne], fun _ j hj => by rw [a2 j hj _ (by omega), if_pos rfl], fun h => by omega, fun h => by omega, fun j hj z => by
      rw [a2 j hj _ (by omega), if_pos rfl] at z
      revert z
      cases m_be (le p) <;> exact fun z => absurd z (by decide)⟩
  refine ⟨g2, ?_, b2, fun i hi => ?_⟩
  · simp (disch := omega) only [F_M_tellsLater, m_inb, m_chkT]
    rw [show M_tellsLater_l1 (nI L) lnum (nI p) letter m_N 0 g0 = _ from a1, Option.bind_some, show M_tellsLater_l2 m_N (nI L) letter sizes lnum many shown (nI k) (nI p) m_N 0 (id g1) = _ from b1]
    rfl
  · have hS := b5 (by omega)
    have hx := m_S_nx hk hS hi
    have hE := m_E_le (le := le) (n := n) (q := p + 1) (by omega)
    have hVp : ∀ j, m_V letter sizes lnum many shown g2 j p = m_b (g2 j) (m_LT le p) := fun j => m_pv_lat ho _ _ hp hlat
    have hVa : ∀ j, j < L → m_V letter sizes lnum many shown g2 j (p + 1) = m_b (m_pv letter sizes lnum many (shown j) (g0 j)) (p + 1) := fun j hj => m_pv_keep ho hp hlat (b2 j hj) (by omega)
    have hVb : ∀ j, j < L → m_V letter sizes lnum many shown g2 j (m_E le n (p + 1)) = m_b (m_pv letter sizes lnum many (shown j) (g0 j)) (m_E le n (p + 1)) := fun j hj => m_pv_keep ho hp hlat (b2 j hj) (by omega)
    have hnx := m_nx_lt (i := i) hk
    constructor
    · rw [hVp, hVp, hVa i hi, hVa _ hnx, hVb i hi]
      have hx' : m_b (g2 i) (m_LT le p) = m_tl (le p) (fun j => m_b (m_pv letter sizes lnum many (shown j) (g0 j)) (p + 1)) (fun j => m_b (m_pv letter sizes lnum many (shown j) (g0 j)) (m_E le n (p + 1))) (m_nx L k) i (m_b (g2 (m_nx L k i)) (m_LT le p)) := hx
      rw [hx']
      clear hx hx' hS b1 b2 b3 b4 b5 b6 a1 a2 a3 l1 l3 hbe hJ hVp hVa hVb
      have hlat' : le p = 120 ∨ le p = 102 ∨ le p = 103 ∨ le p = 117 := hlat
      rcases hlat' with z | z | z | z
      · rw [z]
        exact beq_self_eq_true _
      · rw [z]
        exact beq_self_eq_true _
      · rw [z]
        exact beq_self_eq_true _
      · rw [z]
        exact beq_self_eq_true _
    · by_cases hb : m_b (g2 i) (m_LT le p) = !m_be (le p)
      · obtain ⟨m, hm⟩ := b6 i hi hb
        have him := m_itr_lt hk m i hi
        refine ⟨m, ?_⟩
        rw [hVa _ him, hVb _ him]
        have hlat' : le p = 120 ∨ le p = 102 ∨ le p = 103 ∨ le p = 117 := hlat
        rcases hlat' with z | z | z | z
        · rw [z]
          rfl
        · rw [z] at hm ⊢
          have hm' : m_b (m_pv letter sizes lnum many (shown (m_itr (m_nx L k) m i)) (g0 (m_itr (m_nx L k) m i))) (p + 1) = true := hm
          rw [hm']
          show (!_ || true) = true
          rw [Bool.or_true]
        · rw [z] at hm ⊢
          have hm' : m_b (m_pv letter sizes lnum many (shown (m_itr (m_nx L k) m i)) (g0 (m_itr (m_nx L k) m i))) (p + 1) = false := hm
          rw [hm']
          show (_ || !false) = true
          rw [Bool.not_false, Bool.or_true]
        · rw [z] at hm ⊢
          have hm' : m_b (m_pv letter sizes lnum many (shown (m_itr (m_nx L k) m i)) (g0 (m_itr (m_nx L k) m i))) (m_E le n (p + 1)) = true := hm
          rw [hm']
          show (!_ || true) = true
          rw [Bool.or_true]
      · refine ⟨0, ?_⟩
        show m_calm (le p) (m_V letter sizes lnum many shown g2 i p) _ _ = true
        rw [hVp]
        have hb2 : m_b (g2 i) (m_LT le p) = m_be (le p) := by
          revert hb
          cases m_b (g2 i) (m_LT le p) <;> cases m_be (le p) <;> decide
        rw [hb2]
        have hlat' : le p = 120 ∨ le p = 102 ∨ le p = 103 ∨ le p = 117 := hlat
        rcases hlat' with z | z | z | z
        · rw [z]
          rfl
        · rw [z]
          rfl
        · rw [z]
          rfl
        · rw [z]
          rfl
theorem m_jl2 (ho : m_one le n letter sizes lnum many) {L k : Nat} (hL : L ≤ 8) (hk : k < L) (shown : Nat → Int32) (x : Int32) : ∀ (p m : Nat) (g : Nat → Int32), p ≤ n → p < m → (∀ q, p ≤ q → q < n → m_lat (le q) → m_good le n L k (m_V letter sizes lnum many shown g) q) → ∃ g', M_judgedAt_l2 m_N (x, letter, sizes, lnum, many) (nI L) shown (nI k) m (nI p + -1) g = some g' ∧ ∀ q, q < n → m_lat (le q) → m_good le n L k (m_V letter sizes lnum many shown g') q
  | 0, m + 1, g, _, _, hI => ⟨g, by rw [M_judgedAt_l2_s, if_pos (by decide)], fun q hq => hI q (Nat.zero_le _) hq⟩
  | p + 1, m + 1, g, hp, hm, hI => by
    have hn := ho.1
    have l3 := (ho.2.2.2.2 p (by omega)).2.2
    rw [show 16 * 0 + p = p by omega, Nat.zero_add] at l3
    have e0 := M_judgedAt_l2_s m_N (x, letter, sizes, lnum, many) (nI L) shown (nI k) m (nI p) g
    simp (disch := omega) only [m_0lt, if_false, m_inb, m_chkT, nI_clamp, l3] at e0
    rw [m_n01', e0]
    by_cases hlat : m_lat (le p)
    · have hJ : m_LT le p < 3 := by
        have := m_LT_lt (show p < n by omega) hlat
        have := ho.2.2.1
        omega
      have hne : ¬ nI (m_LT le p) = -9 := fun z => nI_pos (n := m_LT le p) (by omega) (by rw [z]; decide)
      obtain ⟨g', c1, c2, c3⟩ := m_tells ho hL hk (show p < n by omega) hlat shown g
      rw [m_ln1 hlat, if_neg hne, c1, Option.bind_some, Option.bind_some]
      refine m_jl2 ho hL hk shown x p m g' (by omega) (by omega) (fun q h1 h2 h3 => ?_)
      by_cases hqp : q = p
      · subst hqp
        exact c3
      · exact m_good_keep hk (hI q (by omega) h2 h3) (fun i hi q' hq' => m_pv_keep ho (show p < n by omega) hlat (c2 i hi) (by omega))
    · rw [m_ln0 hlat, if_pos rfl, Option.bind_some]
      refine m_jl2 ho hL hk shown x p m g (by omega) (by omega) (fun q h1 h2 h3 => ?_)
      by_cases hqp : q = p
      · subst hqp
        exact absurd h3 hlat
      · exact hI q (by omega) h2 h3
end
theorem m_judgedM {now le : Nat → Int32} {n L k : Nat} (hn : n ≤ 16) (hw : m_WF le n) (h3 : m_LT le n ≤ 3) (h0 : now 37 = nI n) (hr : ∀ q, q < n → now (37 + 1 + q) = le q) (hL : L ≤ 8) (hk : k < L) (shown letter sizes lnum many guess : Nat → Int32) : ∃ (V : Nat → Nat → Bool) (oM : Int32 × Int32 × (Nat → Int32) × (Nat → Int32) × (Nat → Int32) × (Nat → Int32) × (Nat → Int32)), F_M_judgedAt m_N (nI L) now shown letter sizes lnum many guess (nI k) = some oM ∧ oM.1 = (if V 0 0 = true then 1 else 0) ∧ (∀ i, m_val le n (shown i) (V i) (V i)) ∧ ∀ q, q < n → m_lat (le q) → m_good le n L k V q := by
  obtain ⟨A, S, B, mn, e1, e2, e3⟩ := m_laysO hn hw h0 hr letter sizes lnum many
  have ho : m_one le n A S B mn := ⟨hn, hw, h3, e2⟩
  obtain ⟨g1, a1, -⟩ := m_it (fun m i g => M_judgedAt_l1 (nI L) m (nI i) g) id L (fun _ _ => True)
    (fun m g _ => by simp (disch := omega) only [M_judgedAt_l1_s, m_le, if_pos, id])
    (fun m i g hi hI => ⟨upd g i 0, trivial, by simp (disch := omega) only [M_judgedAt_l1_s, m_le, if_neg, m_inb, m_chkT, nI_clamp, nI_1]⟩)
    L 0 m_N guess (by omega) (by show _ < 5000; omega) trivial
  obtain ⟨g2, b1, b2⟩ := m_jl2 ho hL hk shown (nI (m_LT le n)) n m_N g1 (Nat.le_refl _) (by show _ < 5000; omega) (fun q h1 h2 => by omega)
  refine ⟨m_V A S B mn shown g2, (m_pv A S B mn (shown 0) (g2 0) &&& 1, nI (m_LT le n), A, S, B, mn, g2), ?_, ?_, fun i => ?_, b2⟩
  · simp only [F_M_judgedAt, e1, Option.bind_some]
    rw [show M_judgedAt_l1 (nI L) m_N 0 guess = _ from a1, Option.bind_some, show mn 0 = nI n from e2.1, Int32.sub_eq_add_neg, show -(1 : Int32) = -1 from rfl, show M_judgedAt_l2 m_N (nI (m_LT le n), A, S, B, mn) (nI L) shown (nI k) m_N (nI n + -1) (id g1) = _ from b1, Option.bind_some]
    rw [(m_pvs ho (shown 0) (g2 0)).1, Option.bind_some]
  · dsimp only
    rw [m_and1b]
    rfl
  · obtain ⟨-, c1, c2⟩ := m_pvs ho (shown i) (g2 i)
    intro p hp
    have hc := c1 p hp
    by_cases hl : m_lat (le p)
    · have h9 := m_pv_lat ho (shown i) (g2 i) hp hl
      show m_b (m_pv A S B mn (shown i) (g2 i)) p = m_sem (le p) (shown i) (m_b (m_pv A S B mn (shown i) (g2 i)) p) _ _
      rw [h9] at hc ⊢
      exact hc
    · refine hc.trans ?_
      have hlt := m_letters (hw.1 p hp).1
      show m_sem (le p) (shown i) _ _ _ = m_sem (le p) (shown i) (m_b (m_pv A S B mn (shown i) (g2 i)) p) _ _
      clear hc c1 c2
      generalize le p = c at hl hlt
      rcases hlt with rfl | rfl | rfl | rfl | rfl | rfl | rfl | rfl | rfl | rfl | rfl | rfl
      · rfl
      · rfl
      · rfl
      · rfl
      · rfl
      · rfl
      · rfl
      · rfl
      · exact absurd (Or.inl rfl) hl
      · exact absurd (Or.inr (Or.inl rfl)) hl
      · exact absurd (Or.inr (Or.inr (Or.inl rfl))) hl
      · exact absurd (Or.inr (Or.inr (Or.inr rfl))) hl
