/-! both sides: the same graph under other names -/
theorem m_ix_o2 {le : Nat → Nat → Int32} {n : Nat → Nat} {w p : Nat} (hw : w < 2) (hp : p < n w) (hl : m_lat (le w p)) : m_ix (m_LT (le 0) (n 0)) (m_LT (le 1) (n 1)) (m_o le n w + m_LT (le w) p) = m_o le n w + (m_LT (le w) (n w) - 1 - m_LT (le w) p) := by
  have h1 := m_LT_lt hp hl
  rcases (show w = 0 ∨ w = 1 by omega) with rfl | rfl
  · simp only [m_o, if_true, Nat.zero_add, m_ix]
    rw [if_pos (by omega)]
  · simp only [m_o, show ¬ (1 : Nat) = 0 by omega, if_false, m_ix]
    rw [if_neg (by omega)]
    omega
theorem m_go_congr {le : Nat → Int32} {n : Nat} (hw : m_WF le n) {p : Nat} (hp : p < n) {V U V' U' : Nat → Bool} (h : ∀ p, p < n → V p = U p) (h' : ∀ p, p < n → V' p = U' p) : m_go (le p) (V p) (V (p + 1)) (V (m_E le n (p + 1))) (V' p) (V' (p + 1)) = m_go (le p) (U p) (U (p + 1)) (U (m_E le n (p + 1))) (U' p) (U' (p + 1)) := by
  by_cases hl : m_lat (le p)
  · have hE := (m_Es hw hp).2.2
    have hs : m_ar (le p) = 2 → V (m_E le n (p + 1)) = U (m_E le n (p + 1)) := fun z => by
      rcases hE with ⟨b1, b2⟩ | ⟨b1, b2, b3⟩ | ⟨b1, b2, b3, b4, b5⟩
      · omega
      · omega
      · exact h _ b4
    have hp1 : p + 1 < n := by
      rcases hE with ⟨b1, b2⟩ | ⟨b1, b2, b3⟩ | ⟨b1, b2, b3, b4, b5⟩
      · exfalso
        clear hs
        generalize le p = c at hl b1
        rcases hl with rfl | rfl | rfl | rfl
        · exact absurd b1 (by decide)
        · exact absurd b1 (by decide)
        · exact absurd b1 (by decide)
        · exact absurd b1 (by decide)
      · exact b2
      · exact b2
    rw [h p hp, h (p + 1) hp1, h' p hp, h' (p + 1) hp1]
    generalize le p = c at hl hs
    rcases hl with rfl | rfl | rfl | rfl
    · rfl
    · rfl
    · rfl
    · rw [hs (by decide)]
  · rw [m_go_no hl, m_go_no hl]
theorem m_calm_no {c : Int32} (hc : ¬ m_lat c) (x1 x2 x3 : Bool) : m_calm c x1 x2 x3 = true := by
  simp only [m_lat, not_or] at hc
  obtain ⟨h1, h2, h3, h4⟩ := hc
  simp only [m_calm, h2, h3, h4, if_false]
theorem m_calm_congr {le : Nat → Int32} {n : Nat} (hw : m_WF le n) {p : Nat} (hp : p < n) {V U : Nat → Bool} (h : ∀ p, p < n → V p = U p) : m_calm (le p) (V p) (V (p + 1)) (V (m_E le n (p + 1))) = m_calm (le p) (U p) (U (p + 1)) (U (m_E le n (p + 1))) := by
  by_cases hl : m_lat (le p)
  · have hE := (m_Es hw hp).2.2
    have hs : m_ar (le p) = 2 → V (m_E le n (p + 1)) = U (m_E le n (p + 1)) := fun z => by
      rcases hE with ⟨b1, b2⟩ | ⟨b1, b2, b3⟩ | ⟨b1, b2, b3, b4, b5⟩
      · omega
      · omega
      · exact h _ b4
    have hp1 : p + 1 < n := by
      rcases hE with ⟨b1, b2⟩ | ⟨b1, b2, b3⟩ | ⟨b1, b2, b3, b4, b5⟩
      · exfalso
        clear hs
        generalize le p = c at hl b1
        rcases hl with rfl | rfl | rfl | rfl
        · exact absurd b1 (by decide)
        · exact absurd b1 (by decide)
        · exact absurd b1 (by decide)
        · exact absurd b1 (by decide)
      · exact b2
      · exact b2
    rw [h p hp, h (p + 1) hp1]
    generalize le p = c at hl hs
    rcases hl with rfl | rfl | rfl | rfl
    · rfl
    · rfl
    · rfl
    · rw [hs (by decide)]
  · rw [m_calm_no hl, m_calm_no hl]
theorem m_fs_wf {le : Nat → Nat → Int32} {n : Nat → Nat} (hf : m_fs le n) {w p : Nat} (hw : w < 2) (hp : p < n w) : m_WF (le w) (n w) := by
  rcases (hf.1 w hw).2 with h0 | h0
  · omega
  · exact h0
theorem m_ok_congr {le : Nat → Nat → Int32} {n : Nat → Nat} (hf : m_fs le n) {V U V' U' : Nat → Nat → Bool} (h : ∀ w, w < 2 → ∀ p, p < n w → V w p = U w p) (h' : ∀ w, w < 2 → ∀ p, p < n w → V' w p = U' w p) : m_ok le n V V' ↔ m_ok le n U U' := by
  refine forall_congr' fun w => forall_congr' fun hw => forall_congr' fun p => forall_congr' fun hp => ?_
  rw [m_go_congr (m_fs_wf hf hw hp) hp (h w hw) (h' w hw)]
theorem m_cl_congr {le : Nat → Nat → Int32} {n : Nat → Nat} (hf : m_fs le n) {V U : Nat → Nat → Bool} (h : ∀ w, w < 2 → ∀ p, p < n w → V w p = U w p) {w p : Nat} (hw : w < 2) (hp : p < n w) : m_cl le n V w p = m_cl le n U w p := m_calm_congr (m_fs_wf hf hw hp) hp (h w hw)
abbrev m_pf (le : Nat → Nat → Int32) (n : Nat → Nat) (u : Nat) : Nat := m_pi (m_LT (le 0) (n 0)) (m_LT (le 1) (n 1)) u
/-- formulas laid at both sides over the same places -/
def m_lk (le : Nat → Nat → Int32) (n : Nat → Nat) (P : Nat) (lab : Nat → Int32) (cso wt mw gl : Nat → Int64) (an rso : Nat → Int32) : Prop := m_fs le n ∧ P ≤ 8 ∧ m_told le n P lab cso wt mw gl an ∧ ∀ u, u < P * 2 ^ m_G le n → ∀ w, w < 2 → m_val (le w) (n w) (lab (u / 2 ^ m_G le n)) (fun p => (u % 2 ^ m_G le n).testBit (m_o le n w + m_LT (le w) p)) (m_so rso u w)
section
variable {le : Nat → Nat → Int32} {n : Nat → Nat} {P : Nat} {lab : Nat → Int32} {cso wt mw gl : Nat → Int64} {an rso : Nat → Int32}
theorem m_lk_64 (h : m_lk le n P lab cso wt mw gl an rso) : P * 2 ^ m_G le n ≤ 64 := by
  have h8 := m_p8 h.1.2
  have : P * 2 ^ m_G le n ≤ 8 * 8 := Nat.mul_le_mul h.2.1 h8.2
  omega
theorem m_lk_pf (h : m_lk le n P lab cso wt mw gl an rso) {a : Nat} (ha : a < P * 2 ^ m_G le n) : m_pf le n a < P * 2 ^ m_G le n ∧ m_pf le n (m_pf le n a) = a ∧ m_pf le n a / 2 ^ m_G le n = a / 2 ^ m_G le n := by
  have h1 := m_pi_lt h.1.2 ha
  exact ⟨h1.1, h1.2, (m_piP h.1.2 a).1⟩
theorem m_lk_v (h : m_lk le n P lab cso wt mw gl an rso) {a : Nat} (ha : a < P * 2 ^ m_G le n) : ∀ w, w < 2 → ∀ p, p < n w → m_cv cso a w p = m_so rso (m_pf le n a) w p := by
  intro w hw p hp
  obtain ⟨hf, hP, ht, hr⟩ := h
  have hwf := m_fs_wf hf hw hp
  have h1 : m_val (le w) (n w) (lab (a / 2 ^ m_G le n)) (fun p => a.testBit (m_o le n w + (m_LT (le w) (n w) - 1 - m_LT (le w) p))) (m_cv cso a w) := fun q hq => (ht w hw q (Nat.zero_le _) hq).1 a ha
  obtain ⟨e1, _, e3, e4⟩ := m_piP hf.2 a
  have h2 := hr (m_pf le n a) (m_pi_lt hf.2 ha).1 w hw
  have e1' : m_pf le n a / 2 ^ m_G le n = a / 2 ^ m_G le n := e1
  rw [e1'] at h2
  refine m_val_eq hwf h1 h2 (fun q hq hl => ?_) (n w - p) p (by omega) (by omega)
  have h3 := m_LT_lt hq hl
  have h4 := (m_o_le hf hw).1
  have h5 := e4 (m_o le n w + m_LT (le w) q) (by have : m_G le n = m_LT (le 0) (n 0) + m_LT (le 1) (n 1) := rfl; omega)
  have h6 : m_pf le n a % 2 ^ m_G le n = m_pi (m_LT (le 0) (n 0)) (m_LT (le 1) (n 1)) a % 2 ^ (m_LT (le 0) (n 0) + m_LT (le 1) (n 1)) := rfl
  show a.testBit _ = (m_pf le n a % 2 ^ m_G le n).testBit _
  rw [h6, h5, m_ix_o2 hw hq hl, Nat.testBit_mod_two_pow, decide_eq_true (show m_o le n w + (m_LT (le w) (n w) - 1 - m_LT (le w) q) < m_LT (le 0) (n 0) + m_LT (le 1) (n 1) by have : m_G le n = m_LT (le 0) (n 0) + m_LT (le 1) (n 1) := rfl; omega), Bool.true_and]
theorem m_told_an (h : m_told le n P lab cso wt mw gl an) : ∀ j, j < m_G le n → an j = 0 ∨ an j = 1 := by
  intro j hj
  obtain ⟨w, p, hw, hp, hl, rfl⟩ := m_surC hj
  have h1 := ((h w hw p (Nat.zero_le _) hp).2 hl).1
  rw [h1]
  by_cases hc : le w p = 120
  · exact Or.inr (if_pos hc)
  · exact Or.inl (if_neg hc)
theorem m_lk_X (h : m_lk le n P lab cso wt mw gl an rso) {T : Nat → Nat → Nat → Prop} (hT : ∀ k s t, T k s t → k < 3) (k a b : Nat) : m_CX P (m_G le n) T wt mw gl an k a b ↔ a < P * 2 ^ m_G le n ∧ b < P * 2 ^ m_G le n ∧ m_edge le n rso T k (m_pf le n a) (m_pf le n b) := by
  refine ⟨fun ⟨z1, z2, z3, z4, z5⟩ => ⟨z2, z3, ?_, ?_⟩, fun ⟨z2, z3, z4, z5⟩ => ⟨?_, z2, z3, ?_, ?_⟩⟩
  · rw [(m_lk_pf h z2).2.2, (m_lk_pf h z3).2.2]
    exact z4
  · exact (m_ok_congr h.1 (m_lk_v h z2) (m_lk_v h z3)).mp ((m_ok_cj h.2.2.1 h.1 z2 z3).mp z5)
  · exact hT _ _ _ z4
  · rw [(m_lk_pf h z2).2.2, (m_lk_pf h z3).2.2] at z4
    exact z4
  · exact (m_ok_cj h.2.2.1 h.1 z2 z3).mpr ((m_ok_congr h.1 (m_lk_v h z2) (m_lk_v h z3)).mpr z5)
/-- calm: as the class keeps it -/
theorem m_lk_calm (h : m_lk le n P lab cso wt mw gl an rso) {w p a : Nat} (hw : w < 2) (hp : p < n w) (hl : m_lat (le w p)) (ha : a < P * 2 ^ m_G le n) : (m_cl le n (m_so rso (m_pf le n a)) w p = true) ↔ (le w p = 120 ∨ m_B (wt (m_o le n w + (m_LT (le w) (n w) - 1 - m_LT (le w) p))) a = false ∨ m_B (gl (m_o le n w + (m_LT (le w) (n w) - 1 - m_LT (le w) p))) a = true) := by
  rw [← m_cl_congr h.1 (m_lk_v h ha) hw hp]
  obtain ⟨d1, d2⟩ := (h.2.2.1 w hw p (Nat.zero_le _) hp).2 hl
  obtain ⟨d3, _, d5⟩ := d2 a ha
  rw [d3, d5]
  show m_calm (le w p) (m_B (cso (16 * w + p)) a) (m_B (cso (16 * w + (p + 1))) a) (m_B (cso (16 * w + m_E (le w) (n w) (p + 1))) a) = true ↔ _
  generalize m_B (cso (16 * w + p)) a = x1
  generalize m_B (cso (16 * w + (p + 1))) a = x2
  generalize m_B (cso (16 * w + m_E (le w) (n w) (p + 1))) a = x3
  clear d1 d2 d3 d5
  generalize le w p = c at hl
  rcases hl with rfl | rfl | rfl | rfl
  · exact ⟨fun _ => Or.inl rfl, fun _ => rfl⟩
  · cases x1 <;> cases x2 <;> cases x3 <;> decide
  · cases x1 <;> cases x2 <;> cases x3 <;> decide
  · cases x1 <;> cases x2 <;> cases x3 <;> decide
theorem m_num_inj (hf : m_fs le n) {w p w' p' : Nat} (hw : w < 2) (hp : p < n w) (hl : m_lat (le w p)) (hw' : w' < 2) (hp' : p' < n w') (hl' : m_lat (le w' p')) (he : m_o le n w + m_LT (le w) p = m_o le n w' + m_LT (le w') p') : w = w' ∧ p = p' := by
  have h1 := m_LT_lt hp hl
  have h2 := m_LT_lt hp' hl'
  have hww : w = w' := by
    rcases (show w = 0 ∨ w = 1 by omega) with rfl | rfl <;> rcases (show w' = 0 ∨ w' = 1 by omega) with rfl | rfl
    · rfl
    · simp only [m_o, if_true, show ¬ (1 : Nat) = 0 by omega, if_false] at he
      omega
    · simp only [m_o, if_true, show ¬ (1 : Nat) = 0 by omega, if_false] at he
      omega
    · rfl
  subst hww
  refine ⟨rfl, ?_⟩
  rcases Nat.lt_trichotomy p p' with h | h | h
  · have := m_LT_lt h hl
    omega
  · exact h
  · have := m_LT_lt h hl'
    omega
/-- what a node of the reference meets -/
def m_MT (le : Nat → Nat → Int32) (n : Nat → Nat) (rso : Nat → Int32) (H : Nat → Nat → Prop) (fair : Prop) (u i : Nat) : Prop := m_mt le n (m_so rso u) i ∧ ∀ ac, ac < 2 → ¬ (H ac (u / 2 ^ m_G le n) ∧ fair ∧ i = ac + 3)
theorem m_mt_of (hf : m_fs le n) {V : Nat → Nat → Bool} {w p : Nat} (hw : w < 2) (hp : p < n w) (hl : m_lat (le w p)) : m_mt le n V (m_o le n w + m_LT (le w) p) ↔ m_cl le n V w p = true := by
  have h1 := m_LT_lt hp hl
  have h2 := (m_o_le hf hw).2
  refine ⟨fun z => z.2 w hw p hp hl rfl, fun z => ⟨by omega, fun w' hw' p' hp' hl' he => ?_⟩⟩
  obtain ⟨rfl, rfl⟩ := m_num_inj hf hw' hp' hl' hw hp hl he
  exact z
theorem m_mt_no (hf : m_fs le n) {V : Nat → Nat → Bool} {i : Nat} (h5 : i < 5) (hi : m_G le n ≤ i) : m_mt le n V i := by
  refine ⟨h5, fun w hw p hp hl he => ?_⟩
  have h1 := m_LT_lt hp hl
  have h2 := (m_o_le hf hw).1
  omega
theorem m_cond (h : m_lk le n P lab cso wt mw gl an rso) {tg : Nat → Nat → Int32} {fair : Prop} {D : Nat} {met mbs : Nat → Int32} (hd : m_dues (P * 2 ^ m_G le n) (m_G le n) (2 ^ m_G le n) wt gl an tg fair D met mbs) {H : Nat → Nat → Prop} (hH : fair → ∀ ac, ac < 2 → ∀ s, s < P → (tg ac s = 0 ↔ ¬ H ac s)) (S K : Nat → Prop) (hS : ∃ v, v < P * 2 ^ m_G le n ∧ S v) : (∀ i, i < D → (∃ v, v < P * 2 ^ m_G le n ∧ S v ∧ m_b (met v) i = true) ∨ (∃ k, k < 3 ∧ K k ∧ m_b (mbs k) i = true)) ↔ (∀ i, i < 5 → (∃ v, v < P * 2 ^ m_G le n ∧ S v ∧ m_MT le n rso H fair (m_pf le n v) i) ∨ (∃ k, k < 2 ∧ K k ∧ i = k + 3)) := by
  have hf := h.1
  have hG3 : m_G le n ≤ 3 := hf.2
  have h8 := m_p8 hf.2
  obtain ⟨v0, v1, v2⟩ := hS
  obtain ⟨d1, d2, d3, d4, d5, d6⟩ := hd
  have hdiv : ∀ v, v < P * 2 ^ m_G le n → v / 2 ^ m_G le n < P := fun v hv => (m_lt_node h8.1).mp hv
  refine ⟨fun hc i hi => ?_, fun hc b hb => ?_⟩
  · by_cases hiG : i < m_G le n
    · obtain ⟨w, p, hw, hp, hl, rfl⟩ := m_sur hiG
      have hno : ∀ u ac, ac < 2 → ¬ (H ac (u / 2 ^ m_G le n) ∧ fair ∧ m_o le n w + m_LT (le w) p = ac + 3) := fun u ac hac z => by omega
      by_cases hx : le w p = 120
      · exact Or.inl ⟨v0, v1, v2, (m_mt_of hf hw hp hl).mpr ((m_lk_calm h hw hp hl v1).mpr (Or.inl hx)), hno _⟩
      · have hj : m_o le n w + (m_LT (le w) (n w) - 1 - m_LT (le w) p) < m_G le n := by
          have := m_LT_lt hp hl
          have := (m_o_le hf hw).1
          omega
        have han : an (m_o le n w + (m_LT (le w) (n w) - 1 - m_LT (le w) p)) = 0 := by
          rw [((h.2.2.1 w hw p (Nat.zero_le _) hp).2 hl).1, if_neg hx]
        obtain ⟨b, b1, b2, b3⟩ := d5 _ hj han
        rcases hc b b1 with ⟨v, w1, w2, w3⟩ | ⟨k, w1, w2, w3⟩
        · exact Or.inl ⟨v, w1, w2, (m_mt_of hf hw hp hl).mpr ((m_lk_calm h hw hp hl w1).mpr (Or.inr ((b2 v w1).mp w3))), hno _⟩
        · exact ((b3 k w1).mp w3).elim
    · have hmt : ∀ u, m_mt le n (m_so rso u) i := fun u => m_mt_no hf hi (by omega)
      by_cases h3 : i < 3
      · exact Or.inl ⟨v0, v1, v2, hmt _, fun ac hac z => by omega⟩
      · by_cases hfair : fair
        · obtain ⟨b, b1, b2, b3⟩ := d6 hfair (i - 3) (by omega)
          rcases hc b b1 with ⟨v, w1, w2, w3⟩ | ⟨k, w1, w2, w3⟩
          · refine Or.inl ⟨v, w1, w2, hmt _, fun ac hac z => ?_⟩
            have he : ac = i - 3 := by omega
            subst he
            rw [(m_lk_pf h w1).2.2] at z
            exact (hH hfair _ hac _ (hdiv v w1)).mp ((b2 v w1).mp w3) z.1
          · have := (b3 k w1).mp w3
            exact Or.inr ⟨k, by omega, w2, by omega⟩
        · exact Or.inl ⟨v0, v1, v2, hmt _, fun ac hac z => hfair z.2.1⟩
  · rcases d4 b hb with ⟨j, j1, j2, j3, j4⟩ | ⟨hfair, ac, j1, j3, j4⟩
    · obtain ⟨w, p, hw, hp, hl, rfl⟩ := m_surC j1
      have hlt := m_LT_lt hp hl
      have hle := (m_o_le hf hw).2
      have hx : ¬ le w p = 120 := fun z => by
        rw [((h.2.2.1 w hw p (Nat.zero_le _) hp).2 hl).1, if_pos z] at j2
        exact absurd j2 (by decide)
      rcases hc (m_o le n w + m_LT (le w) p) (by omega) with ⟨v, w1, w2, w3, w4⟩ | ⟨k, w1, w2, w3⟩
      · refine Or.inl ⟨v, w1, w2, (j3 v w1).mpr ?_⟩
        rcases (m_lk_calm h hw hp hl w1).mp ((m_mt_of hf hw hp hl).mp w3) with z | z
        · exact absurd z hx
        · exact z
      · omega
    · rcases hc (ac + 3) (by omega) with ⟨v, w1, w2, w3, w4⟩ | ⟨k, w1, w2, w3⟩
      · refine Or.inl ⟨v, w1, w2, (j3 v w1).mpr ((hH hfair ac j1 _ (hdiv v w1)).mpr fun z => w4 ac j1 ⟨?_, hfair, rfl⟩)⟩
        rw [(m_lk_pf h w1).2.2]
        exact z
      · have : k = ac := by omega
        subst this
        exact Or.inr ⟨k, by omega, w2, (j4 k (by omega)).mpr rfl⟩
end
