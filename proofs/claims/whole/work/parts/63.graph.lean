/-! what is reached -/
def m_Wk (E : Nat → Nat → Prop) : Nat → Nat → Nat → Prop
  | 0, u, v => E u v
  | k + 1, u, v => m_Wk E k u v ∨ (m_Wk E k u k ∧ m_Wk E k k v)
theorem m_Wk_mono {E : Nat → Nat → Prop} {u v : Nat} : ∀ {k l : Nat}, k ≤ l → m_Wk E k u v → m_Wk E l u v
  | k, 0, h, z => by
    rw [show k = 0 by omega] at z
    exact z
  | k, l + 1, h, z => by
    by_cases hk : k = l + 1
    · rw [hk] at z
      exact z
    · exact Or.inl (m_Wk_mono (show k ≤ l by omega) z)
theorem m_Wk_tr {E : Nat → Nat → Prop} : ∀ (k : Nat) {u w v : Nat}, w < k → m_Wk E k u w → m_Wk E k w v → m_Wk E k u v
  | 0, u, w, v, h, _, _ => by omega
  | k + 1, u, w, v, h, h1, h2 => by
    have ih := @m_Wk_tr E k
    by_cases hw : w = k
    · subst hw
      have a1 : m_Wk E w u w := by rcases h1 with h1 | h1
                                   · exact h1
                                   · exact h1.1
      have a2 : m_Wk E w w v := by rcases h2 with h2 | h2
                                   · exact h2
                                   · exact h2.2
      exact Or.inr ⟨a1, a2⟩
    · have hw2 : w < k := by omega
      rcases h1 with h1 | ⟨h1, h3⟩
      · rcases h2 with h2 | ⟨h2, h4⟩
        · exact Or.inl (ih hw2 h1 h2)
        · exact Or.inr ⟨ih hw2 h1 h2, h4⟩
      · rcases h2 with h2 | ⟨h2, h4⟩
        · exact Or.inr ⟨h1, ih hw2 h3 h2⟩
        · exact Or.inr ⟨h1, h4⟩
theorem m_Wk_min {E T : Nat → Nat → Prop} (hE : ∀ u v, E u v → T u v) (hT : ∀ u w v, T u w → T w v → T u v) : ∀ (k : Nat) {u v : Nat}, m_Wk E k u v → T u v
  | 0, u, v, h => hE u v h
  | k + 1, u, v, h => by
    rcases h with h | ⟨h1, h2⟩
    · exact m_Wk_min hE hT k h
    · exact hT u k v (m_Wk_min hE hT k h1) (m_Wk_min hE hT k h2)
theorem m_Wk_kk {E : Nat → Nat → Prop} {k v : Nat} : m_Wk E (k + 1) k v ↔ m_Wk E k k v := by
  refine ⟨fun h => ?_, fun h => Or.inl h⟩
  rcases h with h | ⟨_, h⟩
  · exact h
  · exact h
theorem m_Wk_uk {E : Nat → Nat → Prop} {k u : Nat} : m_Wk E (k + 1) u k ↔ m_Wk E k u k := by
  refine ⟨fun h => ?_, fun h => Or.inl h⟩
  rcases h with h | ⟨h, _⟩
  · exact h
  · exact h
theorem m_Wk_lt {E : Nat → Nat → Prop} {N : Nat} (hE : ∀ u v, E u v → u < N ∧ v < N) (k : Nat) {u v : Nat} (h : m_Wk E k u v) : u < N ∧ v < N := by
  refine m_Wk_min (T := fun u v => u < N ∧ v < N) hE (fun u w v h1 h2 => ⟨h1.1, h2.2⟩) k h
/-- the same under other names -/
theorem m_Wk_map {E E' : Nat → Nat → Prop} {N : Nat} {f : Nat → Nat} (hf : ∀ u, u < N → f u < N ∧ f (f u) = u) (hE : ∀ u v, E u v → u < N ∧ v < N) (hE' : ∀ u v, E' u v ↔ u < N ∧ v < N ∧ E (f u) (f v)) {u v : Nat} (hu : u < N) (hv : v < N) : m_Wk E' N u v ↔ m_Wk E N (f u) (f v) := by
  refine ⟨fun h => ?_, fun h => ?_⟩
  · exact (m_Wk_min (T := fun u v => u < N ∧ v < N ∧ m_Wk E N (f u) (f v)) (fun u v h => ⟨((hE' u v).mp h).1, ((hE' u v).mp h).2.1, m_Wk_mono (Nat.zero_le _) ((hE' u v).mp h).2.2⟩) (fun u w v h1 h2 => ⟨h1.1, h2.2.1, m_Wk_tr N (hf w h1.2.1).1 h1.2.2 h2.2.2⟩) N h).2.2
  · have h9 := (m_Wk_min (E := E) (T := fun u v => u < N ∧ v < N ∧ m_Wk E' N (f u) (f v)) (fun u v h => ⟨(hE u v h).1, (hE u v h).2, m_Wk_mono (Nat.zero_le _) ((hE' (f u) (f v)).mpr ⟨(hf u (hE u v h).1).1, (hf v (hE u v h).2).1, by rw [(hf u (hE u v h).1).2, (hf v (hE u v h).2).2]; exact h⟩)⟩) (fun u w v h1 h2 => ⟨h1.1, h2.2.1, m_Wk_tr N (hf w h1.2.1).1 h1.2.2 h2.2.2⟩) N h).2.2
    rw [(hf u hu).2, (hf v hv).2] at h9
    exact h9
/-! guesses of both sides -/
def m_ix (a b j : Nat) : Nat := if j < a then a - 1 - j else 2 * a + b - 1 - j
def m_rv (a b g : Nat) : Nat := (if 0 < a + b ∧ g.testBit (m_ix a b 0) = true then 1 else 0) + (if 1 < a + b ∧ g.testBit (m_ix a b 1) = true then 2 else 0) + (if 2 < a + b ∧ g.testBit (m_ix a b 2) = true then 4 else 0)
theorem m_rvD1 : ∀ a : Fin 4, ∀ b : Fin 4, ∀ g : Fin 8, a.1 + b.1 < 4 → g.1 < 2 ^ (a.1 + b.1) → m_rv a.1 b.1 g.1 < 2 ^ (a.1 + b.1) ∧ m_rv a.1 b.1 (m_rv a.1 b.1 g.1) = g.1 := by decide +kernel
theorem m_rvD2 : ∀ a : Fin 4, ∀ b : Fin 4, ∀ g : Fin 8, ∀ j : Fin 3, a.1 + b.1 < 4 → g.1 < 2 ^ (a.1 + b.1) → j.1 < a.1 + b.1 → (m_rv a.1 b.1 g.1).testBit j.1 = g.1.testBit (m_ix a.1 b.1 j.1) := by decide +kernel
theorem m_rvD (a : Nat) (ha : a < 4) (b : Nat) (hb : b < 4) (h : a + b < 4) (g : Nat) (hg : g < 8) (h2 : g < 2 ^ (a + b)) : m_rv a b g < 2 ^ (a + b) ∧ m_rv a b (m_rv a b g) = g ∧ ∀ j, j < 3 → j < a + b → (m_rv a b g).testBit j = g.testBit (m_ix a b j) := by
  have h1 := m_rvD1 ⟨a, ha⟩ ⟨b, hb⟩ ⟨g, hg⟩ h h2
  exact ⟨h1.1, h1.2, fun j hj hj2 => m_rvD2 ⟨a, ha⟩ ⟨b, hb⟩ ⟨g, hg⟩ ⟨j, hj⟩ h h2 hj2⟩
def m_pi (a b u : Nat) : Nat := u / 2 ^ (a + b) * 2 ^ (a + b) + m_rv a b (u % 2 ^ (a + b))
theorem m_p8 {G : Nat} (h : G ≤ 3) : 0 < 2 ^ G ∧ 2 ^ G ≤ 8 := by
  rcases (show G = 0 ∨ G = 1 ∨ G = 2 ∨ G = 3 by omega) with rfl | rfl | rfl | rfl <;> decide
theorem m_piP {a b : Nat} (h : a + b ≤ 3) (u : Nat) : m_pi a b u / 2 ^ (a + b) = u / 2 ^ (a + b) ∧ m_pi a b u % 2 ^ (a + b) = m_rv a b (u % 2 ^ (a + b)) ∧ m_pi a b (m_pi a b u) = u ∧ (∀ j, j < a + b → (m_pi a b u % 2 ^ (a + b)).testBit j = (u % 2 ^ (a + b)).testBit (m_ix a b j)) := by
  have h8 := m_p8 h
  have hm := Nat.mod_lt u h8.1
  obtain ⟨d1, d2, d3⟩ := m_rvD a (by omega) b (by omega) (by omega) (u % 2 ^ (a + b)) (by omega) hm
  have e1 : m_pi a b u / 2 ^ (a + b) = u / 2 ^ (a + b) := by
    show (u / 2 ^ (a + b) * 2 ^ (a + b) + m_rv a b (u % 2 ^ (a + b))) / 2 ^ (a + b) = _
    rw [Nat.mul_comm, Nat.mul_add_div h8.1, Nat.div_eq_of_lt d1, Nat.add_zero]
  have e2 : m_pi a b u % 2 ^ (a + b) = m_rv a b (u % 2 ^ (a + b)) := by
    show (u / 2 ^ (a + b) * 2 ^ (a + b) + m_rv a b (u % 2 ^ (a + b))) % 2 ^ (a + b) = _
    rw [Nat.mul_comm, Nat.mul_add_mod, Nat.mod_eq_of_lt d1]
  refine ⟨e1, e2, ?_, fun j hj => ?_⟩
  · show m_pi a b u / 2 ^ (a + b) * 2 ^ (a + b) + m_rv a b (m_pi a b u % 2 ^ (a + b)) = u
    rw [e1, e2, d2, Nat.mul_comm]
    exact Nat.div_add_mod u _
  · rw [e2]
    exact d3 j (by omega) hj
theorem m_lt_node {P q u : Nat} (hq : 0 < q) : u < P * q ↔ u / q < P := (Nat.div_lt_iff_lt_mul hq).symm
theorem m_pi_lt {a b P u : Nat} (h : a + b ≤ 3) (hu : u < P * 2 ^ (a + b)) : m_pi a b u < P * 2 ^ (a + b) ∧ m_pi a b (m_pi a b u) = u := by
  have h8 := m_p8 h
  obtain ⟨e1, _, e3, _⟩ := m_piP h u
  refine ⟨?_, e3⟩
  rw [m_lt_node h8.1, e1, ← m_lt_node h8.1]
  exact hu
theorem m_bits_eq {G x y : Nat} (hx : x < 2 ^ G) (hy : y < 2 ^ G) (h : ∀ j, j < G → x.testBit j = y.testBit j) : x = y := by
  apply Nat.eq_of_testBit_eq
  intro j
  rcases Nat.lt_or_ge j G with hj | hj
  · exact h j hj
  · rw [Nat.testBit_lt_two_pow (Nat.lt_of_lt_of_le hx (Nat.pow_le_pow_right (by omega) hj)), Nat.testBit_lt_two_pow (Nat.lt_of_lt_of_le hy (Nat.pow_le_pow_right (by omega) hj))]
/-- each number belongs to a later part -/
theorem m_LT_sur (le : Nat → Int32) : ∀ (n j : Nat), j < m_LT le n → ∃ p, p < n ∧ m_lat (le p) ∧ m_LT le p = j
  | 0, j, h => by simp only [m_LT] at h; omega
  | n + 1, j, h => by
    by_cases hl : m_lat (le n)
    · have h2 : m_LT le (n + 1) = m_LT le n + (if (le n = 120 ∨ le n = 102 ∨ le n = 103 ∨ le n = 117) then 1 else 0) := rfl
      rw [if_pos (show le n = 120 ∨ le n = 102 ∨ le n = 103 ∨ le n = 117 from hl)] at h2
      by_cases hj : j < m_LT le n
      · obtain ⟨p, p1, p2⟩ := m_LT_sur le n j hj
        exact ⟨p, by omega, p2⟩
      · exact ⟨n, by omega, hl, by omega⟩
    · have h2 : m_LT le (n + 1) = m_LT le n + (if (le n = 120 ∨ le n = 102 ∨ le n = 103 ∨ le n = 117) then 1 else 0) := rfl
      rw [if_neg (show ¬ (le n = 120 ∨ le n = 102 ∨ le n = 103 ∨ le n = 117) from hl)] at h2
      obtain ⟨p, p1, p2⟩ := m_LT_sur le n j (by omega)
      exact ⟨p, by omega, p2⟩
theorem m_sur {le : Nat → Nat → Int32} {n : Nat → Nat} {j : Nat} (h : j < m_G le n) : ∃ w p, w < 2 ∧ p < n w ∧ m_lat (le w p) ∧ m_o le n w + m_LT (le w) p = j := by
  have hG : m_G le n = m_LT (le 0) (n 0) + m_LT (le 1) (n 1) := rfl
  by_cases hj : j < m_LT (le 0) (n 0)
  · obtain ⟨p, p1, p2, p3⟩ := m_LT_sur (le 0) (n 0) j hj
    exact ⟨0, p, by omega, p1, p2, by simp only [m_o, if_true]; omega⟩
  · obtain ⟨p, p1, p2, p3⟩ := m_LT_sur (le 1) (n 1) (j - m_LT (le 0) (n 0)) (by omega)
    exact ⟨1, p, by omega, p1, p2, by simp only [m_o, show ¬ (1 : Nat) = 0 by omega, if_false]; omega⟩
/-- the part's number on the other side -/
theorem m_ix_o {le : Nat → Nat → Int32} {n : Nat → Nat} {w p : Nat} (hw : w < 2) (hp : p < n w) (hl : m_lat (le w p)) : m_ix (m_LT (le 0) (n 0)) (m_LT (le 1) (n 1)) (m_o le n w + (m_LT (le w) (n w) - 1 - m_LT (le w) p)) = m_o le n w + m_LT (le w) p := by
  have h1 := m_LT_lt hp hl
  rcases (show w = 0 ∨ w = 1 by omega) with rfl | rfl
  · simp only [m_o, if_true, Nat.zero_add, m_ix]
    rw [if_pos (by omega)]
    omega
  · simp only [m_o, show ¬ (1 : Nat) = 0 by omega, if_false, m_ix]
    rw [if_neg (by omega)]
    omega
/-- values at two nodes of one place, both ahead of the same node -/
theorem m_det {le : Nat → Int32} {n : Nat} (hw : m_WF le n) {lab : Int32} {g g' v v' x : Nat → Bool} (h : m_val le n lab g v) (h' : m_val le n lab g' v') (hg : ∀ p, p < n → m_go (le p) (v p) (v (p + 1)) (v (m_E le n (p + 1))) (x p) (x (p + 1)) = true) (hg' : ∀ p, p < n → m_go (le p) (v' p) (v' (p + 1)) (v' (m_E le n (p + 1))) (x p) (x (p + 1)) = true) : ∀ d p, p + d = n → 0 < d → v p = v' p := by
  intro d
  induction d using Nat.strongRecOn with
  | ind d ih =>
    intro p hp hd
    obtain ⟨h1, h2, h3⟩ := m_Es hw (show p < n by omega)
    have hf : 1 ≤ m_ar (le p) → v (p + 1) = v' (p + 1) := fun z => by
      rcases h3 with ⟨b1, b2⟩ | ⟨b1, b2, b3⟩ | ⟨b1, b2, b3, b4, b5⟩
      · omega
      · exact ih (n - (p + 1)) (by omega) (p + 1) (by omega) (by omega)
      · exact ih (n - (p + 1)) (by omega) (p + 1) (by omega) (by omega)
    have hs : m_ar (le p) = 2 → v (m_E le n (p + 1)) = v' (m_E le n (p + 1)) := fun z => by
      rcases h3 with ⟨b1, b2⟩ | ⟨b1, b2, b3⟩ | ⟨b1, b2, b3, b4, b5⟩
      · omega
      · omega
      · exact ih (n - m_E le n (p + 1)) (by omega) (m_E le n (p + 1)) (by omega) (by omega)
    have v1 := h p (by omega)
    have v2 := h' p (by omega)
    have w1 := hg p (by omega)
    have w2 := hg' p (by omega)
    have hlt := m_letters (hw.1 p (by omega)).1
    generalize le p = c at hlt hf hs v1 v2 w1 w2
    rcases hlt with rfl | rfl | rfl | rfl | rfl | rfl | rfl | rfl | rfl | rfl | rfl | rfl
    · exact v1.trans v2.symm
    · exact v1.trans v2.symm
    · exact v1.trans v2.symm
    · exact v1.trans v2.symm
    · exact v1.trans v2.symm
    · rw [v1, v2]
      show (!v (p + 1)) = (!v' (p + 1))
      rw [hf (by decide)]
    · rw [v1, v2]
      show (v (p + 1) && v (m_E le n (p + 1))) = (v' (p + 1) && v' (m_E le n (p + 1)))
      rw [hf (by decide), hs (by decide)]
    · rw [v1, v2]
      show (v (p + 1) || v (m_E le n (p + 1))) = (v' (p + 1) || v' (m_E le n (p + 1)))
      rw [hf (by decide), hs (by decide)]
    · exact (eq_of_beq w1).trans (eq_of_beq w2).symm
    · have a1 : v p = (v (p + 1) || x p) := eq_of_beq w1
      have a2 : v' p = (v' (p + 1) || x p) := eq_of_beq w2
      rw [a1, a2, hf (by decide)]
    · have a1 : v p = (v (p + 1) && x p) := eq_of_beq w1
      have a2 : v' p = (v' (p + 1) && x p) := eq_of_beq w2
      rw [a1, a2, hf (by decide)]
    · have a1 : v p = (v (m_E le n (p + 1)) || (v (p + 1) && x p)) := eq_of_beq w1
      have a2 : v' p = (v' (m_E le n (p + 1)) || (v' (p + 1) && x p)) := eq_of_beq w2
      rw [a1, a2, hf (by decide), hs (by decide)]
theorem m_val_lat {le : Nat → Int32} {n : Nat} {lab : Int32} {g v : Nat → Bool} (h : m_val le n lab g v) {p : Nat} (hp : p < n) (hl : m_lat (le p)) : v p = g p := by
  have h1 := h p hp
  rw [h1]
  generalize le p = c at hl
  rcases hl with rfl | rfl | rfl | rfl <;> rfl
