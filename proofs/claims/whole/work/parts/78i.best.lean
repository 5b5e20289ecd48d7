/-! the reference: the least of all -/
def m_lex (n k s n' k' s' : Nat) : Prop := n < n' ∨ (n = n' ∧ (k < k' ∨ (k = k' ∧ s ≤ s')))
def m_lst (A : Nat → Nat → Prop) (u d : Nat) : Prop := A u d ∧ ∀ d', A u d' → d ≤ d'
/-- ways in and round, of the nodes below N -/
def m_cd (DS LP : Nat → Nat → Prop) (q N n k s : Nat) : Prop := ∃ u d l, u < N ∧ m_lst DS u d ∧ m_lst LP u l ∧ n = d + (l + 1) ∧ k = d ∧ s = u / q
def m_best (C : Nat → Nat → Nat → Prop) (n k s : Int32) : Prop := (n = -9 ∧ k = -9 ∧ s = -9 ∧ ∀ a b c, ¬ C a b c) ∨ ∃ a b c, n = nI a ∧ k = nI b ∧ s = nI c ∧ C a b c ∧ ∀ a' b' c', C a' b' c' → m_lex a b c a' b' c'
theorem m_best_eq {C C' : Nat → Nat → Nat → Prop} (h : ∀ a b c, C a b c ↔ C' a b c) {n k s n' k' s' : Int32} (h1 : m_best C n k s) (h2 : m_best C' n' k' s') : n = n' ∧ k = k' ∧ s = s' := by
  rcases h1 with ⟨a1, a2, a3, a4⟩ | ⟨a, b, c, a1, a2, a3, a4, a5⟩
  · rcases h2 with ⟨b1, b2, b3, b4⟩ | ⟨a, b, c, b1, b2, b3, b4, b5⟩
    · rw [a1, a2, a3, b1, b2, b3]
      exact ⟨rfl, rfl, rfl⟩
    · exact absurd ((h a b c).mpr b4) (a4 a b c)
  · rcases h2 with ⟨b1, b2, b3, b4⟩ | ⟨a', b', c', b1, b2, b3, b4, b5⟩
    · exact absurd ((h a b c).mp a4) (b4 a b c)
    · have z1 := a5 a' b' c' ((h a' b' c').mpr b4)
      have z2 := b5 a b c ((h a b c).mp a4)
      unfold m_lex at z1 z2
      have hh : a = a' ∧ b = b' ∧ c = c' := by omega
      obtain ⟨rfl, rfl, rfl⟩ := hh
      rw [a1, a2, a3, b1, b2, b3]
      exact ⟨rfl, rfl, rfl⟩
theorem m_best_keep {DS LP : Nat → Nat → Prop} {q u : Nat} {n k s : Int32} (h : m_best (m_cd DS LP q u) n k s) (hno : ∀ d l, ¬ (m_lst DS u d ∧ m_lst LP u l)) : m_best (m_cd DS LP q (u + 1)) n k s := by
  have hC : ∀ a b c, m_cd DS LP q (u + 1) a b c ↔ m_cd DS LP q u a b c := fun a b c => by
    refine ⟨fun ⟨x, d, l, z1, z2, z3, z4⟩ => ⟨x, d, l, ?_, z2, z3, z4⟩, fun ⟨x, d, l, z1, z2⟩ => ⟨x, d, l, by omega, z2⟩⟩
    have : x ≠ u := fun y => by subst y; exact hno d l ⟨z2, z3⟩
    omega
  rcases h with ⟨a1, a2, a3, a4⟩ | ⟨a, b, c, a1, a2, a3, a4, a5⟩
  · exact Or.inl ⟨a1, a2, a3, fun a b c z => a4 a b c ((hC a b c).mp z)⟩
  · exact Or.inr ⟨a, b, c, a1, a2, a3, (hC a b c).mpr a4, fun a' b' c' z => a5 a' b' c' ((hC a' b' c').mp z)⟩
theorem m_lst_u {A : Nat → Nat → Prop} {u d d' : Nat} (h : m_lst A u d) (h' : m_lst A u d') : d = d' := Nat.le_antisymm (h.2 d' h'.1) (h'.2 d h.1)
theorem m_best_new {DS LP : Nat → Nat → Prop} {q u d l : Nat} {n k s : Int32} (h : m_best (m_cd DS LP q u) n k s) (hd : m_lst DS u d) (hl : m_lst LP u l) (hlt : n = -9 ∨ ∃ a b c, n = nI a ∧ k = nI b ∧ s = nI c ∧ a < 2 ^ 31 ∧ b < 2 ^ 31 ∧ c < 2 ^ 31 ∧ ¬ m_lex a b c (d + (l + 1)) d (u / q)) (hb : ∀ a b c, m_cd DS LP q u a b c → a < 2 ^ 31 ∧ b < 2 ^ 31 ∧ c < 2 ^ 31) : m_best (m_cd DS LP q (u + 1)) (nI (d + (l + 1))) (nI d) (nI (u / q)) := by
  refine Or.inr ⟨d + (l + 1), d, u / q, rfl, rfl, rfl, ⟨u, d, l, by omega, hd, hl, rfl, rfl, rfl⟩, fun a' b' c' z => ?_⟩
  obtain ⟨x, d', l', z1, z2, z3, z4, z5, z6⟩ := z
  by_cases hx : x = u
  · subst hx
    have q1 := m_lst_u z2 hd
    have q2 := m_lst_u z3 hl
    unfold m_lex
    omega
  · have hz : m_cd DS LP q u a' b' c' := ⟨x, d', l', by omega, z2, z3, z4, z5, z6⟩
    rcases h with ⟨a1, a2, a3, a4⟩ | ⟨a, b, c, a1, a2, a3, a4, a5⟩
    · exact absurd hz (a4 _ _ _)
    · have h9 := a5 _ _ _ hz
      obtain ⟨w1, w2, w3⟩ := hb _ _ _ a4
      rcases hlt with hlt | ⟨a2', b2', c2', y1, y2, y3, y4, y5, y6, y7⟩
      · exact absurd (a1.symm.trans hlt) (m_n9 w1)
      · have e1 := (nI_eq w1 y4).mp (a1.symm.trans y1)
        have e2 := (nI_eq w2 y5).mp (a2.symm.trans y2)
        have e3 := (nI_eq w3 y6).mp (a3.symm.trans y3)
        subst e1 e2 e3
        unfold m_lex at h9 y7 ⊢
        omega
theorem m_best_old {DS LP : Nat → Nat → Prop} {q u d l a b c : Nat} {n k s : Int32} (h : m_best (m_cd DS LP q u) n k s) (hd : m_lst DS u d) (hl : m_lst LP u l) (h1 : n = nI a) (h2 : k = nI b) (h3 : s = nI c) (ha : a < 2 ^ 31 ∧ b < 2 ^ 31 ∧ c < 2 ^ 31) (hle : m_lex a b c (d + (l + 1)) d (u / q)) (hb : ∀ a b c, m_cd DS LP q u a b c → a < 2 ^ 31 ∧ b < 2 ^ 31 ∧ c < 2 ^ 31) : m_best (m_cd DS LP q (u + 1)) n k s := by
  rcases h with ⟨a1, a2, a3, a4⟩ | ⟨a', b', c', a1, a2, a3, a4, a5⟩
  · exact absurd (h1.symm.trans a1) (m_n9 ha.1)
  · obtain ⟨w1, w2, w3⟩ := hb _ _ _ a4
    have e1 := (nI_eq w1 ha.1).mp (a1.symm.trans h1)
    have e2 := (nI_eq w2 ha.2.1).mp (a2.symm.trans h2)
    have e3 := (nI_eq w3 ha.2.2).mp (a3.symm.trans h3)
    subst e1 e2 e3
    obtain ⟨x, d', l', z1, z2⟩ := id a4
    refine Or.inr ⟨a', b', c', a1, a2, a3, ⟨x, d', l', by omega, z2⟩, fun n2 k2 s2 z => ?_⟩
    obtain ⟨x2, d2, l2, y1, y2, y3, y4, y5, y6⟩ := z
    by_cases hx : x2 = u
    · subst hx
      have q1 := m_lst_u y2 hd
      have q2 := m_lst_u y3 hl
      subst q1 q2
      rw [y4, y5, y6]
      exact hle
    · exact a5 _ _ _ ⟨x2, d2, l2, by omega, y2, y3, y4, y5, y6⟩
theorem m_less (A b3 F b4 b5 uq gq : Int32) (hg : ¬ gq = 0) : ∃ o : Int32, (if b3 = (-9 : Int32) then (some (1 : Int32)) else (if A < b3 then (some (1 : Int32)) else (if A = b3 then (if F < b4 then (some (1 : Int32)) else (if F = b4 then (g_chk (decide (¬ gq = 0)) (if b5 ≤ uq then (some (0 : Int32)) else (some (1 : Int32)))) else (some (0 : Int32)))) else (some (0 : Int32))))) = some o ∧ ((o = 1 ∧ (b3 = -9 ∨ A < b3 ∨ (A = b3 ∧ (F < b4 ∨ (F = b4 ∧ ¬ b5 ≤ uq))))) ∨ (o = 0 ∧ ¬ (b3 = -9 ∨ A < b3 ∨ (A = b3 ∧ (F < b4 ∨ (F = b4 ∧ ¬ b5 ≤ uq)))))) := by
  rw [m_chk (decide_eq_true hg)]
  by_cases h1 : b3 = -9
  · exact ⟨1, by rw [if_pos h1], Or.inl ⟨rfl, Or.inl h1⟩⟩
  · by_cases h2 : A < b3
    · exact ⟨1, by rw [if_neg h1, if_pos h2], Or.inl ⟨rfl, Or.inr (Or.inl h2)⟩⟩
    · by_cases h3 : A = b3
      · by_cases h4 : F < b4
        · exact ⟨1, by rw [if_neg h1, if_neg h2, if_pos h3, if_pos h4], Or.inl ⟨rfl, Or.inr (Or.inr ⟨h3, Or.inl h4⟩)⟩⟩
        · by_cases h5 : F = b4
          · by_cases h6 : b5 ≤ uq
            · refine ⟨0, by rw [if_neg h1, if_neg h2, if_pos h3, if_neg h4, if_pos h5, if_pos h6], Or.inr ⟨rfl, fun z => ?_⟩⟩
              rcases z with z | z | ⟨_, z | z⟩
              · exact h1 z
              · exact h2 z
              · exact h4 z
              · exact z.2 h6
            · exact ⟨1, by rw [if_neg h1, if_neg h2, if_pos h3, if_neg h4, if_pos h5, if_neg h6], Or.inl ⟨rfl, Or.inr (Or.inr ⟨h3, Or.inr ⟨h5, h6⟩⟩)⟩⟩
          · refine ⟨0, by rw [if_neg h1, if_neg h2, if_pos h3, if_neg h4, if_neg h5], Or.inr ⟨rfl, fun z => ?_⟩⟩
            rcases z with z | z | ⟨_, z | z⟩
            · exact h1 z
            · exact h2 z
            · exact h4 z
            · exact h5 z.1
      · refine ⟨0, by rw [if_neg h1, if_neg h2, if_neg h3], Or.inr ⟨rfl, fun z => ?_⟩⟩
        rcases z with z | z | ⟨z, _⟩
        · exact h1 z
        · exact h2 z
        · exact h3 z
theorem m_breaksR {P q N W G : Nat} (hq0 : 0 < q) (hNe : P * q = N) (hN : N ≤ 64) (hW : W ≤ 640) {X : Nat → Nat → Nat → Prop} (hXN : ∀ k u v, X k u v → k < 3 ∧ u < N ∧ v < N) {f t b mt : Nat → Int32} (hw : m_ways X W f t b) {ms : Nat → Nat} (hms : ∀ v, v < N → mt v = nI (ms v) ∧ ms v < 32) {far : Nat → Int32} {DS : Nat → Nat → Prop} (hfar : ∀ x, x < N → (far x = -9 ∧ ∀ d, ¬ DS x d) ∨ ∃ d, d < N ∧ far x = nI d ∧ DS x d ∧ ∀ d', DS x d' → d ≤ d') (letter sizes lnum many lab so line2 rd0 line0 : Nat → Int32) : ∃ n k s rd line, M_breaksOf_l1 m_N (nI G, nI P, nI q, nI W, letter, sizes, lnum, many, lab, so, mt, f, t, b) (far, line2) m_N (-9) (-9) (-9) 0 rd0 line0 = some (n, k, s, rd, line) ∧ m_best (m_cd DS (fun u l => m_Rc (fun x => x = 32 * u + ms u) (m_rs X ms) (l + 1) (32 * u + 31)) q N) n k s ∧ ∀ u, u < N → (∀ l, ¬ m_Rc (fun x => x = 32 * u + ms u) (m_rs X ms) (l + 1) (32 * u + 31)) ∨ ∃ l, l < 2048 ∧ m_Rc (fun x => x = 32 * u + ms u) (m_rs X ms) (l + 1) (32 * u + 31) := by
  have hbnd : ∀ u, u ≤ N → ∀ a b c, m_cd DS (fun u l => m_Rc (fun x => x = 32 * u + ms u) (m_rs X ms) (l + 1) (32 * u + 31)) q u a b c → a < 3000 ∧ b < 64 ∧ c < 64 := fun u hu a b' c hc => by
    obtain ⟨x, d, l, z1, z2, z3, z4, z5, z6⟩ := hc
    have hd : d < N := by
      rcases hfar x (by omega) with ⟨y1, y2⟩ | ⟨d', y1, y2, y3, y4⟩
      · exact absurd z2.1 (y2 d)
      · have := z2.2 d' y3
        omega
    have hl : l < 2048 := by
      obtain ⟨o, rd, line, -, y⟩ := m_roundOf hN hW hXN hw hms (show x < N by omega) rd0 line0
      rcases y with ⟨y1, y2⟩ | ⟨l', y1, y2, y3, y4⟩
      · exact absurd z3.1 (y2 l)
      · have := z3.2 l' y3
        omega
    have hxq : x / q ≤ x := Nat.div_le_self _ _
    omega
  obtain ⟨st, h1, h2⟩ := m_it (fun m u (z : Int32 × Int32 × Int32 × (Nat → Int32) × (Nat → Int32)) => M_breaksOf_l1 m_N (nI G, nI P, nI q, nI W, letter, sizes, lnum, many, lab, so, mt, f, t, b) (far, line2) m z.1 z.2.1 z.2.2.1 (nI u) z.2.2.2.1 z.2.2.2.2) id N (fun u z => m_best (m_cd DS (fun u l => m_Rc (fun x => x = 32 * u + ms u) (m_rs X ms) (l + 1) (32 * u + 31)) q u) z.1 z.2.1 z.2.2.1)
    (fun m z _ => by simp (disch := omega) only [M_breaksOf_l1_s, pk_mul, hNe, m_le, if_pos, id])
    (fun m u z hu hI => by
      have hq64 : q ≤ 64 := by
        by_cases h : q ≤ 64
        · exact h
        · have h0 : P ≠ 0 := fun y => by rw [y, Nat.zero_mul] at hNe; omega
          have : 1 * q ≤ P * q := Nat.mul_le_mul_right _ (by omega)
          omega
      have hgq : ¬ nI q = 0 := by
        rw [m_0eq (by omega)]
        omega
      have hdv : nI u / nI q = nI (u / q) := pk_div (by omega) hq0 (by omega)
      have hxq : u / q ≤ u := Nat.div_le_self _ _
      have e0 := M_breaksOf_l1_s m_N (nI G, nI P, nI q, nI W, letter, sizes, lnum, many, lab, so, mt, f, t, b) (far, line2) m z.1 z.2.1 z.2.2.1 (nI u) z.2.2.2.1 z.2.2.2.2
      simp (disch := omega) only [pk_mul, hNe, m_le, if_neg, m_inb, m_chkT, nI_clamp, nI_1, hdv] at e0
      have hbu := fun a b c hc => (hbnd u (by omega) a b c hc)
      have hbu' : ∀ a b c, m_cd DS (fun u l => m_Rc (fun x => x = 32 * u + ms u) (m_rs X ms) (l + 1) (32 * u + 31)) q u a b c → a < 2 ^ 31 ∧ b < 2 ^ 31 ∧ c < 2 ^ 31 := fun a b c hc => by
        have := hbu a b c hc
        omega
      rcases hfar u hu with ⟨y1, y2⟩ | ⟨d, y1, y2, y3, y4⟩
      · rw [if_pos y1, Option.bind_some] at e0
        obtain ⟨o, o1, o2⟩ := m_less (far u + -9) z.1 (far u) z.2.1 z.2.2.1 (nI (u / q)) (nI q) hgq
        dsimp only at e0
        rw [o1, Option.bind_some, if_pos rfl, Option.bind_some] at e0
        exact ⟨z, m_best_keep hI (fun d l w => y2 d w.1.1), e0⟩
      · obtain ⟨o, rd, line, r1, r2⟩ := m_roundOf hN hW hXN hw hms hu z.2.2.2.1 z.2.2.2.2
        have hf9 : ¬ far u = -9 := by
          rw [y2]
          exact m_n9 (by omega)
        rw [if_neg hf9, r1, Option.bind_some, Option.bind_some] at e0
        obtain ⟨o', o1, o2⟩ := m_less (far u + o) z.1 (far u) z.2.1 z.2.2.1 (nI (u / q)) (nI q) hgq
        dsimp only at e0
        rw [o1, Option.bind_some] at e0
        rcases r2 with ⟨r3, r4⟩ | ⟨l, r3, r4, r5, r6⟩
        · rw [if_pos r3, Option.bind_some] at e0
          exact ⟨(z.1, z.2.1, z.2.2.1, rd, line), m_best_keep hI (fun d l w => r4 l w.2.1), e0⟩
        · have ho9 : ¬ o = -9 := by
            rw [r4]
            exact m_n9 (by omega)
          have hA : far u + o = nI (d + (l + 1)) := by
            rw [y2, r4, nI_add]
          have hd' : m_lst DS u d := ⟨y3, y4⟩
          have hl' : m_lst (fun u l => m_Rc (fun x => x = 32 * u + ms u) (m_rs X ms) (l + 1) (32 * u + 31)) u l := ⟨r5, r6⟩
          rw [hA, y2] at o2
          rw [if_neg ho9] at e0
          rcases o2 with ⟨rfl, o3⟩ | ⟨rfl, o3⟩
          · rw [if_neg m_n10, m_chk (decide_eq_true hgq), Option.bind_some, hA, y2] at e0
            refine ⟨(nI (d + (l + 1)), nI d, nI (u / q), rd, line), m_best_new hI hd' hl' ?_ hbu', e0⟩
            rcases hI with ⟨a1, a2, a3, a4⟩ | ⟨a, b', c, a1, a2, a3, a4, a5⟩
            · exact Or.inl a1
            · obtain ⟨w1, w2, w3⟩ := hbu _ _ _ a4
              refine Or.inr ⟨a, b', c, a1, a2, a3, by omega, by omega, by omega, fun hx => ?_⟩
              rw [a1, a2, a3] at o3
              rw [m_lt (by omega) (by omega), m_lt (by omega) (by omega), m_eq (by omega) (by omega), m_eq (by omega) (by omega), m_le (by omega) (by omega)] at o3
              unfold m_lex at hx
              rcases o3 with o3 | o3
              · exact absurd o3 (m_n9 (by omega))
              · omega
          · rw [if_pos rfl, Option.bind_some] at e0
            refine ⟨(z.1, z.2.1, z.2.2.1, rd, line), ?_, e0⟩
            rcases id hI with ⟨a1, a2, a3, a4⟩ | ⟨a, b', c, a1, a2, a3, a4, a5⟩
            · exact absurd (Or.inl a1) o3
            · obtain ⟨w1, w2, w3⟩ := hbu _ _ _ a4
              refine m_best_old hI hd' hl' a1 a2 a3 ⟨by omega, by omega, by omega⟩ ?_ hbu'
              rw [a1, a2, a3] at o3
              rw [m_lt (by omega) (by omega), m_lt (by omega) (by omega), m_eq (by omega) (by omega), m_eq (by omega) (by omega), m_le (by omega) (by omega)] at o3
              unfold m_lex
              have o4 : ¬ (d + (l + 1) < a ∨ (d + (l + 1) = a ∧ (d < b' ∨ (d = b' ∧ ¬ c ≤ u / q)))) := fun z => o3 (Or.inr z)
              omega)
    N 0 m_N (-9, -9, -9, rd0, line0) (by omega) (by show _ < 5000; omega) (Or.inl ⟨rfl, rfl, rfl, fun a b c ⟨_, _, _, z, _⟩ => absurd z (Nat.not_lt_zero _)⟩)
  refine ⟨st.1, st.2.1, st.2.2.1, st.2.2.2.1, st.2.2.2.2, h1, h2, fun u hu => ?_⟩
  obtain ⟨o, rd, line, -, y⟩ := m_roundOf hN hW hXN hw hms hu rd0 line0
  rcases y with ⟨y1, y2⟩ | ⟨l', y1, y2, y3, y4⟩
  · exact Or.inl y2
  · exact Or.inr ⟨l', y1, y3⟩
