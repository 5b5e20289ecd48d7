/-! the class: what is due -/
theorem m_p2 : ∀ i, i < 5 → (nI (2 ^ i - 1) + 1 = nI (2 ^ i) ∧ nI (2 ^ i - 1) ||| nI (2 ^ i) = nI (2 ^ (i + 1) - 1) ∧ ∀ b, b < 32 → m_b (nI (2 ^ i)) b = decide (b = i)) := by decide +kernel
theorem m_addDue {N i : Nat} (hN : N ≤ 64) (hi : i < 5) (met : Nat → Int32) (x : Int64) : ∃ met', F_T_addDue m_N (nI N) (nI (2 ^ i - 1)) met x = some (nI (2 ^ i), nI (2 ^ (i + 1) - 1), met') ∧ ∀ a, a < N → ∀ b, (m_b (met' a) b = true ↔ m_b (met a) b = true ∨ (b = i ∧ m_B x a = true)) := by
  obtain ⟨p1, p2, p3⟩ := m_p2 i hi
  obtain ⟨met', h1, h2⟩ := m_it (fun m a met => T_addDue_l1 (nI N) x (nI (2 ^ i - 1)) m (nI a) met) id N (fun a0 met' => ∀ a, a < N → ∀ b, (m_b (met' a) b = true ↔ m_b (met a) b = true ∨ (a < a0 ∧ b = i ∧ m_B x a = true)))
    (fun m met _ => by simp (disch := omega) only [T_addDue_l1_s, m_le, if_pos, id])
    (fun m a met2 ha hI => by
      have e0 := T_addDue_l1_s (nI N) x (nI (2 ^ i - 1)) m (nI a) met2
      simp (disch := omega) only [m_e64, m_le, if_neg, m_inb, m_chkT, nI_clamp, m_Thas, nI_1 a, p1] at e0
      cases hx : m_B x a with
      | true =>
        rw [hx, if_neg (by decide), Option.bind_some] at e0
        refine ⟨_, fun a' ha' b => ?_, e0⟩
        by_cases hne : a' = a
        · subst hne
          rw [pk_us, m_b_or, Bool.or_eq_true, hI a' ha' b]
          rcases Nat.lt_or_ge b 32 with hb | hb
          · rw [p3 b hb]
            refine ⟨fun z => ?_, fun z => ?_⟩
            · rcases z with (z | ⟨z, _⟩) | z
              · exact Or.inl z
              · omega
              · exact Or.inr ⟨by omega, of_decide_eq_true z, hx⟩
            · rcases z with z | ⟨_, z, _⟩
              · exact Or.inl (Or.inl z)
              · exact Or.inr (decide_eq_true z)
          · rw [m_b_big hb, m_b_big hb]
            refine ⟨fun z => ?_, fun z => ?_⟩
            · rcases z with (z | ⟨z, _⟩) | z
              · cases z
              · omega
              · cases z
            · rcases z with z | ⟨_, z, _⟩
              · cases z
              · omega
        · rw [pk_un hne, hI a' ha' b]
          exact or_congr Iff.rfl ⟨fun z => ⟨by omega, z.2⟩, fun z => ⟨by omega, z.2⟩⟩
      | false =>
        rw [hx, if_pos (by decide), Option.bind_some] at e0
        refine ⟨_, fun a' ha' b => ?_, e0⟩
        rw [hI a' ha' b]
        refine or_congr Iff.rfl ⟨fun z => ⟨by omega, z.2⟩, fun z => ⟨?_, z.2⟩⟩
        have : a' ≠ a := fun y => by subst y; rw [hx] at z; exact absurd z.2.2 (by decide)
        omega)
    N 0 m_N met (by omega) (by show _ < 5000; omega) (fun a ha b => ⟨fun z => Or.inl z, fun z => by
      rcases z with z | z
      · exact z
      · exact absurd z.1 (Nat.not_lt_zero _)⟩)
  refine ⟨met', ?_, fun a ha b => (h2 a ha b).trans (or_congr Iff.rfl ⟨fun z => z.2, fun z => ⟨ha, z⟩⟩)⟩
  simp only [F_T_addDue, p1, p2]
  rw [show T_addDue_l1 (nI N) x (nI (2 ^ i - 1)) m_N 0 met = _ from h1]
  rfl
theorem m_noMoves {P G : Nat} (hG : G ≤ 3) (hP : P ≤ 8) (tg : Nat → Nat → Int32) {ac : Nat} (hac : ac < 3) : ∃ x, F_T_nodesWithoutMoves m_N tg (nI P) (nI G) (F_T_firstNodes (nI (2 ^ G))) (nI ac) = some x ∧ ∀ a, a < 64 → (m_B x a = true ↔ a / 2 ^ G < P ∧ tg ac (a / 2 ^ G) = 0) := by
  obtain ⟨x, h1, h2⟩ := m_it (fun m s x => T_nodesWithoutMoves_l1 (nI P) (nI ac) tg (nI G) (F_T_firstNodes (nI (2 ^ G))) m x (nI s)) id P (fun s0 x => ∀ a, a < 64 → (m_B x a = true ↔ a / 2 ^ G < s0 ∧ tg ac (a / 2 ^ G) = 0))
    (fun m x _ => by simp (disch := omega) only [T_nodesWithoutMoves_l1_s, m_le, if_pos, id])
    (fun m s x hs hI => by
      refine ⟨if tg ac s = 0 then x ||| F_T_nodesOf (nI P) (nI G) (F_T_firstNodes (nI (2 ^ G))) (nI s) else x, fun a ha => ?_, by simp (disch := omega) only [T_nodesWithoutMoves_l1_s, m_e8, m_le, if_neg, m_inb, m_chkT, nI_clamp, nI_1]⟩
      have hn := m_nodesOf (i := a) hG hP hs ha
      by_cases hb : tg ac s = 0
      · rw [if_pos hb, m_B_or, Bool.or_eq_true, hI a ha, hn]
        refine ⟨fun z => ?_, fun ⟨z1, z2⟩ => ?_⟩
        · rcases z with z | z
          · exact ⟨by omega, z.2⟩
          · have := of_decide_eq_true z
            exact ⟨by omega, by rw [this]; exact hb⟩
        · by_cases he : a / 2 ^ G = s
          · exact Or.inr (decide_eq_true he)
          · exact Or.inl ⟨by omega, z2⟩
      · rw [if_neg hb, hI a ha]
        refine ⟨fun z => ⟨by omega, z.2⟩, fun ⟨z1, z2⟩ => ⟨?_, z2⟩⟩
        have : a / 2 ^ G ≠ s := fun z => hb (by rw [← z]; exact z2)
        omega)
    P 0 m_N 0 (by omega) (by show _ < 5000; omega) (fun a ha => by rw [m_B_0]; exact ⟨fun z => absurd z (by decide), fun z => absurd z.1 (Nat.not_lt_zero _)⟩)
  refine ⟨x, ?_, h2⟩
  simp only [F_T_nodesWithoutMoves]
  rw [show T_nodesWithoutMoves_l1 (nI P) (nI ac) tg (nI G) (F_T_firstNodes (nI (2 ^ G))) m_N 0 0 = _ from h1]
  rfl
def m_cnd (N : Nat) (met mbs : Nat → Int32) (b : Nat) (C K : Nat → Prop) : Prop := (∀ a, a < N → (m_b (met a) b = true ↔ C a)) ∧ ∀ k, k < 3 → (m_b (mbs k) b = true ↔ K k)
/-- what is due, as the class keeps it -/
def m_dues (N G q : Nat) (wt gl : Nat → Int64) (an : Nat → Int32) (tg : Nat → Nat → Int32) (fair : Prop) (D : Nat) (met mbs : Nat → Int32) : Prop := D ≤ 5 ∧ (∀ a, a < N → ∀ b, m_b (met a) b = true → b < D) ∧ (∀ k, k < 3 → ∀ b, m_b (mbs k) b = true → b < D) ∧ (∀ b, b < D → (∃ j, j < G ∧ an j = 0 ∧ m_cnd N met mbs b (fun a => m_B (wt j) a = false ∨ m_B (gl j) a = true) (fun _ => False)) ∨ (fair ∧ ∃ ac, ac < 2 ∧ m_cnd N met mbs b (fun a => tg ac (a / q) = 0) (fun k => k = ac))) ∧ (∀ j, j < G → an j = 0 → ∃ b, b < D ∧ m_cnd N met mbs b (fun a => m_B (wt j) a = false ∨ m_B (gl j) a = true) (fun _ => False)) ∧ (fair → ∀ ac, ac < 2 → ∃ b, b < D ∧ m_cnd N met mbs b (fun a => tg ac (a / q) = 0) (fun k => k = ac))
theorem m_makeDue {P G : Nat} (hG : G ≤ 3) (hP : P ≤ 8) (tg : Nat → Nat → Int32) (wt gl : Nat → Int64) (an : Nat → Int32) (han : ∀ j, j < G → an j = 0 ∨ an j = 1) (met0 mbs0 : Nat → Int32) (fair : Prop) (a1 : Int32) (ha1 : (a1 = 1 ∧ fair) ∨ (a1 = 0 ∧ ¬ fair)) : ∃ D met mbs, F_T_makeDue m_N tg (nI P) (nI G) (nI (P * 2 ^ G)) (F_T_firstNodes (nI (2 ^ G))) (nI G) wt gl an met0 mbs0 a1 = some (nI (2 ^ D - 1), met, mbs) ∧ m_dues (P * 2 ^ G) G (2 ^ G) wt gl an tg fair D met mbs := by
  have h8 := m_p8 hG
  have h64 : P * 2 ^ G ≤ 64 := by
    have : P * 2 ^ G ≤ 8 * 8 := Nat.mul_le_mul hP h8.2
    omega
  have hdiv : ∀ a, a < P * 2 ^ G → a / 2 ^ G < P := fun a ha => (m_lt_node h8.1).mp ha
  generalize hN : P * 2 ^ G = N at *
  obtain ⟨met1, a1', a2'⟩ := m_it (fun m a met => T_makeDue_l1 (nI N) m (nI a) met) id N (fun a0 met => ∀ a, a < a0 → met a = 0)
    (fun m met _ => by simp (disch := omega) only [T_makeDue_l1_s, m_le, if_pos, id])
    (fun m a met ha hI => by
      refine ⟨upd met a 0, fun a' ha' => ?_, by simp (disch := omega) only [T_makeDue_l1_s, m_e64, m_le, if_neg, m_inb, m_chkT, nI_clamp, nI_1]⟩
      by_cases hne : a' = a
      · subst hne
        exact pk_us
      · rw [pk_un hne]
        exact hI a' (by omega))
    N 0 m_N met0 (by omega) (by show _ < 5000; omega) (fun a ha => by omega)
  obtain ⟨mbs1, b1, b2⟩ := m_it (fun m k mbs => T_makeDue_l2 m (nI k) mbs) id 3 (fun k0 mbs => ∀ k, k < k0 → mbs k = 0)
    (fun m mbs _ => by simp (disch := omega) only [T_makeDue_l2_s, m_e3, m_le, if_pos, id])
    (fun m k mbs hk hI => by
      refine ⟨upd mbs k 0, fun a' ha' => ?_, by simp (disch := omega) only [T_makeDue_l2_s, m_e3, m_le, if_neg, m_inb, m_chkT, nI_clamp, nI_1]⟩
      by_cases hne : a' = k
      · subst hne
        exact pk_us
      · rw [pk_un hne]
        exact hI a' (by omega))
    3 0 m_N mbs0 (by omega) (by show _ < 5000; omega) (fun a ha => by omega)
  obtain ⟨s3, c1, c2, c3, c4, c5⟩ := m_it (fun m j (s : Nat × (Nat → Int32)) => T_makeDue_l3 m_N (nI G) an (nI N) wt gl m (nI j) (nI (2 ^ s.1 - 1)) s.2) (fun s => (nI (2 ^ s.1 - 1), s.2)) G (fun j0 s => s.1 ≤ j0 ∧ (∀ a, a < N → ∀ b, m_b (s.2 a) b = true → b < s.1) ∧ (∀ b, b < s.1 → ∃ j, j < j0 ∧ an j = 0 ∧ ∀ a, a < N → (m_b (s.2 a) b = true ↔ (m_B (wt j) a = false ∨ m_B (gl j) a = true))) ∧ (∀ j, j < j0 → an j = 0 → ∃ b, b < s.1 ∧ ∀ a, a < N → (m_b (s.2 a) b = true ↔ (m_B (wt j) a = false ∨ m_B (gl j) a = true))))
    (fun m s _ => by simp (disch := omega) only [T_makeDue_l3_s, m_le, if_pos])
    (fun m j s hj hI => by
      obtain ⟨i1, i2, i3, i4⟩ := hI
      have e0 := T_makeDue_l3_s m_N (nI G) an (nI N) wt gl m (nI j) (nI (2 ^ s.1 - 1)) s.2
      simp (disch := omega) only [m_e3, m_le, if_neg, m_inb, m_chkT, nI_clamp, nI_1] at e0
      rcases han j hj with h0 | h0
      · obtain ⟨met', d1, d2⟩ := m_addDue h64 (i := s.1) (by omega) s.2 ((wt j ^^^ -1) ||| gl j)
        rw [h0, if_pos rfl, d1, Option.bind_some, Option.bind_some] at e0
        have hx : ∀ a, a < N → (m_B ((wt j ^^^ -1) ||| gl j) a = true ↔ (m_B (wt j) a = false ∨ m_B (gl j) a = true)) := fun a ha => by
          rw [m_B_or, m_B_not _ (by omega), Bool.or_eq_true]
          cases m_B (wt j) a <;> simp
        have hnew : ∀ a, a < N → (m_b (met' a) s.1 = true ↔ (m_B (wt j) a = false ∨ m_B (gl j) a = true)) := fun a ha => by
          rw [d2 a ha, hx a ha]
          refine ⟨fun z => ?_, fun z => Or.inr ⟨rfl, z⟩⟩
          rcases z with z | z
          · exact absurd (i2 a ha _ z) (Nat.lt_irrefl _)
          · exact z.2
        have hold : ∀ b, b < s.1 → ∀ a, a < N → (m_b (met' a) b = true ↔ m_b (s.2 a) b = true) := fun b hb a ha => by
          rw [d2 a ha]
          refine ⟨fun z => ?_, fun z => Or.inl z⟩
          rcases z with z | z
          · exact z
          · omega
        refine ⟨(s.1 + 1, met'), ⟨by show s.1 + 1 ≤ _; omega, fun a ha b hb => ?_, fun b hb => ?_, fun j' hj' h0' => ?_⟩, e0⟩
        · rcases (d2 a ha b).mp hb with z | z
          · have := i2 a ha b z
            show b < s.1 + 1
            omega
          · show b < s.1 + 1
            omega
        · by_cases hbs : b = s.1
          · subst hbs
            exact ⟨j, by omega, h0, hnew⟩
          · have hb' : b < s.1 := by
              have : b < s.1 + 1 := hb
              omega
            obtain ⟨j', z1, z2, z3⟩ := i3 b hb'
            exact ⟨j', by omega, z2, fun a ha => (hold b hb' a ha).trans (z3 a ha)⟩
        · by_cases hjj : j' = j
          · subst hjj
            exact ⟨s.1, by show s.1 < s.1 + 1; omega, hnew⟩
          · obtain ⟨b, z1, z2⟩ := i4 j' (by omega) h0'
            exact ⟨b, by show b < s.1 + 1; omega, fun a ha => (hold b z1 a ha).trans (z2 a ha)⟩
      · rw [h0, if_neg m_n10, Option.bind_some] at e0
        refine ⟨s, ⟨by omega, i2, fun b hb => ?_, fun j' hj' h0' => ?_⟩, e0⟩
        · obtain ⟨j', z1, z2⟩ := i3 b hb
          exact ⟨j', by omega, z2⟩
        · have : j' ≠ j := fun y => by subst y; rw [h0] at h0'; exact absurd h0' m_n10
          exact i4 j' (by omega) h0')
    G 0 m_N (0, met1) (by omega) (by show _ < 5000; omega) ⟨Nat.le_refl _, fun a ha b hb => (by rw [show (0, met1).snd a = 0 from a2' a ha, m_b_0] at hb; cases hb), fun b hb => absurd hb (Nat.not_lt_zero _), fun j hj => absurd hj (Nat.not_lt_zero _)⟩
  have hst : ∀ r, T_makeDue_l4 m_N a1 tg (nI P) (nI G) (F_T_firstNodes (nI (2 ^ G))) (nI N) m_N 0 (nI (2 ^ s3.1 - 1)) s3.2 mbs1 = some r → F_T_makeDue m_N tg (nI P) (nI G) (nI N) (F_T_firstNodes (nI (2 ^ G))) (nI G) wt gl an met0 mbs0 a1 = some r := fun r hr => by
    simp only [F_T_makeDue]
    rw [show T_makeDue_l1 (nI N) m_N 0 met0 = _ from a1', Option.bind_some, show T_makeDue_l2 m_N 0 mbs0 = _ from b1, Option.bind_some, show T_makeDue_l3 m_N (nI G) an (nI N) wt gl m_N 0 0 (id met1) = _ from c1, Option.bind_some]
    rw [show T_makeDue_l4 m_N a1 tg (nI P) (nI G) (F_T_firstNodes (nI (2 ^ G))) (nI N) m_N 0 (nI (2 ^ s3.1 - 1)) s3.2 (id mbs1) = _ from hr]
    rfl
  have hmb : ∀ k, k < 3 → ∀ b, m_b (mbs1 k) b = false := fun k hk b => by rw [b2 k hk, m_b_0]
  rcases ha1 with ⟨rfl, hfair⟩ | ⟨rfl, hfair⟩
  · obtain ⟨x0, e1, e2⟩ := m_noMoves hG hP tg (ac := 0) (by omega)
    obtain ⟨x1, f1, f2⟩ := m_noMoves hG hP tg (ac := 1) (by omega)
    obtain ⟨m1, g1, g2⟩ := m_addDue h64 (i := s3.1) (by omega) s3.2 x0
    obtain ⟨m2, i1, i2⟩ := m_addDue h64 (i := s3.1 + 1) (by omega) m1 x1
    have z1 := T_makeDue_l4_s m_N 1 tg (nI P) (nI G) (F_T_firstNodes (nI (2 ^ G))) (nI N) 4999 0 (nI (2 ^ s3.1 - 1)) s3.2 mbs1
    have z2 := T_makeDue_l4_s m_N 1 tg (nI P) (nI G) (F_T_firstNodes (nI (2 ^ G))) (nI N) 4998 1 (nI (2 ^ (s3.1 + 1) - 1)) m1 (upd mbs1 0 (nI (2 ^ s3.1)))
    have z3 := T_makeDue_l4_s m_N 1 tg (nI P) (nI G) (F_T_firstNodes (nI (2 ^ G))) (nI N) 4997 2 (nI (2 ^ (s3.1 + 1 + 1) - 1)) m2 (upd (upd mbs1 0 (nI (2 ^ s3.1))) 1 (nI (2 ^ (s3.1 + 1))))
    rw [if_neg m_n10, if_neg (by decide), show F_T_nodesWithoutMoves m_N tg (nI P) (nI G) (F_T_firstNodes (nI (2 ^ G))) 0 = _ from e1, Option.bind_some, g1, Option.bind_some, m_chk (by decide)] at z1
    rw [if_neg m_n10, if_neg (by decide), show F_T_nodesWithoutMoves m_N tg (nI P) (nI G) (F_T_firstNodes (nI (2 ^ G))) 1 = _ from f1, Option.bind_some, i1, Option.bind_some, m_chk (by decide)] at z2
    rw [if_neg m_n10, if_pos (by decide)] at z3
    have hb0 := (m_p2 s3.1 (by omega)).2.2
    have hb1 := (m_p2 (s3.1 + 1) (by omega)).2.2
    have hmbs : ∀ k, k < 3 → ∀ b, (m_b (upd (upd mbs1 0 (nI (2 ^ s3.1))) 1 (nI (2 ^ (s3.1 + 1))) k) b = true ↔ (k = 0 ∧ b = s3.1) ∨ (k = 1 ∧ b = s3.1 + 1)) := fun k hk b => by
      rcases Nat.lt_or_ge b 32 with hb | hb
      · rcases (show k = 0 ∨ k = 1 ∨ k = 2 by omega) with rfl | rfl | rfl
        · rw [pk_un (by omega), pk_us, hb0 b hb]
          exact ⟨fun z => Or.inl ⟨rfl, of_decide_eq_true z⟩, fun z => decide_eq_true (by omega)⟩
        · rw [pk_us, hb1 b hb]
          exact ⟨fun z => Or.inr ⟨rfl, of_decide_eq_true z⟩, fun z => decide_eq_true (by omega)⟩
        · rw [pk_un (by omega), pk_un (by omega), hmb 2 (by omega) b]
          exact ⟨fun z => absurd z (by decide), fun z => by omega⟩
      · rw [m_b_big hb]
        exact ⟨fun z => absurd z (by decide), fun z => by omega⟩
    have hmet : ∀ a, a < N → ∀ b, (m_b (m2 a) b = true ↔ m_b (s3.2 a) b = true ∨ (b = s3.1 ∧ tg 0 (a / 2 ^ G) = 0) ∨ (b = s3.1 + 1 ∧ tg 1 (a / 2 ^ G) = 0)) := fun a ha b => by
      rw [i2 a ha b, g2 a ha b, e2 a (by omega), f2 a (by omega), or_assoc]
      have := hdiv a ha
      exact or_congr Iff.rfl (or_congr ⟨fun z => ⟨z.1, z.2.2⟩, fun z => ⟨z.1, this, z.2⟩⟩ ⟨fun z => ⟨z.1, z.2.2⟩, fun z => ⟨z.1, this, z.2⟩⟩)
    have hlow : ∀ b, b < s3.1 → ∀ a, a < N → (m_b (m2 a) b = true ↔ m_b (s3.2 a) b = true) := fun b hb a ha => by
      rw [hmet a ha b]
      refine ⟨fun z => ?_, fun z => Or.inl z⟩
      rcases z with z | z | z
      · exact z
      · omega
      · omega
    have hac : ∀ ac, ac < 2 → m_cnd N m2 (upd (upd mbs1 0 (nI (2 ^ s3.1))) 1 (nI (2 ^ (s3.1 + 1)))) (s3.1 + ac) (fun a => tg ac (a / 2 ^ G) = 0) (fun k => k = ac) := fun ac hac => by
      refine ⟨fun a ha => ?_, fun k hk => ?_⟩
      · rw [hmet a ha]
        rcases (show ac = 0 ∨ ac = 1 by omega) with rfl | rfl
        · refine ⟨fun z => ?_, fun z => Or.inr (Or.inl ⟨rfl, z⟩)⟩
          rcases z with z | z | z
          · have := c3 a ha _ z
            omega
          · exact z.2
          · omega
        · refine ⟨fun z => ?_, fun z => Or.inr (Or.inr ⟨rfl, z⟩)⟩
          rcases z with z | z | z
          · have := c3 a ha _ z
            omega
          · omega
          · exact z.2
      · rw [hmbs k hk]
        omega
    refine ⟨s3.1 + 1 + 1, m2, _, hst _ (z1.trans (z2.trans z3)), by omega, fun a ha b hb => ?_, fun k hk b hb => ?_, fun b hb => ?_, fun j hj h0 => ?_, fun _ ac hac' => ⟨s3.1 + ac, by omega, hac ac hac'⟩⟩
    · rcases (hmet a ha b).mp hb with z | z | z
      · have := c3 a ha b z
        omega
      · omega
      · omega
    · have := (hmbs k hk b).mp hb
      omega
    · by_cases hbs : b < s3.1
      · obtain ⟨j, y1, y2, y3⟩ := c4 b hbs
        refine Or.inl ⟨j, y1, y2, fun a ha => (hlow b hbs a ha).trans (y3 a ha), fun k hk => ?_⟩
        rw [hmbs k hk]
        exact ⟨fun z => by omega, fun z => z.elim⟩
      · have hb2 : b = s3.1 + (b - s3.1) := by omega
        exact Or.inr ⟨hfair, b - s3.1, by omega, by have h9 := hac (b - s3.1) (by omega); rw [← hb2] at h9; exact h9⟩
    · obtain ⟨b, y1, y2⟩ := c5 j hj h0
      refine ⟨b, by omega, fun a ha => (hlow b y1 a ha).trans (y2 a ha), fun k hk => ?_⟩
      rw [hmbs k hk]
      exact ⟨fun z => by omega, fun z => z.elim⟩
  · have z1 := T_makeDue_l4_s m_N 0 tg (nI P) (nI G) (F_T_firstNodes (nI (2 ^ G))) (nI N) 4999 0 (nI (2 ^ s3.1 - 1)) s3.2 mbs1
    rw [if_pos rfl] at z1
    refine ⟨s3.1, s3.2, mbs1, hst _ z1, by omega, c3, fun k hk b hb => (by rw [hmb k hk b] at hb; cases hb), fun b hb => ?_, fun j hj h0 => ?_, fun z => absurd z hfair⟩
    · obtain ⟨j, y1, y2, y3⟩ := c4 b hb
      exact Or.inl ⟨j, y1, y2, y3, fun k hk => by rw [hmb k hk b]; exact ⟨fun z => absurd z (by decide), fun z => z.elim⟩⟩
    · obtain ⟨b, y1, y2⟩ := c5 j hj h0
      exact ⟨b, y1, y2, fun k hk => by rw [hmb k hk b]; exact ⟨fun z => absurd z (by decide), fun z => z.elim⟩⟩
