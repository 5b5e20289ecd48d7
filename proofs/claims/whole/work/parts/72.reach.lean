/-! the class: what is reached, rings, what lives -/
theorem m_andOne (x : Int64) {k : Nat} (hk : k < 64) : (lg_cmp (x &&& g_lshl 1 (nI k)) 0 = 0) ↔ m_B x k = false := by
  rw [m_Lcmp, m_B_ez]
  refine ⟨fun h => ?_, fun h i hi => ?_⟩
  · have := h k hk
    rw [m_B_and, m_B_one hk hk, decide_eq_true rfl, Bool.and_true] at this
    exact this
  · rw [m_B_and, m_B_one hk hi]
    by_cases he : i = k
    · subst he
      rw [h, Bool.false_and]
    · rw [decide_eq_false he, Bool.and_false]
theorem m_andZ (x y : Int64) : (lg_cmp (x &&& y) 0 = 0) ↔ ∀ i, i < 64 → m_B x i = true → m_B y i = false := by
  rw [m_Lcmp, m_B_ez]
  refine forall_congr' fun i => forall_congr' fun hi => ?_
  rw [m_B_and]
  cases m_B x i <;> cases m_B y i <;> simp
theorem m_behind {st : Nat → Nat → Int64} {a : Nat} (ha : a < 64) : ∃ x, F_T_behind st (nI a) = some x ∧ ∀ b, (m_B x b = true ↔ ∃ k, k < 3 ∧ m_B (st k a) b = true) := by
  refine ⟨(st 0 a ||| st 1 a) ||| st 2 a, by simp (disch := omega) only [F_T_behind, m_inb, m_chkT, nI_clamp], fun b => ?_⟩
  rw [m_B_or, m_B_or, Bool.or_eq_true, Bool.or_eq_true]
  refine ⟨fun z => ?_, fun ⟨k, k1, k2⟩ => ?_⟩
  · rcases z with (z | z) | z
    · exact ⟨0, by omega, z⟩
    · exact ⟨1, by omega, z⟩
    · exact ⟨2, by omega, z⟩
  · rcases (show k = 0 ∨ k = 1 ∨ k = 2 by omega) with rfl | rfl | rfl
    · exact Or.inl (Or.inl k2)
    · exact Or.inl (Or.inr k2)
    · exact Or.inr k2
/-- the class's steps tell a graph -/
def m_gr (N : Nat) (st : Nat → Nat → Int64) (X : Nat → Nat → Nat → Prop) : Prop := (∀ k a b, X k a b → k < 3 ∧ a < N ∧ b < N) ∧ ∀ k, k < 3 → ∀ a, a < N → ∀ b, b < 64 → (m_B (st k a) b = true ↔ X k a b)
abbrev m_Eg (X : Nat → Nat → Nat → Prop) (a b : Nat) : Prop := ∃ k, X k a b
theorem m_reach3 {E : Nat → Nat → Prop} {N k : Nat} (hN : N ≤ 64) (hk : k < N) (r : Nat → Int64) (hr : ∀ u, u < N → ∀ v, v < 64 → (m_B (r u) v = true ↔ m_Wk E k u v)) : ∃ r', T_makeReach_l3 r (nI k) (nI N) m_N 0 r = some r' ∧ ∀ u, u < N → ∀ v, v < 64 → (m_B (r' u) v = true ↔ m_Wk E (k + 1) u v) := by
  by_cases hz : r k = 0
  · refine ⟨r, ?_, fun u hu v hv => ?_⟩
    · have z1 := T_makeReach_l3_s r (nI k) (nI N) 4999 0 r
      rw [nI_clamp (by omega), if_pos ((m_Lcmp _).mpr hz)] at z1
      exact z1
    · rw [hr u hu v hv]
      refine ⟨fun z => Or.inl z, fun z => ?_⟩
      rcases z with z | ⟨_, z⟩
      · exact z
      · have := (hr k hk v hv).mpr z
        rw [hz, m_B_0] at this
        cases this
  · have hz' : ¬ lg_cmp (r k) 0 = 0 := fun z => hz ((m_Lcmp _).mp z)
    obtain ⟨r', h1, h2⟩ := m_it (fun m u r2 => T_makeReach_l3 r (nI k) (nI N) m (nI u) r2) id N (fun u0 r2 => ∀ u, u < N → ∀ v, v < 64 → (u < u0 → (m_B (r2 u) v = true ↔ m_Wk E (k + 1) u v)) ∧ (u0 ≤ u → (m_B (r2 u) v = true ↔ m_Wk E k u v)))
      (fun m r2 _ => by simp (disch := omega) only [T_makeReach_l3_s, nI_clamp, hz', if_false, m_le, if_pos, id])
      (fun m u0 r2 hu0 hI => by
        have e0 : T_makeReach_l3 r (nI k) (nI N) (m + 1) (nI u0) r2 = T_makeReach_l3 r (nI k) (nI N) m (nI (u0 + 1)) (if m_B (r2 u0) k = true then vp_updL r2 u0 (r2 u0 ||| r k) else r2) := by
          simp (disch := omega) only [T_makeReach_l3_s, nI_clamp, hz', if_false, m_e64, m_le, if_neg, m_inb, m_chkT, nI_1]
          cases hb : m_B (r2 u0) k with
          | true => rw [if_neg (fun z => by have := (m_andOne _ (by omega)).mp z; rw [hb] at this; cases this), Option.bind_some, if_pos rfl]
          | false => rw [if_pos ((m_andOne _ (by omega)).mpr hb), Option.bind_some, if_neg (by decide)]
        refine ⟨_, fun u hu v hv => ?_, e0⟩
        by_cases hb : m_B (r2 u0) k = true
        · rw [if_pos hb]
          by_cases hne : u = u0
          · subst hne
            refine ⟨fun _ => ?_, fun z => by omega⟩
            have q1 := (hI u hu v hv).2 (Nat.le_refl _)
            have q2 := (hI u hu k (by omega)).2 (Nat.le_refl _)
            rw [pk_uLs, m_B_or, Bool.or_eq_true]
            exact or_congr q1 ⟨fun z => ⟨q2.mp hb, (hr k hk v hv).mp z⟩, fun z => (hr k hk v hv).mpr z.2⟩
          · rw [pk_uLn hne]
            exact ⟨fun z => (hI u hu v hv).1 (by omega), fun z => (hI u hu v hv).2 (by omega)⟩
        · rw [if_neg hb]
          by_cases hne : u = u0
          · subst hne
            refine ⟨fun _ => ?_, fun z => by omega⟩
            have q1 := (hI u hu v hv).2 (Nat.le_refl _)
            have q2 := (hI u hu k (by omega)).2 (Nat.le_refl _)
            rw [q1]
            refine ⟨fun z => Or.inl z, fun z => ?_⟩
            rcases z with z | z
            · exact z
            · exact absurd (q2.mpr z.1) hb
          · exact ⟨fun z => (hI u hu v hv).1 (by omega), fun z => (hI u hu v hv).2 (by omega)⟩)
      N 0 m_N r (by omega) (by show _ < 5000; omega) (fun u hu v hv => ⟨fun z => by omega, fun _ => hr u hu v hv⟩)
    exact ⟨r', h1, fun u hu v hv => (h2 u hu v hv).1 hu⟩
theorem m_makeReach {N : Nat} (hN : N ≤ 64) {st : Nat → Nat → Int64} {X : Nat → Nat → Nat → Prop} (hX : m_gr N st X) (r0 : Nat → Int64) : ∃ r, F_T_makeReach m_N (nI N) st r0 = some r ∧ ∀ u, u < N → ∀ v, v < 64 → (m_B (r u) v = true ↔ m_Wk (m_Eg X) N u v) := by
  obtain ⟨r1, a1, a2⟩ := m_it (fun m u r => T_makeReach_l1 (nI N) st m (nI u) r) id N (fun u0 r => ∀ u, u < u0 → ∀ v, v < 64 → (m_B (r u) v = true ↔ m_Eg X u v))
    (fun m r _ => by simp (disch := omega) only [T_makeReach_l1_s, m_le, if_pos, id])
    (fun m u r hu hI => by
      obtain ⟨x, x1, x2⟩ := m_behind (st := st) (a := u) (by omega)
      refine ⟨vp_updL r u x, fun u' hu' v hv => ?_, ?_⟩
      · by_cases hne : u' = u
        · subst hne
          rw [pk_uLs, x2]
          exact ⟨fun ⟨k, k1, k2⟩ => ⟨k, (hX.2 k k1 u' hu v hv).mp k2⟩, fun ⟨k, k2⟩ => ⟨k, (hX.1 _ _ _ k2).1, (hX.2 k (hX.1 _ _ _ k2).1 u' hu v hv).mpr k2⟩⟩
        · rw [pk_uLn hne]
          exact hI u' (by omega) v hv
      · simp (disch := omega) only [T_makeReach_l1_s, m_e64, m_le, if_neg, x1, Option.bind_some, m_inb, m_chkT, nI_clamp, nI_1])
    N 0 m_N r0 (by omega) (by show _ < 5000; omega) (fun u hu => by omega)
  obtain ⟨r2, b1, b2⟩ := m_it (fun m k r => T_makeReach_l2 m_N (nI N) m (nI k) r) id N (fun k r => ∀ u, u < N → ∀ v, v < 64 → (m_B (r u) v = true ↔ m_Wk (m_Eg X) k u v))
    (fun m r _ => by simp (disch := omega) only [T_makeReach_l2_s, m_le, if_pos, id])
    (fun m k r hk hI => by
      obtain ⟨r', c1, c2⟩ := m_reach3 hN hk r hI
      refine ⟨r', c2, ?_⟩
      simp (disch := omega) only [T_makeReach_l2_s, m_e64, m_le, if_neg, m_inb, m_chkT, nI_1]
      rw [c1, Option.bind_some])
    N 0 m_N r1 (by omega) (by show _ < 5000; omega) (fun u hu v hv => a2 u hu v hv)
  refine ⟨r2, ?_, b2⟩
  simp only [F_T_makeReach]
  rw [show T_makeReach_l1 (nI N) st m_N 0 r0 = _ from a1, Option.bind_some, show T_makeReach_l2 m_N (nI N) m_N 0 (id r1) = _ from b1]
  rfl
theorem m_ringOf {N : Nat} (hN : N ≤ 64) {R : Nat → Nat → Prop} {r : Nat → Int64} (hr : ∀ u, u < N → ∀ v, v < 64 → (m_B (r u) v = true ↔ R u v)) (rg : Nat → Int64) {a : Nat} (ha : a < N) : ∃ x rg', F_T_ringOf m_N (nI N) r rg (nI a) = some (x, rg') ∧ (∀ b, b < 64 → (m_B x b = true ↔ a ≤ b ∧ b < N ∧ R a b ∧ R b a)) ∧ ∀ b, b < N → rg' b = if a ≤ b ∧ m_B x b = true then x else rg b := by
  obtain ⟨x, a1, a2, a3⟩ := m_it (fun m b x => T_ringOf_l1 (nI N) (nI a) r m x (nI b)) id N (fun b0 x => a ≤ b0 ∧ ∀ b, b < 64 → (m_B x b = true ↔ a ≤ b ∧ b < b0 ∧ R a b ∧ R b a))
    (fun m x _ => by simp (disch := omega) only [T_ringOf_l1_s, m_le, if_pos, id])
    (fun m b x hb hI => by
      have e0 : T_ringOf_l1 (nI N) (nI a) r (m + 1) x (nI b) = T_ringOf_l1 (nI N) (nI a) r m (if m_B (r a) b = true ∧ m_B (r b) a = true then x ||| g_lshl 1 (nI b) else x) (nI (b + 1)) := by
        simp (disch := omega) only [T_ringOf_l1_s, m_e64, m_le, if_neg, m_inb, m_chkT, nI_clamp, m_Thas, nI_1]
        cases m_B (r a) b with
        | true =>
          rw [if_neg (by decide)]
          cases m_B (r b) a with
          | true => rw [if_neg (by decide), Option.bind_some, if_pos ⟨rfl, rfl⟩]
          | false => rw [if_pos (by decide), Option.bind_some, if_neg (by decide)]
        | false => rw [if_pos (by decide), Option.bind_some, if_neg (fun z => absurd z.1 (by decide))]
      have q1 := hr a ha b (by omega)
      have q2 := hr b hb a (by omega)
      refine ⟨_, ⟨by omega, fun c hc => ?_⟩, e0⟩
      by_cases hcc : m_B (r a) b = true ∧ m_B (r b) a = true
      · rw [if_pos hcc, m_B_or, Bool.or_eq_true, hI.2 c hc, m_B_one (by omega) hc]
        refine ⟨fun z => ?_, fun z => ?_⟩
        · rcases z with z | z
          · exact ⟨z.1, by omega, z.2.2⟩
          · have := of_decide_eq_true z
            subst this
            exact ⟨hI.1, by omega, q1.mp hcc.1, q2.mp hcc.2⟩
        · by_cases he : c = b
          · exact Or.inr (decide_eq_true he)
          · exact Or.inl ⟨z.1, by omega, z.2.2⟩
      · rw [if_neg hcc, hI.2 c hc]
        refine ⟨fun z => ⟨z.1, by omega, z.2.2⟩, fun z => ⟨z.1, ?_, z.2.2⟩⟩
        have : c ≠ b := fun y => by subst y; exact hcc ⟨q1.mpr z.2.2.1, q2.mpr z.2.2.2⟩
        omega)
    (N - a) a m_N 0 (by omega) (by show _ < 5000; omega) ⟨Nat.le_refl _, fun b hb => by rw [m_B_0]; exact ⟨fun z => absurd z (by decide), fun z => by omega⟩⟩
  obtain ⟨rg', b1, b2, b3⟩ := m_it (fun m b g => T_ringOf_l2 (nI N) x m (nI b) g) id N (fun b0 g => a ≤ b0 ∧ ∀ b, b < N → g b = if a ≤ b ∧ b < b0 ∧ m_B x b = true then x else rg b)
    (fun m g _ => by simp (disch := omega) only [T_ringOf_l2_s, m_le, if_pos, id])
    (fun m b g hb hI => by
      have e0 : T_ringOf_l2 (nI N) x (m + 1) (nI b) g = T_ringOf_l2 (nI N) x m (nI (b + 1)) (if m_B x b = true then vp_updL g b x else g) := by
        simp (disch := omega) only [T_ringOf_l2_s, m_e64, m_le, if_neg, m_inb, m_chkT, nI_clamp, m_Thas, nI_1]
        cases m_B x b with
        | true => rw [if_neg (by decide), Option.bind_some, if_pos rfl]
        | false => rw [if_pos (by decide), Option.bind_some, if_neg (by decide)]
      refine ⟨_, ⟨by omega, fun c hc => ?_⟩, e0⟩
      have h9 := hI.2 c hc
      by_cases hb2 : m_B x b = true
      · rw [if_pos hb2]
        by_cases he : c = b
        · subst he
          rw [pk_uLs, if_pos ⟨hI.1, by omega, hb2⟩]
        · rw [pk_uLn he, h9]
          by_cases h5 : a ≤ c ∧ c < b ∧ m_B x c = true
          · rw [if_pos h5, if_pos ⟨h5.1, by omega, h5.2.2⟩]
          · rw [if_neg h5, if_neg (fun z => h5 ⟨z.1, by omega, z.2.2⟩)]
      · rw [if_neg hb2, h9]
        by_cases h5 : a ≤ c ∧ c < b ∧ m_B x c = true
        · rw [if_pos h5, if_pos ⟨h5.1, by omega, h5.2.2⟩]
        · rw [if_neg h5, if_neg (fun z => h5 ⟨z.1, by have : c ≠ b := (fun y => by subst y; exact hb2 z.2.2); omega, z.2.2⟩)])
    (N - a) a m_N rg (by omega) (by show _ < 5000; omega) ⟨Nat.le_refl _, fun b hb => by rw [if_neg (fun z => by omega)]⟩
  refine ⟨x, rg', ?_, a3, fun b hb => ?_⟩
  · simp only [F_T_ringOf]
    rw [show T_ringOf_l1 (nI N) (nI a) r m_N 0 (nI a) = _ from a1, Option.bind_some, show T_ringOf_l2 (nI N) (id x) m_N (nI a) rg = _ from b1]
    rfl
  · rw [b3 b hb]
    by_cases h5 : a ≤ b ∧ m_B x b = true
    · rw [if_pos h5, if_pos ⟨h5.1, hb, h5.2⟩]
    · rw [if_neg h5, if_neg (fun z => h5 ⟨z.1, z.2.2⟩)]
theorem m_metIn {N : Nat} (hN : N ≤ 64) {st : Nat → Nat → Int64} {X : Nat → Nat → Nat → Prop} (hX : m_gr N st X) (met mbs : Nat → Int32) (x : Int64) : ∃ s, F_T_metIn m_N (nI N) st met mbs x = some s ∧ ∀ i, m_b s i = true ↔ (∃ v, v < N ∧ m_B x v = true ∧ m_b (met v) i = true) ∨ (∃ k a b, X k a b ∧ m_B x a = true ∧ m_B x b = true ∧ m_b (mbs k) i = true) := by
  obtain ⟨s, h1, h2⟩ := m_it (fun m v s => T_metIn_l1 m_N (nI N) x st mbs met m s (nI v)) id N (fun v0 s => ∀ i, m_b s i = true ↔ (∃ v, v < v0 ∧ m_B x v = true ∧ m_b (met v) i = true) ∨ (∃ k a b, a < v0 ∧ X k a b ∧ m_B x a = true ∧ m_B x b = true ∧ m_b (mbs k) i = true))
    (fun m s _ => by simp (disch := omega) only [T_metIn_l1_s, m_le, if_pos, id])
    (fun m v s hv hI => by
      obtain ⟨s2, a1, a2⟩ := m_it (fun m k s => T_metIn_l2 (nI v) st x mbs m s (nI k)) id 3 (fun k0 s2 => ∀ i, m_b s2 i = true ↔ (m_b (s ||| met v) i = true ∨ ∃ k b, k < k0 ∧ X k v b ∧ m_B x b = true ∧ m_b (mbs k) i = true))
        (fun m s _ => by simp (disch := omega) only [T_metIn_l2_s, m_e3, m_le, if_pos, id])
        (fun m k s2 hk hJ => by
          have e0 := T_metIn_l2_s (nI v) st x mbs m s2 (nI k)
          simp (disch := omega) only [m_e3, m_le, if_neg, m_inb, m_chkT, nI_clamp, nI_1] at e0
          by_cases hz : lg_cmp (st k v &&& x) 0 = 0
          · rw [if_pos hz, Option.bind_some] at e0
            refine ⟨_, fun i => ?_, e0⟩
            rw [hJ i]
            refine or_congr Iff.rfl ⟨fun ⟨k', b, z1, z2⟩ => ⟨k', b, by omega, z2⟩, fun ⟨k', b, z1, z2, z3, z4⟩ => ⟨k', b, ?_, z2, z3, z4⟩⟩
            have : k' ≠ k := fun y => by
              subst y
              have hb := (hX.1 _ _ _ z2).2.2
              have := (m_andZ _ _).mp hz b (by omega) ((hX.2 k' hk v hv b (by omega)).mpr z2)
              rw [z3] at this
              cases this
            omega
          · rw [if_neg hz, Option.bind_some] at e0
            refine ⟨_, fun i => ?_, e0⟩
            obtain ⟨b, b1, b2, b3⟩ : ∃ b, b < 64 ∧ X k v b ∧ m_B x b = true := by
              refine Classical.byContradiction fun y => hz ((m_andZ _ _).mpr fun i hi z => Bool.eq_false_iff.mpr fun w => y ⟨i, hi, (hX.2 k hk v hv i hi).mp z, w⟩)
            rw [m_b_or, Bool.or_eq_true, hJ i, or_assoc]
            refine or_congr Iff.rfl ⟨fun z => ?_, fun ⟨k', b', z1, z2, z3, z4⟩ => ?_⟩
            · rcases z with ⟨k', b', z1, z2⟩ | z
              · exact ⟨k', b', by omega, z2⟩
              · exact ⟨k, b, by omega, b2, b3, z⟩
            · by_cases hkk : k' = k
              · subst hkk
                exact Or.inr z4
              · exact Or.inl ⟨k', b', by omega, z2, z3, z4⟩)
        3 0 m_N (s ||| met v) (by omega) (by show _ < 5000; omega) (fun i => ⟨fun z => Or.inl z, fun z => by
          rcases z with z | ⟨_, _, z, _⟩
          · exact z
          · omega⟩)
      have e0 := T_metIn_l1_s m_N (nI N) x st mbs met m s (nI v)
      simp (disch := omega) only [m_e64, m_le, if_neg, m_inb, m_chkT, nI_clamp, nI_1, m_Thas, m_i0] at e0
      by_cases hb : m_B x v = true
      · rw [if_neg (by rw [hb]; decide), show T_metIn_l2 (nI v) st x mbs m_N (s ||| met v) 0 = _ from a1, Option.bind_some, Option.bind_some] at e0
        refine ⟨_, fun i => ?_, e0⟩
        show m_b s2 i = true ↔ _
        rw [a2 i, m_b_or, Bool.or_eq_true, hI i]
        refine ⟨fun z => ?_, fun z => ?_⟩
        · rcases z with ((⟨v', y1, y2⟩ | ⟨k, a, b, y1, y2⟩) | y) | ⟨k, b, _, y2, y3, y4⟩
          · exact Or.inl ⟨v', by omega, y2⟩
          · exact Or.inr ⟨k, a, b, by omega, y2⟩
          · exact Or.inl ⟨v, by omega, hb, y⟩
          · exact Or.inr ⟨k, v, b, by omega, y2, hb, y3, y4⟩
        · rcases z with ⟨v', y1, y2, y3⟩ | ⟨k, a, b, y1, y2, y3, y4, y5⟩
          · by_cases he : v' = v
            · subst he
              exact Or.inl (Or.inr y3)
            · exact Or.inl (Or.inl (Or.inl ⟨v', by omega, y2, y3⟩))
          · by_cases he : a = v
            · subst he
              exact Or.inr ⟨k, b, (hX.1 _ _ _ y2).1, y2, y4, y5⟩
            · exact Or.inl (Or.inl (Or.inr ⟨k, a, b, by omega, y2, y3, y4, y5⟩))
      · rw [if_pos (by simpa using hb), Option.bind_some] at e0
        refine ⟨_, fun i => ?_, e0⟩
        rw [hI i]
        refine or_congr ⟨fun ⟨v', y1, y2⟩ => ⟨v', by omega, y2⟩, fun ⟨v', y1, y2, y3⟩ => ⟨v', ?_, y2, y3⟩⟩ ⟨fun ⟨k, a, b, y1, y2⟩ => ⟨k, a, b, by omega, y2⟩, fun ⟨k, a, b, y1, y2, y3, y4⟩ => ⟨k, a, b, ?_, y2, y3, y4⟩⟩
        · have : v' ≠ v := fun y => by subst y; exact hb y2
          omega
        · have : a ≠ v := fun y => by subst y; exact hb y3
          omega)
    N 0 m_N 0 (by omega) (by show _ < 5000; omega) (fun i => by rw [m_b_0]; exact ⟨fun z => absurd z (by decide), fun z => by
      rcases z with ⟨_, z, _⟩ | ⟨_, _, _, z, _⟩
      · omega
      · omega⟩)
  refine ⟨s, ?_, fun i => (h2 i).trans (or_congr Iff.rfl ⟨fun ⟨k, a, b, _, z⟩ => ⟨k, a, b, z⟩, fun ⟨k, a, b, z⟩ => ⟨k, a, b, (hX.1 _ _ _ z.1).2.1, z⟩⟩)⟩
  simp only [F_T_metIn]
  rw [show T_metIn_l1 m_N (nI N) x st mbs met m_N 0 0 = _ from h1]
  rfl
