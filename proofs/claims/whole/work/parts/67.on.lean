/-! the reference: what is reached, what goes on -/
theorem m_nar0 : vp_nar .boolean 0 = 0 := by decide
theorem m_i1 (b : Bool) : ((if b = true then (1 : Int32) else 0) = 1) ↔ b = true := by cases b <;> decide
theorem m_close2 {E : Nat → Nat → Prop} {N k : Nat} (hN : N ≤ 64) (hk : k < N) (r : Nat → Int64) (hr : ∀ u, u < N → ∀ v, v < 64 → (m_B (r u) v = true ↔ m_Wk E k u v)) : ∃ r', M_closes_l2 (nI N) (nI k) m_N 0 r = some r' ∧ ∀ u, u < N → ∀ v, v < 64 → (m_B (r' u) v = true ↔ m_Wk E (k + 1) u v) := by
  obtain ⟨r', h1, h2⟩ := m_it (fun m u r => M_closes_l2 (nI N) (nI k) m (nI u) r) id N (fun u0 r => ∀ u, u < N → ∀ v, v < 64 → (u < u0 → (m_B (r u) v = true ↔ m_Wk E (k + 1) u v)) ∧ (u0 ≤ u → (m_B (r u) v = true ↔ m_Wk E k u v)))
    (fun m r _ => by simp (disch := omega) only [M_closes_l2_s, m_le, if_pos, id])
    (fun m u0 r hu0 hI => by
      have hkv : ∀ v, v < 64 → (m_B (r k) v = true ↔ m_Wk E k k v) := fun v hv => by
        by_cases hc : k < u0
        · exact ((hI k hk v hv).1 hc).trans m_Wk_kk
        · exact (hI k hk v hv).2 (by omega)
      have e0 : M_closes_l2 (nI N) (nI k) (m + 1) (nI u0) r = M_closes_l2 (nI N) (nI k) m (nI (u0 + 1)) (vp_updL r u0 (r u0 ||| (if m_B (r u0) k = true then r k else 0))) := by
        simp (disch := omega) only [M_closes_l2_s, m_le, if_neg, m_inb, m_chkT, nI_clamp, m_isIn, nI_1]
        cases m_B (r u0) k with
        | true => rw [if_neg (by decide), Option.bind_some, if_pos rfl]
        | false => rw [if_pos (by decide), Option.bind_some, if_neg (by decide)]
      refine ⟨_, fun u hu v hv => ?_, e0⟩
      by_cases hne : u = u0
      · subst hne
        refine ⟨fun _ => ?_, fun z => by omega⟩
        rw [pk_uLs, m_B_or, Bool.or_eq_true]
        have q1 := (hI u hu v hv).2 (Nat.le_refl _)
        have q2 := (hI u hu k (by omega)).2 (Nat.le_refl _)
        rw [q1]
        refine or_congr Iff.rfl ?_
        cases hb : m_B (r u) k with
        | true =>
          rw [if_pos rfl, hkv v hv]
          exact ⟨fun z => ⟨q2.mp hb, z⟩, fun z => z.2⟩
        | false =>
          rw [if_neg (by decide), m_B_0]
          refine ⟨fun z => absurd z (by decide), fun z => ?_⟩
          have := q2.mpr z.1
          rw [hb] at this
          cases this
      · rw [pk_uLn hne]
        exact ⟨fun z => (hI u hu v hv).1 (by omega), fun z => (hI u hu v hv).2 (by omega)⟩)
    N 0 m_N r (by omega) (by show _ < 5000; omega) (fun u hu v hv => ⟨fun z => by omega, fun _ => hr u hu v hv⟩)
  exact ⟨r', h1, fun u hu v hv => (h2 u hu v hv).1 hu⟩
theorem m_close {E : Nat → Nat → Prop} {N : Nat} (hN : N ≤ 64) (r : Nat → Int64) (hr : ∀ u, u < N → ∀ v, v < 64 → (m_B (r u) v = true ↔ E u v)) : ∃ r', F_M_closes m_N r (nI N) = some r' ∧ ∀ u, u < N → ∀ v, v < 64 → (m_B (r' u) v = true ↔ m_Wk E N u v) := by
  obtain ⟨r', h1, h2⟩ := m_it (fun m k r => M_closes_l1 m_N (nI N) m (nI k) r) id N (fun k r => ∀ u, u < N → ∀ v, v < 64 → (m_B (r u) v = true ↔ m_Wk E k u v))
    (fun m r _ => by simp (disch := omega) only [M_closes_l1_s, m_le, if_pos, id])
    (fun m k r hk hI => by
      obtain ⟨r', a1, a2⟩ := m_close2 hN hk r hI
      refine ⟨r', a2, ?_⟩
      simp (disch := omega) only [M_closes_l1_s, m_le, if_neg, nI_1]
      rw [a1, Option.bind_some])
    N 0 m_N r (by omega) (by show _ < 5000; omega) hr
  refine ⟨r', ?_, h2⟩
  simp only [F_M_closes]
  rw [show M_closes_l1 m_N (nI N) m_N 0 r = _ from h1]
  rfl
def m_met (R : Nat → Nat → Prop) (N : Nat) (X : Nat → Nat → Nat → Prop) (MT : Nat → Nat → Prop) (u i : Nat) : Prop := (∃ v, v < N ∧ R u v ∧ R v u ∧ MT v i) ∨ (∃ k a b, X k a b ∧ k < 2 ∧ i = k + 3 ∧ R u a ∧ R a u ∧ R u b ∧ R b u)
theorem m_metBy {R : Nat → Nat → Prop} {P q N W : Nat} (hNe : P * q = N) (hN : N ≤ 64) (hW : W ≤ 640) {X : Nat → Nat → Nat → Prop} (hXN : ∀ k u v, X k u v → k < 3 ∧ u < N ∧ v < N) {r : Nat → Int64} (hr : ∀ u, u < N → ∀ v, v < 64 → (m_B (r u) v = true ↔ R u v)) {MT : Nat → Nat → Prop} {mt : Nat → Int32} (hmt : ∀ u, u < N → ∀ i, (m_b (mt u) i = true ↔ MT u i)) (h5 : ∀ u i, u < N → MT u i → i < 5) {f t b : Nat → Int32} (hw : m_ways X W f t b) {u : Nat} (hu : u < N) : ∃ s, F_M_metBy m_N (nI P) (nI q) (nI W) mt f t b r (nI u) = some s ∧ (s = 31 ↔ ∀ i, i < 5 → m_met R N X MT u i) := by
  obtain ⟨s1, a1, a2⟩ := m_it (fun m v s => M_metBy_l1 (nI P) (nI q) (nI u) r mt m s (nI v)) id N (fun v0 s => ∀ i, m_b s i = true ↔ ∃ v, v < v0 ∧ R u v ∧ R v u ∧ MT v i)
    (fun m s _ => by simp (disch := omega) only [M_metBy_l1_s, pk_mul, hNe, m_le, if_pos, id])
    (fun m v s hv hI => by
      have e0 : M_metBy_l1 (nI P) (nI q) (nI u) r mt (m + 1) s (nI v) = M_metBy_l1 (nI P) (nI q) (nI u) r mt m (s ||| (if m_B (r u) v = true ∧ m_B (r v) u = true then mt v else 0)) (nI (v + 1)) := by
        simp (disch := omega) only [M_metBy_l1_s, pk_mul, hNe, m_le, if_neg, m_inb, m_chkT, nI_clamp, m_isIn, nI_1]
        cases m_B (r u) v with
        | true =>
          rw [if_neg (by decide)]
          cases m_B (r v) u with
          | true => rw [if_neg (by decide), Option.bind_some, if_pos ⟨rfl, rfl⟩]
          | false => rw [if_pos (by decide), Option.bind_some, if_neg (by decide)]
        | false => rw [if_pos (by decide), Option.bind_some, if_neg (fun z => absurd z.1 (by decide))]
      refine ⟨_, fun i => ?_, e0⟩
      rw [m_b_or, Bool.or_eq_true, hI]
      have q1 := hr u hu v (by omega)
      have q2 := hr v hv u (by omega)
      by_cases hc : m_B (r u) v = true ∧ m_B (r v) u = true
      · rw [if_pos hc, hmt v hv]
        refine ⟨fun z => ?_, fun ⟨x, x1, x2, x3, x4⟩ => ?_⟩
        · rcases z with ⟨x, x1, x2⟩ | z
          · exact ⟨x, by omega, x2⟩
          · exact ⟨v, by omega, q1.mp hc.1, q2.mp hc.2, z⟩
        · by_cases hx : x = v
          · subst hx
            exact Or.inr x4
          · exact Or.inl ⟨x, by omega, x2, x3, x4⟩
      · rw [if_neg hc, m_b_0]
        refine ⟨fun z => ?_, fun ⟨x, x1, x2, x3, x4⟩ => ?_⟩
        · rcases z with ⟨x, x1, x2⟩ | z
          · exact ⟨x, by omega, x2⟩
          · cases z
        · by_cases hx : x = v
          · subst hx
            exact absurd ⟨q1.mpr x2, q2.mpr x3⟩ hc
          · exact Or.inl ⟨x, by omega, x2, x3, x4⟩)
    N 0 m_N 0 (by omega) (by show _ < 5000; omega) (fun i => by rw [m_b_0]; exact ⟨fun z => absurd z (by decide), fun ⟨x, x1, _⟩ => by omega⟩)
  obtain ⟨s2, b1, b2⟩ := m_it (fun m w s => M_metBy_l2 (nI W) (nI u) r f t b m s (nI w)) id W (fun w0 s => ∀ i, m_b s i = true ↔ (m_b s1 i = true ∨ ∃ w k a c, w < w0 ∧ f w = nI a ∧ t w = nI c ∧ b w = nI k ∧ X k a c ∧ k < 2 ∧ i = k + 3 ∧ R u a ∧ R a u ∧ R u c ∧ R c u))
    (fun m s _ => by simp (disch := omega) only [M_metBy_l2_s, m_le, if_pos, id])
    (fun m w s hw0 hI => by
      obtain ⟨k, a, c, f1, f2, f3, f4⟩ := hw.1 w hw0
      obtain ⟨n1, n2, n3⟩ := hXN k a c f4
      have q1 := hr u hu a (by omega)
      have q2 := hr a n2 u (by omega)
      have q3 := hr u hu c (by omega)
      have q4 := hr c n3 u (by omega)
      have e0 : M_metBy_l2 (nI W) (nI u) r f t b (m + 1) s (nI w) = M_metBy_l2 (nI W) (nI u) r f t b m (s ||| (if (m_B (r u) a = true ∧ m_B (r a) u = true ∧ m_B (r u) c = true ∧ m_B (r c) u = true) ∧ k < 2 then g_ishl 8 (nI k) else 0)) (nI (w + 1)) := by
        simp (disch := omega) only [M_metBy_l2_s, m_le, if_neg, m_inb, m_chkT, nI_clamp, m_isIn, nI_1, f1, f2, f3, m_e2]
        cases m_B (r u) a with
        | false => rw [if_pos (by decide), Option.bind_some, if_pos rfl, Option.bind_some, if_neg (fun z => absurd z.1.1 (by decide))]
        | true =>
          rw [if_neg (by decide)]
          cases m_B (r a) u with
          | false => rw [if_pos (by decide), Option.bind_some, if_pos rfl, Option.bind_some, if_neg (fun z => absurd z.1.2.1 (by decide))]
          | true =>
            rw [if_neg (by decide)]
            cases m_B (r u) c with
            | false => rw [if_pos (by decide), Option.bind_some, if_pos rfl, Option.bind_some, if_neg (fun z => absurd z.1.2.2.1 (by decide))]
            | true =>
              rw [if_neg (by decide)]
              cases m_B (r c) u with
              | false => rw [if_pos (by decide), Option.bind_some, if_pos rfl, Option.bind_some, if_neg (fun z => absurd z.1.2.2.2 (by decide))]
              | true =>
                rw [if_neg (by decide), Option.bind_some, if_neg m_n10]
                by_cases h2 : 2 ≤ k
                · rw [if_pos h2, Option.bind_some, if_neg (fun z => by omega)]
                · rw [if_neg h2, Option.bind_some, if_pos ⟨⟨rfl, rfl, rfl, rfl⟩, by omega⟩]
      refine ⟨_, fun i => ?_, e0⟩
      rw [m_b_or, Bool.or_eq_true, hI]
      have uniq : ∀ k' a' c', f w = nI a' → t w = nI c' → b w = nI k' → X k' a' c' → k' = k ∧ a' = a ∧ c' = c := fun k' a' c' g1 g2 g3 g4 => by
        obtain ⟨y1, y2, y3⟩ := hXN k' a' c' g4
        exact ⟨(nI_eq (by omega) (by omega)).mp (g3.symm.trans f3), (nI_eq (by omega) (by omega)).mp (g1.symm.trans f1), (nI_eq (by omega) (by omega)).mp (g2.symm.trans f2)⟩
      by_cases hc : (m_B (r u) a = true ∧ m_B (r a) u = true ∧ m_B (r u) c = true ∧ m_B (r c) u = true) ∧ k < 2
      · rw [if_pos hc]
        refine ⟨fun z => ?_, fun z => ?_⟩
        · rcases z with (z | ⟨x, k', a', c', x1, x2⟩) | z
          · exact Or.inl z
          · exact Or.inr ⟨x, k', a', c', by omega, x2⟩
          · rcases Nat.lt_or_ge i 32 with hi | hi
            · rw [m_b_shl8 hc.2 hi] at z
              exact Or.inr ⟨w, k, a, c, by omega, f1, f2, f3, f4, hc.2, of_decide_eq_true z, q1.mp hc.1.1, q2.mp hc.1.2.1, q3.mp hc.1.2.2.1, q4.mp hc.1.2.2.2⟩
            · rw [m_b_big hi] at z
              cases z
        · rcases z with z | ⟨x, k', a', c', x1, x2, x3, x4, x5, x6, x7, x8⟩
          · exact Or.inl (Or.inl z)
          · by_cases hx : x = w
            · subst hx
              obtain ⟨rfl, rfl, rfl⟩ := uniq k' a' c' x2 x3 x4 x5
              refine Or.inr ?_
              rw [m_b_shl8 hc.2 (by omega)]
              exact decide_eq_true x7
            · exact Or.inl (Or.inr ⟨x, k', a', c', by omega, x2, x3, x4, x5, x6, x7, x8⟩)
      · rw [if_neg hc, m_b_0]
        refine ⟨fun z => ?_, fun z => ?_⟩
        · rcases z with (z | ⟨x, k', a', c', x1, x2⟩) | z
          · exact Or.inl z
          · exact Or.inr ⟨x, k', a', c', by omega, x2⟩
          · cases z
        · rcases z with z | ⟨x, k', a', c', x1, x2, x3, x4, x5, x6, x7, x8, x9, x10, x11⟩
          · exact Or.inl (Or.inl z)
          · by_cases hx : x = w
            · subst hx
              obtain ⟨rfl, rfl, rfl⟩ := uniq k' a' c' x2 x3 x4 x5
              exact absurd ⟨⟨q1.mpr x8, q2.mpr x9, q3.mpr x10, q4.mpr x11⟩, x6⟩ hc
            · exact Or.inl (Or.inr ⟨x, k', a', c', by omega, x2, x3, x4, x5, x6, x7, x8, x9, x10, x11⟩))
    W 0 m_N s1 (by omega) (by show _ < 5000; omega) (fun i => ⟨fun z => Or.inl z, fun z => by
      rcases z with z | ⟨x, _, _, _, x1, _⟩
      · exact z
      · omega⟩)
  have hall : ∀ i, m_b s2 i = true ↔ m_met R N X MT u i := fun i => by
    rw [b2, a2]
    refine or_congr Iff.rfl ⟨fun ⟨w, k, a, c, _, _, _, _, z⟩ => ⟨k, a, c, z⟩, fun ⟨k, a, c, z⟩ => ?_⟩
    obtain ⟨w, w1, w2, w3, w4⟩ := hw.2 k a c z.1
    exact ⟨w, k, a, c, w1, w2, w3, w4, z⟩
  refine ⟨s2, ?_, ⟨fun z i hi => (hall i).mp (by rw [z, m_b_31, decide_eq_true hi]), fun z => m_b_ext fun i hi => ?_⟩⟩
  · simp only [F_M_metBy]
    rw [show M_metBy_l1 (nI P) (nI q) (nI u) r mt m_N 0 0 = _ from a1, Option.bind_some, show M_metBy_l2 (nI W) (nI u) r f t b m_N (id s1) 0 = _ from b1, Option.bind_some]
    rfl
  · rw [m_b_31]
    by_cases h : i < 5
    · rw [decide_eq_true h, (hall i).mpr (z i h)]
    · rw [decide_eq_false h]
      refine Bool.eq_false_iff.mpr fun y => ?_
      rcases (hall i).mp y with ⟨v, v1, v2, v3, v4⟩ | ⟨k, a, c, z1, z2, z3, z4⟩
      · exact h (h5 v i v1 v4)
      · omega
theorem m_findsOn {P q N W : Nat} (hNe : P * q = N) (hN : N ≤ 64) (hW : W ≤ 640) {X : Nat → Nat → Nat → Prop} (hXN : ∀ k u v, X k u v → k < 3 ∧ u < N ∧ v < N) {MT : Nat → Nat → Prop} {mt : Nat → Int32} (hmt : ∀ u, u < N → ∀ i, (m_b (mt u) i = true ↔ MT u i)) (h5 : ∀ u i, u < N → MT u i → i < 5) {f t b : Nat → Int32} (hw : m_ways X W f t b) (r0 : Nat → Int64) (g0 : Nat → Int32) : ∃ r g, F_M_findsOn m_N (nI P) (nI q) (nI W) mt f t b r0 g0 = some (r, g) ∧ ∀ v, v < N → (g v = 1 ∨ g v = 0) ∧ (g v = 1 ↔ ∃ u, u < N ∧ m_Wk (fun a b => ∃ k, X k a b) N u u ∧ (∀ i, i < 5 → m_met (m_Wk (fun a b => ∃ k, X k a b) N) N X MT u i) ∧ (v = u ∨ m_Wk (fun a b => ∃ k, X k a b) N v u)) := by
  obtain ⟨z1, a1, a2⟩ := m_it (fun m u (z : (Nat → Int64) × (Nat → Int32)) => M_findsOn_l1 (nI P) (nI q) m (nI u) z.1 z.2) id N (fun u0 z => ∀ u, u < u0 → z.1 u = 0 ∧ z.2 u = 0)
    (fun m z _ => by simp (disch := omega) only [M_findsOn_l1_s, pk_mul, hNe, m_le, if_pos, id])
    (fun m u z hu hI => by
      refine ⟨(vp_updL z.1 u 0, upd z.2 u 0), fun u' hu' => ?_, by simp (disch := omega) only [M_findsOn_l1_s, pk_mul, hNe, m_le, if_neg, m_inb, m_chkT, nI_clamp, nI_1, m_nar0]⟩
      by_cases hne : u' = u
      · subst hne
        exact ⟨pk_uLs, pk_us⟩
      · exact ⟨(pk_uLn hne).trans (hI u' (by omega)).1, (pk_un hne).trans (hI u' (by omega)).2⟩)
    N 0 m_N (r0, g0) (by omega) (by show _ < 5000; omega) (fun u hu => by omega)
  obtain ⟨r1, b1, b2⟩ := m_it (fun m w r => M_findsOn_l2 (nI W) f t m (nI w) r) id W (fun w0 r => ∀ u, u < N → ∀ v, v < 64 → (m_B (r u) v = true ↔ ∃ w, w < w0 ∧ f w = nI u ∧ t w = nI v))
    (fun m r _ => by simp (disch := omega) only [M_findsOn_l2_s, m_le, if_pos, id])
    (fun m w r hw0 hI => by
      obtain ⟨k, a, c, f1, f2, f3, f4⟩ := hw.1 w hw0
      obtain ⟨n1, n2, n3⟩ := hXN k a c f4
      refine ⟨vp_updL r a (r a ||| g_lshl 1 (nI c)), fun u hu v hv => ?_, by simp (disch := omega) only [M_findsOn_l2_s, m_le, if_neg, m_inb, m_chkT, nI_clamp, nI_1, f1, f2]⟩
      by_cases hne : u = a
      · subst hne
        rw [pk_uLs, m_B_or, Bool.or_eq_true, hI u hu v hv, m_B_one (by omega) hv]
        refine ⟨fun z => ?_, fun ⟨x, x1, x2, x3⟩ => ?_⟩
        · rcases z with ⟨x, x1, x2⟩ | z
          · exact ⟨x, by omega, x2⟩
          · exact ⟨w, by omega, f1, by rw [f2, of_decide_eq_true z]⟩
        · by_cases hx : x = w
          · subst hx
            exact Or.inr (decide_eq_true ((nI_eq (by omega) (by omega)).mp (x3.symm.trans f2)))
          · exact Or.inl ⟨x, by omega, x2, x3⟩
      · rw [pk_uLn hne, hI u hu v hv]
        refine ⟨fun ⟨x, x1, x2⟩ => ⟨x, by omega, x2⟩, fun ⟨x, x1, x2, x3⟩ => ⟨x, ?_, x2, x3⟩⟩
        have : x ≠ w := fun hx => hne (by subst hx; exact (nI_eq (by omega) (by omega)).mp (x2.symm.trans f1))
        omega)
    W 0 m_N z1.1 (by omega) (by show _ < 5000; omega) (fun u hu v hv => by
      rw [(a2 u hu).1, m_B_0]
      exact ⟨fun z => absurd z (by decide), fun ⟨x, x1, _⟩ => by omega⟩)
  have b3 : ∀ u, u < N → ∀ v, v < 64 → (m_B (r1 u) v = true ↔ ∃ k, X k u v) := fun u hu v hv => by
    rw [b2 u hu v hv]
    refine ⟨fun ⟨w, w1, w2, w3⟩ => ?_, fun ⟨k, z⟩ => ?_⟩
    · obtain ⟨k, a, c, f1, f2, f3, f4⟩ := hw.1 w w1
      obtain ⟨n1, n2, n3⟩ := hXN k a c f4
      have e1 := (nI_eq (by omega) (by omega)).mp (f1.symm.trans w2)
      have e2 := (nI_eq (by omega) (by omega)).mp (f2.symm.trans w3)
      subst e1 e2
      exact ⟨k, f4⟩
    · obtain ⟨w, w1, w2, w3, w4⟩ := hw.2 k u v z
      exact ⟨w, w1, w2, w3⟩
  obtain ⟨r2, c1, c2⟩ := m_close hN r1 b3
  generalize hR : m_Wk (fun a b => ∃ k, X k a b) N = R at *
  obtain ⟨g, d1, d2⟩ := m_it (fun m u g => M_findsOn_l3 m_N (nI P) (nI q) r2 (nI W) mt f t b m (nI u) g) id N (fun u0 g => ∀ v, v < N → (g v = 1 ∨ g v = 0) ∧ (g v = 1 ↔ ∃ u, u < u0 ∧ R u u ∧ (∀ i, i < 5 → m_met R N X MT u i) ∧ (v = u ∨ R v u)))
    (fun m g _ => by simp (disch := omega) only [M_findsOn_l3_s, pk_mul, hNe, m_le, if_pos, id])
    (fun m u g hu hI => by
      obtain ⟨s, s1, s2⟩ := m_metBy hNe hN hW hXN c2 hmt h5 hw hu
      obtain ⟨rd, hrd, hrd1, hrd2⟩ : ∃ rd : Int32, (if (F_M_isIn (r2 u) (nI u)) = 0 then (some (0 : Int32)) else ((F_M_metBy m_N (nI P) (nI q) (nI W) mt f t b r2 (nI u)).bind fun o24 => (if o24 = (31 : Int32) then (some (1 : Int32)) else (some (0 : Int32))))) = some rd ∧ (rd = 1 ∨ rd = 0) ∧ (rd = 1 ↔ R u u ∧ ∀ i, i < 5 → m_met R N X MT u i) := by
        have q1 := c2 u hu u (by omega)
        rw [m_isIn _ (by omega), s1, Option.bind_some]
        cases hb : m_B (r2 u) u with
        | false =>
          refine ⟨0, by rw [if_pos (by decide)], Or.inr rfl, ⟨fun z => absurd z (by decide), fun z => ?_⟩⟩
          have := q1.mpr z.1
          rw [hb] at this
          cases this
        | true =>
          by_cases h31 : s = 31
          · exact ⟨1, by rw [if_neg (by decide), if_pos h31], Or.inl rfl, ⟨fun _ => ⟨q1.mp hb, s2.mp h31⟩, fun _ => rfl⟩⟩
          · exact ⟨0, by rw [if_neg (by decide), if_neg h31], Or.inr rfl, ⟨fun z => absurd z (by decide), fun z => absurd (s2.mpr z.2) h31⟩⟩
      obtain ⟨g2, e1, e2⟩ : ∃ g2, M_findsOn_l4 (nI P) (nI q) rd (nI u) r2 m_N 0 g = some g2 ∧ ∀ v, v < N → (g2 v = 1 ∨ g2 v = 0) ∧ (g2 v = 1 ↔ g v = 1 ∨ (rd = 1 ∧ (v = u ∨ R v u))) := by
        rcases hrd1 with rfl | rfl
        · obtain ⟨g2, e1, e2⟩ := m_it (fun m v g => M_findsOn_l4 (nI P) (nI q) 1 (nI u) r2 m (nI v) g) id N (fun v0 g2 => ∀ v, v < N → (g2 v = 1 ∨ g2 v = 0) ∧ (v < v0 → (g2 v = 1 ↔ g v = 1 ∨ (v = u ∨ R v u))) ∧ (v0 ≤ v → g2 v = g v))
            (fun m g _ => by simp (disch := omega) only [M_findsOn_l4_s, pk_mul, hNe, m_le, if_pos, id])
            (fun m v g2 hv hJ => by
              have q1 := c2 v hv u (by omega)
              obtain ⟨o, ho, ho1, ho2⟩ : ∃ o : Int32, (if (g2 v) = 0 then (if v = u then (some (1 : Int32)) else (if (if m_B (r2 v) u = true then (1 : Int32) else 0) = 0 then (some (0 : Int32)) else (some (1 : Int32)))) else (some (1 : Int32))) = some o ∧ (o = 1 ∨ o = 0) ∧ (o = 1 ↔ g v = 1 ∨ (v = u ∨ R v u)) := by
                have hg := (hJ v hv).2.2 (Nat.le_refl _)
                rcases (hJ v hv).1 with h1 | h1
                · exact ⟨1, by rw [h1, if_neg m_n10], Or.inl rfl, ⟨fun _ => Or.inl (hg.symm.trans h1), fun _ => rfl⟩⟩
                · have hg0 : ¬ g v = 1 := fun z => by rw [← hg, h1] at z; exact absurd z (by decide)
                  by_cases hvu : v = u
                  · exact ⟨1, by rw [if_pos h1, if_pos hvu], Or.inl rfl, ⟨fun _ => Or.inr (Or.inl hvu), fun _ => rfl⟩⟩
                  · cases hb : m_B (r2 v) u with
                    | true => exact ⟨1, by rw [if_pos h1, if_neg hvu, if_neg (by decide)], Or.inl rfl, ⟨fun _ => Or.inr (Or.inr (q1.mp hb)), fun _ => rfl⟩⟩
                    | false =>
                      refine ⟨0, by rw [if_pos h1, if_neg hvu, if_pos (by decide)], Or.inr rfl, ⟨fun z => absurd z (by decide), fun z => ?_⟩⟩
                      rcases z with z | z | z
                      · exact absurd z hg0
                      · exact absurd z hvu
                      · have := q1.mpr z
                        rw [hb] at this
                        cases this
              have hnar : vp_nar .boolean o = o := by
                rcases ho1 with rfl | rfl
                · exact m_nar1
                · exact m_nar0
              refine ⟨upd g2 v o, fun v' hv' => ?_, ?_⟩
              · by_cases hne : v' = v
                · subst hne
                  rw [pk_us]
                  exact ⟨ho1, fun _ => ho2, fun z => by omega⟩
                · rw [pk_un hne]
                  exact ⟨(hJ v' hv').1, fun z => (hJ v' hv').2.1 (by omega), fun z => (hJ v' hv').2.2 (by omega)⟩
              · simp (disch := omega) only [M_findsOn_l4_s, pk_mul, hNe, m_le, if_neg, m_n10, if_false, m_inb, m_chkT, nI_clamp, m_isIn, nI_1, m_eq]
                rw [ho, Option.bind_some, hnar])
            N 0 m_N g (by omega) (by show _ < 5000; omega) (fun v hv => ⟨(hI v hv).1, fun z => by omega, fun _ => rfl⟩)
          exact ⟨g2, e1, fun v hv => ⟨(e2 v hv).1, ((e2 v hv).2.1 hv).trans (or_congr Iff.rfl ⟨fun z => ⟨rfl, z⟩, fun z => z.2⟩)⟩⟩
        · refine ⟨g, ?_, fun v hv => ⟨(hI v hv).1, ⟨fun z => Or.inl z, fun z => ?_⟩⟩⟩
          · have z1 := M_findsOn_l4_s (nI P) (nI q) 0 (nI u) r2 4999 0 g
            rw [if_pos rfl] at z1
            by_cases hc : nI P * nI q ≤ 0
            · rw [if_pos hc] at z1
              exact z1
            · rw [if_neg hc] at z1
              exact z1
          · rcases z with z | ⟨z, _⟩
            · exact z
            · exact absurd z (by decide)
      refine ⟨g2, fun v hv => ⟨(e2 v hv).1, ?_⟩, ?_⟩
      · rw [(e2 v hv).2, (hI v hv).2, hrd2]
        refine ⟨fun z => ?_, fun ⟨x, x1, x2, x3, x4⟩ => ?_⟩
        · rcases z with ⟨x, x1, x2⟩ | ⟨⟨x1, x2⟩, x3⟩
          · exact ⟨x, by omega, x2⟩
          · exact ⟨u, by omega, x1, x2, x3⟩
        · by_cases hx : x = u
          · subst hx
            exact Or.inr ⟨⟨x2, x3⟩, x4⟩
          · exact Or.inl ⟨x, by omega, x2, x3, x4⟩
      · simp (disch := omega) only [M_findsOn_l3_s, pk_mul, hNe, m_le, if_neg, m_inb, m_chkT, nI_clamp, nI_1]
        rw [hrd, Option.bind_some, e1, Option.bind_some])
    N 0 m_N z1.2 (by omega) (by show _ < 5000; omega) (fun v hv => by
      rw [(a2 v hv).2]
      exact ⟨Or.inr rfl, ⟨fun z => absurd z (by decide), fun ⟨x, x1, _⟩ => by omega⟩⟩)
  refine ⟨r2, g, ?_, d2⟩
  simp only [F_M_findsOn, pk_mul, hNe]
  rw [show M_findsOn_l1 (nI P) (nI q) m_N 0 r0 g0 = _ from a1, Option.bind_some, show M_findsOn_l2 (nI W) f t m_N 0 (id z1).1 = _ from b1, Option.bind_some, show F_M_closes m_N (id r1) (nI N) = _ from c1, Option.bind_some, show M_findsOn_l3 m_N (nI P) (nI q) r2 (nI W) mt f t b m_N 0 (id z1).2 = _ from d1, Option.bind_some]
  rfl
theorem m_isThere {P q N : Nat} (hNe : P * q = N) (hN : N ≤ 64) {s : Nat} (hs : s < P) {g so : Nat → Int32} (hg : ∀ v, v < N → g v = 1 ∨ g v = 0) (x : Bool) : ∃ r, F_M_isThere m_N (nI q) so g (nI s) (if x = true then 1 else 0) = some r ∧ (r = 1 ∨ r = 0) ∧ (r = 1 ↔ ∃ u, u < N ∧ u / q = s ∧ g u = 1 ∧ m_b (so u) 0 = x) := by
  obtain ⟨r, h1, h2, h3⟩ := m_it (fun m a r => M_isThere_l1 (nI q) (nI s) g so (if x = true then 1 else 0) m r (nI a)) id q (fun a0 r => (r = 1 ∨ r = 0) ∧ (r = 1 ↔ ∃ a, a < a0 ∧ g (s * q + a) = 1 ∧ m_b (so (s * q + a)) 0 = x))
    (fun m r _ => by
      have : q ≤ 64 := by
        by_cases h : q ≤ 64
        · exact h
        · have : 1 * q ≤ P * q := Nat.mul_le_mul_right _ (by omega)
          omega
      simp (disch := omega) only [M_isThere_l1_s, m_le, if_pos, id])
    (fun m a r ha hI => by
      have hul := m_ndlt hs ha
      have hq64 : q ≤ 64 := by
        by_cases h : q ≤ 64
        · exact h
        · have : 1 * q ≤ P * q := Nat.mul_le_mul_right _ (by omega)
          omega
      obtain ⟨o, ho, ho1, ho2⟩ : ∃ o : Int32, (if r = 0 then (if g (s * q + a) = 0 then (some (0 : Int32)) else (if (if m_b (so (s * q + a)) 0 = true then (1 : Int32) else 0) = (if x = true then 1 else 0) then (some (1 : Int32)) else (some (0 : Int32)))) else (some (1 : Int32))) = some o ∧ (o = 1 ∨ o = 0) ∧ (o = 1 ↔ r = 1 ∨ (g (s * q + a) = 1 ∧ m_b (so (s * q + a)) 0 = x)) := by
        rcases hI.1 with rfl | rfl
        · exact ⟨1, by rw [if_neg m_n10], Or.inl rfl, ⟨fun _ => Or.inl rfl, fun _ => rfl⟩⟩
        · rcases hg (s * q + a) (by omega) with h | h
          · by_cases hx : m_b (so (s * q + a)) 0 = x
            · exact ⟨1, by rw [if_pos rfl, h, if_neg m_n10, if_pos (by rw [m_iab]; exact hx)], Or.inl rfl, ⟨fun _ => Or.inr ⟨h, hx⟩, fun _ => rfl⟩⟩
            · refine ⟨0, by rw [if_pos rfl, h, if_neg m_n10, if_neg (by rw [m_iab]; exact hx)], Or.inr rfl, ⟨fun z => absurd z (by decide), fun z => ?_⟩⟩
              rcases z with z | z
              · exact absurd z (by decide)
              · exact absurd z.2 hx
          · refine ⟨0, by rw [if_pos rfl, if_pos h], Or.inr rfl, ⟨fun z => absurd z (by decide), fun z => ?_⟩⟩
            rcases z with z | z
            · exact absurd z (by decide)
            · rw [h] at z
              exact absurd z.1 (by decide)
      refine ⟨o, ⟨ho1, ho2.trans ?_⟩, ?_⟩
      · rw [hI.2]
        refine ⟨fun z => ?_, fun ⟨y, y1, y2⟩ => ?_⟩
        · rcases z with ⟨y, y1, y2⟩ | z
          · exact ⟨y, by omega, y2⟩
          · exact ⟨a, by omega, z⟩
        · by_cases hy : y = a
          · subst hy
            exact Or.inr y2
          · exact Or.inl ⟨y, by omega, y2⟩
      · simp (disch := omega) only [M_isThere_l1_s, m_le, if_neg, pk_mul, nI_add, m_inb, m_chkT, nI_clamp, nI_1]
        rw [show F_M_has (so (s * q + a)) 0 = _ from m_has (so (s * q + a)) (k := 0) (by omega)]
        rw [ho, Option.bind_some])
    q 0 m_N 0 (by omega) (by
      have : q ≤ 64 := by
        by_cases h : q ≤ 64
        · exact h
        · have : 1 * q ≤ P * q := Nat.mul_le_mul_right _ (by omega)
          omega
      show _ < 5000
      omega) ⟨Or.inr rfl, ⟨fun z => absurd z (by decide), fun ⟨y, y1, _⟩ => by omega⟩⟩
  refine ⟨r, ?_, h2, h3.trans ⟨fun ⟨a, a1, a2, a3⟩ => ⟨s * q + a, by rw [← hNe]; exact m_ndlt hs a1, (m_nd a1).1, a2, a3⟩, fun ⟨u, u1, u2, u3, u4⟩ => ?_⟩⟩
  · simp only [F_M_isThere]
    rw [show M_isThere_l1 (nI q) (nI s) g so (if x = true then 1 else 0) m_N 0 0 = _ from h1, Option.bind_some]
    rcases h2 with rfl | rfl <;> rfl
  · have hq0 : 0 < q := by
      rcases Nat.eq_zero_or_pos q with h | h
      · rw [h, Nat.mul_zero] at hNe
        omega
      · exact h
    have h9 := m_nd2 (q := q) u
    rw [u2] at h9
    exact ⟨u % q, Nat.mod_lt _ hq0, by rw [← h9]; exact u3, by rw [← h9]; exact u4⟩
