/-! the class's ground -/
theorem m_b_ez (x : Int32) : x = 0 ↔ ∀ i, i < 32 → m_b x i = false := by
  refine ⟨fun h i _ => by rw [h, m_b_0], fun h => m_b_ext fun i hi => by rw [h i hi, m_b_0]⟩
theorem m_gopen2 {k : Nat} (hk : k < 3) (tg : Nat → Nat → Int32) : ∃ tg', G_open_l2 (nI k) m_N 0 tg = some tg' ∧ (∀ s, s < 8 → tg' k s = 0) ∧ ∀ j, j ≠ k → tg' j = tg j := by
  obtain ⟨tg', h1, h2, h3⟩ := m_it (fun m s tg => G_open_l2 (nI k) m (nI s) tg) id 8 (fun s0 tg' => (∀ s, s < s0 → tg' k s = 0) ∧ ∀ j, j ≠ k → tg' j = tg j)
    (fun m tg _ => by simp (disch := omega) only [G_open_l2_s, m_e8, m_le, if_pos, id])
    (fun m s tg2 hs hI => by
      refine ⟨va_up tg2 k (upd (tg2 k) s 0), ⟨fun s' hs' => ?_, fun j hj => ?_⟩, by simp (disch := omega) only [G_open_l2_s, m_e8, m_le, if_neg, m_inb, m_chkT, nI_clamp, nI_1]⟩
      · rw [va_up_self]
        by_cases hne : s' = s
        · subst hne
          exact pk_us
        · rw [pk_un hne]
          exact hI.1 s' (by omega)
      · rw [va_up_ne _ _ hj]
        exact hI.2 j hj)
    8 0 m_N tg (by omega) (by show _ < 5000; omega) ⟨fun s hs => by omega, fun _ _ => rfl⟩
  exact ⟨tg', h1, h2, h3⟩
theorem m_clamp8 {P : Nat} (hP : P ≤ 8) : g_imax (0 : Int32) (g_imin (nI P) (8 : Int32)) = nI P := by
  simp (disch := omega) only [g_imin, m_e8, m_lt, if_neg]
  rw [g_imax]
  by_cases h : (0 : Int32) < nI P
  · rw [if_pos h]
  · rw [if_neg h]
    have : P = 0 := by
      refine Classical.byContradiction fun z => h ?_
      rw [show (0 : Int32) = nI 0 from rfl, m_lt (by omega) (by omega)]
      omega
    subst this
    rfl
theorem m_gopen {P : Nat} (hP : P ≤ 8) (tg : Nat → Nat → Int32) : ∃ tg', F_G_open m_N tg (nI P) = some (tg', nI P) ∧ ∀ k, k < 3 → ∀ s, s < 8 → tg' k s = 0 := by
  obtain ⟨tg', h1, h2⟩ := m_it (fun m k tg => G_open_l1 m_N m (nI k) tg) id 3 (fun k0 tg' => ∀ k, k < k0 → ∀ s, s < 8 → tg' k s = 0)
    (fun m tg _ => by simp (disch := omega) only [G_open_l1_s, m_e3, m_le, if_pos, id])
    (fun m k tg hk hI => by
      obtain ⟨tg', a1, a2, a3⟩ := m_gopen2 hk tg
      refine ⟨tg', fun k' hk' s hs => ?_, ?_⟩
      · by_cases hne : k' = k
        · subst hne
          exact a2 s hs
        · rw [a3 k' hne]
          exact hI k' (by omega) s hs
      · simp (disch := omega) only [G_open_l1_s, m_e3, m_le, if_neg, nI_1]
        rw [a1, Option.bind_some])
    3 0 m_N tg (by omega) (by show _ < 5000; omega) (fun k hk => by omega)
  refine ⟨tg', ?_, h2⟩
  simp only [F_G_open, m_clamp8 hP]
  rw [show G_open_l1 m_N m_N 0 tg = _ from h1]
  rfl
def m_gt (tg : Nat → Nat → Int32) (T : Nat → Nat → Nat → Prop) : Prop := ∀ k, k < 3 → ∀ s, s < 8 → ∀ t, t < 32 → (m_b (tg k s) t = true ↔ T k s t)
theorem m_join {P : Nat} (hP : P ≤ 8) {tg : Nat → Nat → Int32} {T : Nat → Nat → Nat → Prop} (h : m_gt tg T) {k s t : Nat} (hk : k < 3) (hs : s < P) (ht : t < P) : ∃ tg', F_G_join tg (nI P) (nI k) (nI s) (nI t) = some tg' ∧ m_gt tg' (fun k' s' t' => T k' s' t' ∨ (k' = k ∧ s' = s ∧ t' = t)) := by
  refine ⟨va_up tg k (upd (tg k) s (tg k s ||| g_ishl 1 (nI t))), ?_, fun k' hk' s' hs' t' ht' => ?_⟩
  · simp (disch := omega) only [F_G_join, m_0lt, if_false, m_e3, m_le, if_neg, m_lt, if_pos, m_inb, m_chkT, nI_clamp]
  · by_cases h1 : k' = k
    · subst h1
      rw [va_up_self]
      by_cases h2 : s' = s
      · subst h2
        rw [pk_us, m_b_or, Bool.or_eq_true, h k' hk' s' hs' t' ht', m_b_shl (by omega) ht']
        exact or_congr Iff.rfl ⟨fun z => ⟨rfl, rfl, of_decide_eq_true z⟩, fun z => decide_eq_true z.2.2⟩
      · rw [pk_un h2, h k' hk' s' hs' t' ht']
        exact ⟨fun z => Or.inl z, fun z => by
          rcases z with z | z
          · exact z
          · exact absurd z.2.1 h2⟩
    · rw [va_up_ne _ _ h1, h k' hk' s' hs' t' ht']
      exact ⟨fun z => Or.inl z, fun z => by
        rcases z with z | z
        · exact z
        · exact absurd z.1 h1⟩
theorem m_gt_iff {tg : Nat → Nat → Int32} {T T' : Nat → Nat → Nat → Prop} (h : m_gt tg T) (hT : ∀ k s t, T k s t ↔ T' k s t) : m_gt tg T' := fun k hk s hs t ht => (h k hk s hs t ht).trans (hT k s t)
theorem m_takeSys {P mv : Nat} {act frm tto : Nat → Nat} {sl ma mf mt : Nat → Int32} (hP : P ≤ 5) (hmv : mv ≤ 10) (hm : ∀ j, j < mv → ma j = nI (act j) ∧ act j < 2 ∧ mf j = nI (frm j) ∧ frm j < P ∧ mt j = nI (tto j) ∧ tto j < P) (lab : Nat → Int32) (tg : Nat → Nat → Int32) : ∃ lab' tg', F_G_takeSystem m_N lab tg (nI P) (nI mv) sl ma mf mt = some (lab', tg', nI P) ∧ (∀ s, s < P → lab' s = sl s) ∧ m_gt tg' (m_tg P mv act frm tto) := by
  obtain ⟨tg0, a1, a2⟩ := m_gopen (P := P) (by omega) tg
  obtain ⟨lab', b1, b2⟩ := m_it (fun m s lb => G_takeSystem_l1 (tg0, nI P) sl m (nI s) lb) id P (fun s0 lb => ∀ s, s < s0 → lb s = sl s)
    (fun m lb _ => by simp (disch := omega) only [G_takeSystem_l1_s, m_le, if_pos, id])
    (fun m s lb hs hI => by
      refine ⟨upd lb s (sl s), fun j hj => ?_, by simp (disch := omega) only [G_takeSystem_l1_s, m_e5, m_le, if_neg, m_inb, m_chkT, nI_clamp, nI_1]⟩
      by_cases hne : j = s
      · subst hne
        exact pk_us
      · rw [pk_un hne]
        exact hI j (by omega))
    P 0 m_N lab (by omega) (by show _ < 5000; omega) (fun s hs => by omega)
  obtain ⟨tg1, c1, c2⟩ := m_it (fun m j tg => G_takeSystem_l2 (nI mv) (tg0, nI P) ma mf mt m (nI j) tg) id mv (fun j tg => m_gt tg (fun k s t => ∃ m, m < j ∧ act m = k ∧ frm m = s ∧ tto m = t))
    (fun m tg _ => by simp (disch := omega) only [G_takeSystem_l2_s, m_le, if_pos, id])
    (fun m j tg hj hI => by
      obtain ⟨k1, k2, k3, k4, k5, k6⟩ := hm j hj
      obtain ⟨tg', d1, d2⟩ := m_join (by omega) hI (k := act j) (by omega) k4 k6
      refine ⟨tg', m_gt_iff d2 (fun k s t => ⟨fun z => ?_, fun ⟨x, x1, x2, x3, x4⟩ => ?_⟩), ?_⟩
      · rcases z with ⟨x, x1, x2⟩ | ⟨z1, z2, z3⟩
        · exact ⟨x, by omega, x2⟩
        · exact ⟨j, by omega, z1.symm, z2.symm, z3.symm⟩
      · by_cases hx : x = j
        · subst hx
          exact Or.inr ⟨x2.symm, x3.symm, x4.symm⟩
        · exact Or.inl ⟨x, by omega, x2, x3, x4⟩
      · simp (disch := omega) only [G_takeSystem_l2_s, m_e10, m_le, if_neg, m_inb, m_chkT, nI_clamp, nI_1, k1, k3, k5]
        rw [d1, Option.bind_some])
    mv 0 m_N tg0 (by omega) (by show _ < 5000; omega) (fun k hk s hs t ht => by
      rw [a2 k hk s hs, m_b_0]
      exact ⟨fun z => absurd z (by decide), fun ⟨x, x1, _⟩ => by omega⟩)
  obtain ⟨tg2, e1, e2⟩ := m_it (fun m s tg => G_takeSystem_l3 (tg0, nI P) m (nI s) tg) id P (fun s0 tg => m_gt tg (fun k s t => (∃ m, m < mv ∧ act m = k ∧ frm m = s ∧ tto m = t) ∨ (k = 2 ∧ s = t ∧ s < s0 ∧ ∀ m, m < mv → frm m ≠ s)))
    (fun m tg _ => by simp (disch := omega) only [G_takeSystem_l3_s, m_le, if_pos, id])
    (fun m s tg hs hI => by
      have hz : ∀ k, k < 2 → (tg k s = 0 ↔ ¬ m_HM mv act frm k s) := fun k hk => by
        rw [m_b_ez]
        refine ⟨fun z ⟨x, x1, x2, x3⟩ => ?_, fun z t ht => Bool.eq_false_iff.mpr fun w => ?_⟩
        · have h6 := (hm x x1).2.2.2.2.2
          have := (hI k (by omega) s (by omega) (tto x) (by omega)).mpr (Or.inl ⟨x, x1, x2, x3, rfl⟩)
          rw [z _ (by omega)] at this
          cases this
        · rcases (hI k (by omega) s (by omega) t ht).mp w with ⟨x, x1, x2, x3, x4⟩ | ⟨x1, _⟩
          · exact z ⟨x, x1, x2, x3⟩
          · omega
      have hno : (∀ m, m < mv → frm m ≠ s) ↔ tg 0 s = 0 ∧ tg 1 s = 0 := by
        rw [hz 0 (by omega), hz 1 (by omega)]
        refine ⟨fun z => ⟨fun ⟨m, w1, w2, w3⟩ => z m w1 w3, fun ⟨m, w1, w2, w3⟩ => z m w1 w3⟩, fun ⟨w1, w2⟩ m hmm hfr => ?_⟩
        have := (hm m hmm).2.1
        rcases (show act m = 0 ∨ act m = 1 by omega) with h | h
        · exact w1 ⟨m, hmm, h, hfr⟩
        · exact w2 ⟨m, hmm, h, hfr⟩
      have e0 : G_takeSystem_l3 (tg0, nI P) (m + 1) (nI s) tg = ((if tg 0 s = 0 then (if tg 1 s = 0 then ((F_G_join tg (nI P) (2 : Int32) (nI s) (nI s)).bind fun o28 => (some o28)) else (some tg)) else (some tg)).bind fun o25 => (G_takeSystem_l3 (tg0, nI P) m (nI (s + 1)) o25)) := by
        simp (disch := omega) only [G_takeSystem_l3_s, m_le, if_neg, m_inb, m_chkT, nI_clamp, nI_1]
      by_cases hc : tg 0 s = 0 ∧ tg 1 s = 0
      · obtain ⟨tg', d1, d2⟩ := m_join (by omega) hI (k := 2) (by omega) hs hs
        rw [if_pos hc.1, if_pos hc.2, show F_G_join tg (nI P) 2 (nI s) (nI s) = _ from d1, Option.bind_some, Option.bind_some] at e0
        refine ⟨tg', m_gt_iff d2 (fun k s' t => ⟨fun z => ?_, fun z => ?_⟩), e0⟩
        · rcases z with (z | ⟨z1, z2, z3, z4⟩) | ⟨z1, z2, z3⟩
          · exact Or.inl z
          · exact Or.inr ⟨z1, z2, by omega, z4⟩
          · exact Or.inr ⟨z1, by omega, by omega, by rw [z2]; exact hno.mpr hc⟩
        · rcases z with z | ⟨z1, z2, z3, z4⟩
          · exact Or.inl (Or.inl z)
          · by_cases hs' : s' = s
            · exact Or.inr ⟨z1, hs', by omega⟩
            · exact Or.inl (Or.inr ⟨z1, z2, by omega, z4⟩)
      · refine ⟨tg, m_gt_iff hI (fun k s' t => or_congr Iff.rfl ⟨fun ⟨z1, z2, z3, z4⟩ => ⟨z1, z2, by omega, z4⟩, fun ⟨z1, z2, z3, z4⟩ => ⟨z1, z2, ?_, z4⟩⟩), e0.trans ?_⟩
        · have : s' ≠ s := fun y => hc (hno.mp (by rw [← y]; exact z4))
          omega
        · by_cases h0 : tg 0 s = 0
          · rw [if_pos h0, if_neg (fun z => hc ⟨h0, z⟩), Option.bind_some]
          · rw [if_neg h0, Option.bind_some])
    P 0 m_N tg1 (by omega) (by show _ < 5000; omega) (m_gt_iff c2 (fun k s t => ⟨fun z => Or.inl z, fun z => by
      rcases z with z | ⟨_, _, z, _⟩
      · exact z
      · omega⟩))
  refine ⟨lab', tg2, ?_, b2, m_gt_iff e2 (fun k s t => ⟨fun z => ?_, fun z => ?_⟩)⟩
  · simp only [F_G_takeSystem, a1, Option.bind_some]
    rw [show G_takeSystem_l1 (tg0, nI P) sl m_N 0 lab = _ from b1, Option.bind_some, show G_takeSystem_l2 (nI mv) (tg0, nI P) ma mf mt m_N 0 tg0 = _ from c1, Option.bind_some, show G_takeSystem_l3 (tg0, nI P) m_N 0 (id tg1) = _ from e1, Option.bind_some]
    rfl
  · rcases z with ⟨x, x1, x2, x3⟩ | z
    · exact Or.inl ⟨by rw [← x2]; exact (hm x x1).2.1, x, x1, x2, x3⟩
    · exact Or.inr z
  · rcases z with ⟨_, z⟩ | z
    · exact Or.inl z
    · exact Or.inr z
theorem m_topen {P G : Nat} (hG : G ≤ 3) (hP : P ≤ 8) : F_T_open (nI P) (nI G) = some (nI G, nI (P * 2 ^ G), F_T_firstNodes (nI (P * 2 ^ G)), F_T_firstNodes (nI (2 ^ G)), 0) := by
  have h8 := m_p8 hG
  have h64 : P * 2 ^ G ≤ 64 := by
    have : P * 2 ^ G ≤ 8 * 8 := Nat.mul_le_mul hP h8.2
    omega
  have e1 : g_imax (0 : Int32) (g_imin (nI G) (3 : Int32)) = nI G := by
    rcases (show G = 0 ∨ G = 1 ∨ G = 2 ∨ G = 3 by omega) with rfl | rfl | rfl | rfl <;> decide
  have e2 : g_ishl (nI P) (nI G) = nI (P * 2 ^ G) := m_ishl (by omega) (by omega)
  have e3 : g_ishl 1 (nI G) = nI (2 ^ G) := by
    have := m_ishl (a := 1) (k := G) (by omega) (by omega)
    rw [Nat.one_mul] at this
    exact this
  have e4 : g_imin (nI (P * 2 ^ G)) (64 : Int32) = nI (P * 2 ^ G) := by
    simp (disch := omega) only [g_imin, m_e64, m_lt, if_neg]
  simp only [F_T_open, e1, e2, e3, e4]
