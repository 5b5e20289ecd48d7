/-! the reference: both formulas over all rows -/
def m_T8 (k s t : Nat) : Prop := k = 2 ∧ s < 8 ∧ t < 8
def m_bo (so : Nat → Int32) (v : Nat) : Nat := (if m_b (so v) 0 = true then 1 else 0) + (if m_b (so (64 + v)) 0 = true then 2 else 0)
theorem m_bo_lt (so : Nat → Int32) (v : Nat) : m_bo so v < 4 := by
  unfold m_bo
  by_cases h1 : m_b (so v) 0 = true <;> by_cases h2 : m_b (so (64 + v)) 0 = true <;> simp only [h1, h2, if_true, if_false] <;> decide
theorem m_bo_I (so : Nat → Int32) (v : Nat) : (if (if m_b (so v) 0 = true then (1 : Int32) else 0) = 0 then (0 : Int32) else (1 : Int32)) + (if (if m_b (so (64 + v)) 0 = true then (1 : Int32) else 0) = 0 then (0 : Int32) else (2 : Int32)) = nI (m_bo so v) := by
  unfold m_bo
  by_cases h1 : m_b (so v) 0 = true <;> by_cases h2 : m_b (so (64 + v)) 0 = true <;> simp only [h1, h2, if_true, if_false] <;> decide
theorem m_togL5 {q N : Nat} (hN : N ≤ 64) (hNe : 8 * q = N) {R : Nat → Nat → Prop} {r : Nat → Int64} (hr : ∀ u, u < N → ∀ v, v < 64 → (m_B (r u) v = true ↔ R u v)) (z0 : Int32) (so mt : Nat → Int32) {u : Nat} (hu : u < N) (set : Int32) : ∃ set', M_togetherOf_l5 (nI q, z0, so, mt) (nI u) r m_N set 0 = some set' ∧ ∀ i, i < 32 → (m_b set' i = true ↔ m_b set i = true ∨ ∃ v, v < N ∧ (v = u ∨ R v u) ∧ m_bo so v = i) := by
  obtain ⟨set', h1, h2⟩ := m_it (fun m v set => M_togetherOf_l5 (nI q, z0, so, mt) (nI u) r m set (nI v)) id N (fun v0 set' => ∀ i, i < 32 → (m_b set' i = true ↔ m_b set i = true ∨ ∃ v, v < v0 ∧ (v = u ∨ R v u) ∧ m_bo so v = i))
    (fun m s _ => by simp (disch := omega) only [M_togetherOf_l5_s, m_e8, pk_mul, hNe, m_le, if_pos, id])
    (fun m v s hv hI => by
      have hbl := m_bo_lt so v
      have hb := hr v hv u (by omega)
      obtain ⟨o, o1, o2⟩ : ∃ o : Int32, (if nI v = nI u then (some (1 : Int32)) else (if (if m_B (r v) u = true then (1 : Int32) else 0) = 0 then (some (0 : Int32)) else (some (1 : Int32)))) = some o ∧ ((o = 0 ∧ ¬ (v = u ∨ R v u)) ∨ (o = 1 ∧ (v = u ∨ R v u))) := by
        by_cases he : v = u
        · exact ⟨1, by rw [he, if_pos rfl], Or.inr ⟨rfl, Or.inl he⟩⟩
        · have hne : ¬ nI v = nI u := by rw [m_eq (by omega) (by omega)]; exact he
          by_cases hb2 : m_B (r v) u = true
          · exact ⟨1, by rw [if_neg hne, if_pos hb2, if_neg m_n10], Or.inr ⟨rfl, Or.inr (hb.mp hb2)⟩⟩
          · refine ⟨0, by rw [if_neg hne, if_neg hb2, if_pos rfl], Or.inl ⟨rfl, fun z => ?_⟩⟩
            rcases z with z | z
            · exact he z
            · exact hb2 (hb.mpr z)
      have e0 : M_togetherOf_l5 (nI q, z0, so, mt) (nI u) r (m + 1) s (nI v) = M_togetherOf_l5 (nI q, z0, so, mt) (nI u) r m (s ||| (if o = 0 then (0 : Int32) else g_ishl 1 (nI (m_bo so v)))) (nI (v + 1)) := by
        rw [M_togetherOf_l5_s]
        simp (disch := omega) only [m_e8, pk_mul, hNe, m_le, if_neg, m_inb, m_chkT, nI_clamp, m_isIn, nI_1, m_e64, nI_add]
        rw [o1, Option.bind_some]
        rw [show F_M_has (so v) 0 = _ from m_has (so v) (k := 0) (by omega), show F_M_has (so (64 + v)) 0 = _ from m_has (so (64 + v)) (k := 0) (by omega), m_bo_I]
      refine ⟨_, fun i hi => ?_, e0⟩
      rw [m_b_or, Bool.or_eq_true, hI i hi]
      rcases o2 with ⟨rfl, z⟩ | ⟨rfl, z⟩
      · rw [if_pos rfl, m_b_0]
        refine ⟨fun y => ?_, fun y => Or.inl ?_⟩
        · rcases y with (y | ⟨w, w1, w2⟩) | y
          · exact Or.inl y
          · exact Or.inr ⟨w, by omega, w2⟩
          · cases y
        · rcases y with y | ⟨w, w1, w2, w3⟩
          · exact Or.inl y
          · refine Or.inr ⟨w, ?_, w2, w3⟩
            have : w ≠ v := fun y => by subst y; exact z w2
            omega
      · rw [if_neg m_n10, m_b_shl (by omega) hi]
        refine ⟨fun y => ?_, fun y => ?_⟩
        · rcases y with (y | ⟨w, w1, w2⟩) | y
          · exact Or.inl y
          · exact Or.inr ⟨w, by omega, w2⟩
          · exact Or.inr ⟨v, by omega, z, (of_decide_eq_true y).symm⟩
        · rcases y with y | ⟨w, w1, w2, w3⟩
          · exact Or.inl (Or.inl y)
          · by_cases he : w = v
            · subst he
              exact Or.inr (decide_eq_true w3.symm)
            · exact Or.inl (Or.inr ⟨w, by omega, w2, w3⟩))
    N 0 m_N set (by omega) (by show _ < 5000; omega) (fun i hi => ⟨fun z => Or.inl z, fun z => by
      rcases z with z | ⟨_, z, _⟩
      · exact z
      · omega⟩)
  exact ⟨set', h1, h2⟩
theorem m_together {le : Nat → Nat → Int32} {n : Nat → Nat} (hf : m_fs le n) {letter sizes lnum many : Nat → Int32} (hl : m_lays le n letter sizes lnum many) (lab so meets f t b : Nat → Int32) (r0 : Nat → Int64) (g0 : Nat → Int32) : ∃ set lab' rso mt r g, F_M_togetherOf m_N (nI (m_G le n)) letter sizes lnum many lab so meets f t b r0 g0 = some (set, nI 8, nI (2 ^ m_G le n), 0, lab', rso, mt, r, g) ∧ (∀ s, s < 8 → lab' s = nI s) ∧ (∀ u, u < 8 * 2 ^ m_G le n → ∀ w, w < 2 → m_val (le w) (n w) (lab' (u / 2 ^ m_G le n)) (fun p => (u % 2 ^ m_G le n).testBit (m_o le n w + m_LT (le w) p)) (m_so rso u w)) ∧ ∀ i, i < 32 → (m_b set i = true ↔ ∃ v, v < 8 * 2 ^ m_G le n ∧ m_on le n 8 rso m_T8 (fun _ _ => True) False v ∧ m_bo rso v = i) := by
  have h8 := m_p8 hf.2
  have hPq : 8 * 2 ^ m_G le n ≤ 64 := by
    have : 8 * 2 ^ m_G le n ≤ 8 * 8 := Nat.mul_le_mul (Nat.le_refl _) h8.2
    omega
  obtain ⟨lab', l1, l2⟩ := m_it (fun m s lb => M_togetherOf_l1 m (nI s) lb) id 8 (fun s lb => ∀ j, j < s → lb j = nI j)
    (fun m lb _ => by simp (disch := omega) only [M_togetherOf_l1_s, m_e8, m_le, if_pos, id])
    (fun m s lb hs hI => by
      refine ⟨upd lb s (nI s), fun j hj => ?_, by simp (disch := omega) only [M_togetherOf_l1_s, m_e8, m_le, if_neg, m_inb, m_chkT, nI_clamp, nI_1]⟩
      by_cases hjs : j = s
      · subst hjs
        exact pk_us
      · rw [pk_un hjs]
        exact hI j (by omega))
    8 0 m_N lab (by omega) (by show _ < 5000; omega) (fun j hj => by omega)
  obtain ⟨rso, mt, a1, a2⟩ := m_nodesL hf hl (P := 8) hPq (by omega) lab' so meets
  have hEg : ∀ u v, m_Eg (m_edge le n rso m_T8) u v ↔ u < 8 * 2 ^ m_G le n ∧ v < 8 * 2 ^ m_G le n ∧ m_ok le n (m_so rso u) (m_so rso v) := fun u v => by
    have h80 : 0 < 2 ^ m_G le n := h8.1
    rw [m_lt_node h80, m_lt_node h80]
    exact ⟨fun ⟨k, ⟨z1, z2, z3⟩, z4⟩ => ⟨z2, z3, z4⟩, fun ⟨z2, z3, z4⟩ => ⟨2, ⟨rfl, z2, z3⟩, z4⟩⟩
  generalize hq : 2 ^ m_G le n = q at *
  generalize hNe : 8 * q = N at *
  have hq0 : 0 < q := h8.1
  have hq8 : q ≤ 8 := h8.2
  obtain ⟨s1, b1, b2⟩ := m_it (fun m u (s : (Nat → Int64) × (Nat → Int32)) => M_togetherOf_l2 m_N (nI q, 0, rso, mt) letter sizes many m (nI u) s.1 s.2) id N (fun u0 s => ∀ u, u < u0 → ∀ v, v < 64 → (m_B (s.1 u) v = true ↔ m_Eg (m_edge le n rso m_T8) u v))
    (fun m s _ => by simp (disch := omega) only [M_togetherOf_l2_s, m_e8, pk_mul, hNe, m_le, if_pos, id])
    (fun m u s hu hI => by
      obtain ⟨r1, c1, c2, c3⟩ := m_it (fun m v r => M_togetherOf_l3 m_N (nI q, 0, rso, mt) (nI u) letter sizes many m (nI v) r) id N (fun v0 r => (∀ v, v < 64 → (m_B (r u) v = true ↔ v < v0 ∧ m_ok le n (m_so rso u) (m_so rso v))) ∧ ∀ j, j ≠ u → r j = s.1 j)
        (fun m r _ => by simp (disch := omega) only [M_togetherOf_l3_s, m_e8, pk_mul, hNe, m_le, if_pos, id])
        (fun m v r hv hJ => by
          obtain ⟨o, o1, o2, o3⟩ := m_next hf hl (u := u) (v := v) (by omega) (by omega) rso
          have e0 : M_togetherOf_l3 m_N (nI q, 0, rso, mt) (nI u) letter sizes many (m + 1) (nI v) r = M_togetherOf_l3 m_N (nI q, 0, rso, mt) (nI u) letter sizes many m (nI (v + 1)) (vp_updL r u (r u ||| (if o = 0 then (0 : Int64) else g_lshl 1 (nI v)))) := by
            simp (disch := omega) only [M_togetherOf_l3_s, m_e8, pk_mul, hNe, m_le, if_neg, m_inb, m_chkT, nI_clamp, nI_1]
            rw [o1, Option.bind_some]
          refine ⟨_, ⟨fun x hx => ?_, fun j hj => ?_⟩, e0⟩
          · rw [pk_uLs, m_B_or, Bool.or_eq_true, hJ.1 x hx]
            rcases o2 with rfl | rfl
            · rw [if_neg m_n10, m_B_one (by omega) hx]
              refine ⟨fun z => ?_, fun z => ?_⟩
              · rcases z with z | z
                · exact ⟨by omega, z.2⟩
                · have := of_decide_eq_true z
                  subst this
                  exact ⟨by omega, o3.mp rfl⟩
              · by_cases he : x = v
                · exact Or.inr (decide_eq_true he)
                · exact Or.inl ⟨by omega, z.2⟩
            · rw [if_pos rfl, m_B_0]
              refine ⟨fun z => ?_, fun z => Or.inl ⟨?_, z.2⟩⟩
              · rcases z with z | z
                · exact ⟨by omega, z.2⟩
                · cases z
              · have : x ≠ v := fun y => by subst y; exact absurd (o3.mpr z.2) (by decide)
                omega
          · rw [pk_uLn hj]
            exact hJ.2 j hj)
        N 0 m_N (vp_updL s.1 u 0) (by omega) (by show _ < 5000; omega) ⟨fun v hv => by rw [pk_uLs, m_B_0]; exact ⟨fun z => absurd z (by decide), fun z => by omega⟩, fun j hj => pk_uLn hj⟩
      refine ⟨(r1, upd s.2 u 0), fun u' hu' v hv => ?_, ?_⟩
      · by_cases hne : u' = u
        · subst hne
          show m_B (r1 u') v = true ↔ _
          rw [c2 v hv, hEg]
          exact ⟨fun z => ⟨hu, z⟩, fun z => z.2⟩
        · show m_B (r1 u') v = true ↔ _
          rw [c3 u' hne]
          exact hI u' (by omega) v hv
      · simp (disch := omega) only [M_togetherOf_l2_s, m_e8, pk_mul, hNe, m_le, if_neg, m_inb, m_chkT, nI_clamp, nI_1, m_nar0]
        rw [show M_togetherOf_l3 m_N (nI q, 0, rso, mt) (nI u) letter sizes many m_N 0 (vp_updL s.1 u 0) = _ from c1, Option.bind_some]
        rfl)
    N 0 m_N (r0, g0) (by omega) (by show _ < 5000; omega) (fun u hu => by omega)
  obtain ⟨r2, c1, c2⟩ := m_close (E := m_Eg (m_edge le n rso m_T8)) hPq s1.1 b2
  have hXN : ∀ k u v, (fun _ _ _ => False : Nat → Nat → Nat → Prop) k u v → k < 3 ∧ u < N ∧ v < N := fun k u v z => z.elim
  have hmt : ∀ u, u < N → ∀ i, (m_b (mt u) i = true ↔ m_mt le n (m_so rso u) i) := fun u hu => (a2 u hu).2
  obtain ⟨set, d1, d2⟩ := m_it (fun m u set => M_togetherOf_l4 m_N (nI q, 0, rso, mt) r2 f t b m set (nI u)) id N (fun u0 set => ∀ i, i < 32 → (m_b set i = true ↔ ∃ u v, u < u0 ∧ m_R (m_edge le n rso m_T8) N u u ∧ (∀ i, i < 5 → m_met (m_R (m_edge le n rso m_T8) N) N (fun _ _ _ => False) (fun u i => m_mt le n (m_so rso u) i) u i) ∧ v < N ∧ (v = u ∨ m_R (m_edge le n rso m_T8) N v u) ∧ m_bo rso v = i))
    (fun m s _ => by simp (disch := omega) only [M_togetherOf_l4_s, m_e8, pk_mul, hNe, m_le, if_pos, id])
    (fun m u s hu hI => by
      obtain ⟨sm, e1, e2⟩ := m_metBy (R := m_R (m_edge le n rso m_T8) N) hNe hPq (W := 0) (by omega) hXN (r := r2) c2 hmt (fun u i _ z => z.1) (f := f) (t := t) (b := b) ⟨fun i hi => by omega, fun k u v z => z.elim⟩ hu
      obtain ⟨s5, g1, g2⟩ := m_togL5 hPq hNe c2 0 rso mt hu s
      have hru := c2 u hu u (by omega)
      have e0 := M_togetherOf_l4_s m_N (nI q, 0, rso, mt) r2 f t b m s (nI u)
      simp (disch := omega) only [m_e8, pk_mul, hNe, m_le, if_neg, m_inb, m_chkT, nI_clamp, m_isIn, nI_1, m_i0] at e0
      have hskip : ¬ (m_R (m_edge le n rso m_T8) N u u ∧ ∀ i, i < 5 → m_met (m_R (m_edge le n rso m_T8) N) N (fun _ _ _ => False) (fun u i => m_mt le n (m_so rso u) i) u i) → ∀ i, i < 32 → (m_b s i = true ↔ ∃ u' v, u' < u + 1 ∧ m_R (m_edge le n rso m_T8) N u' u' ∧ (∀ i, i < 5 → m_met (m_R (m_edge le n rso m_T8) N) N (fun _ _ _ => False) (fun u i => m_mt le n (m_so rso u) i) u' i) ∧ v < N ∧ (v = u' ∨ m_R (m_edge le n rso m_T8) N v u') ∧ m_bo rso v = i) := fun hno i hi => by
        rw [hI i hi]
        refine ⟨fun ⟨u', v, z1, z2⟩ => ⟨u', v, by omega, z2⟩, fun ⟨u', v, z1, z2, z3, z4⟩ => ⟨u', v, ?_, z2, z3, z4⟩⟩
        have : u' ≠ u := fun y => by subst y; exact hno ⟨z2, z3⟩
        omega
      by_cases hb : m_B (r2 u) u = true
      · rw [if_neg (by rw [hb]; decide), show F_M_metBy m_N (nI 8) (nI q) 0 mt f t b r2 (nI u) = _ from e1, Option.bind_some] at e0
        by_cases h31 : sm = 31
        · rw [if_pos h31, show M_togetherOf_l5 (nI q, 0, rso, mt) (nI u) r2 m_N s 0 = _ from g1, Option.bind_some, Option.bind_some] at e0
          refine ⟨_, fun i hi => ?_, e0⟩
          rw [g2 i hi, hI i hi]
          refine ⟨fun z => ?_, fun ⟨u', v, z1, z2, z3, z4, z5, z6⟩ => ?_⟩
          · rcases z with ⟨u', v, z1, z2⟩ | ⟨v, z1, z2, z3⟩
            · exact ⟨u', v, by omega, z2⟩
            · exact ⟨u, v, by omega, hru.mp hb, e2.mp h31, z1, z2, z3⟩
          · by_cases he : u' = u
            · subst he
              exact Or.inr ⟨v, z4, z5, z6⟩
            · exact Or.inl ⟨u', v, by omega, z2, z3, z4, z5, z6⟩
        · rw [if_neg h31, Option.bind_some] at e0
          exact ⟨s, hskip (fun z => h31 (e2.mpr z.2)), e0⟩
      · rw [if_pos (by simpa using hb), Option.bind_some] at e0
        exact ⟨s, hskip (fun z => hb (hru.mpr z.1)), e0⟩)
    N 0 m_N 0 (by omega) (by show _ < 5000; omega) (fun i hi => by rw [m_b_0]; exact ⟨fun z => absurd z (by decide), fun ⟨_, _, z, _⟩ => by omega⟩)
  have hmm : ∀ u i, m_met (m_R (m_edge le n rso m_T8) N) N (fun _ _ _ => False) (fun u i => m_mt le n (m_so rso u) i) u i ↔ m_met (m_R (m_edge le n rso m_T8) N) N (m_edge le n rso m_T8) (m_MT le n rso (fun _ _ => True) False) u i := fun u i => by
    refine or_congr ⟨fun ⟨v, z1, z2, z3, z4⟩ => ⟨v, z1, z2, z3, z4, fun ac _ y => y.2.1⟩, fun ⟨v, z1, z2, z3, z4⟩ => ⟨v, z1, z2, z3, z4.1⟩⟩ ⟨fun ⟨_, _, _, z, _⟩ => z.elim, fun ⟨k, a, c, z1, z2, _⟩ => ?_⟩
    have := z1.1.1
    omega
  refine ⟨set, lab', rso, mt, r2, s1.2, ?_, l2, fun u hu w hw2 => ?_, fun i hi => ?_⟩
  · simp only [F_M_togetherOf]
    rw [show M_togetherOf_l1 m_N 0 lab = _ from l1, Option.bind_some, show F_M_laysNodes m_N (nI (m_G le n)) 8 letter sizes lnum many (id lab') so meets = _ from a1, Option.bind_some]
    rw [show M_togetherOf_l2 m_N (nI q, 0, rso, mt) letter sizes many m_N 0 r0 g0 = _ from b1, Option.bind_some]
    rw [show (8 : Int32) * (nI q, (0 : Int32), rso, mt).1 = nI N by rw [m_e8, pk_mul, hNe]]
    rw [show F_M_closes m_N (id s1).1 (nI N) = _ from c1, Option.bind_some]
    rw [show M_togetherOf_l4 m_N (nI q, 0, rso, mt) r2 f t b m_N 0 0 = _ from d1, Option.bind_some]
    rfl
  · have h9 := (a2 u hu).1 w hw2
    rw [hq] at h9
    exact h9
  · rw [d2 i hi]
    unfold m_on
    rw [hq, hNe]
    refine ⟨fun ⟨u, v, z1, z2, z3, z4, z5, z6⟩ => ⟨v, z4, ⟨u, z1, z2, fun i hi => (hmm u i).mp (z3 i hi), z5⟩, z6⟩, fun ⟨v, z4, ⟨u, z1, z2, z3, z5⟩, z6⟩ => ⟨u, v, z1, z2, fun i hi => (hmm u i).mpr (z3 i hi), z4, z5, z6⟩⟩
