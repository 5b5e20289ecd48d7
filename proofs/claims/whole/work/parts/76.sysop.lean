/-! both sides over a system: holds, where, some -/
theorem m_flag (a : Int32) : ((a = 0 ∨ a = 1) ∧ F_L_isFlag a = 1 ∧ F_M_isFair a = 1) ∨ (F_L_isFlag a = 0 ∧ F_M_isFair a = 0) := by
  rcases m_actor a with ⟨j, hj, rfl, h⟩ | ⟨h, h2⟩
  · rcases (show j = 0 ∨ j = 1 by omega) with rfl | rfl
    · exact Or.inl ⟨Or.inl rfl, rfl, h⟩
    · exact Or.inl ⟨Or.inr rfl, rfl, h⟩
  · refine Or.inr ⟨?_, h2⟩
    have h0 : ¬ a = 0 := fun z => by
      subst z
      exact absurd h2 (by decide)
    have h1 : ¬ a = 1 := fun z => by
      subst z
      exact absurd h2 (by decide)
    simp only [F_L_isFlag, if_neg h0, if_neg h1]
theorem m_both {n_states : Int32} {n_moveCount : Int32} {n_stateLabel : Nat → Int32} {n_moveActor : Nat → Int32} {n_moveFrom : Nat → Int32} {n_moveTo : Nat → Int32} {n_csz : Int32} {n_clt : Int32} {n_cle : Nat → Int32} {n_ssz : Nat → Int32} {n_slt : Nat → Int32} {n_sle : Nat → Nat → Int32} {f_now : Nat → Int32} (hW : m_W n_states n_moveCount n_stateLabel n_moveActor n_moveFrom n_moveTo n_csz n_clt n_cle n_ssz n_slt n_sle f_now) (a1 : Int32) (d_label : Nat → Int32) (d_tg : Nat → Nat → Int32) (t_so t_waiting t_meanwhile t_goal : Nat → Int64) (t_atNext : Nat → Int32) (t_steps : Nat → Nat → Int64) (t_met t_mbs : Nat → Int32) (t_reach t_ring : Nat → Int64) (letter sizes lnum many lab so meets f t b : Nat → Int32) : ∃ (le : Nat → Nat → Int32) (n : Nat → Nat) (P : Nat) (T : Nat → Nat → Nat → Prop) (H : Nat → Nat → Prop) (lab' : Nat → Int32) (tg' : Nat → Nat → Int32) (cso wt mw gl : Nat → Int64) (an : Nat → Int32) (st : Nat → Nat → Int64) (D : Nat) (met mbs : Nat → Int32) (r rg : Nat → Int64) (core lv : Int64) (letter' sizes' lnum' many' rlab rso rmt : Nat → Int32) (W : Nat) (f' t' b' : Nat → Int32), F_G_takeSystem m_N d_label d_tg n_states n_moveCount n_stateLabel n_moveActor n_moveFrom n_moveTo = some (lab', tg', nI P) ∧ F_L_judgeGround m_N lab' tg' (nI P) t_so t_waiting t_meanwhile t_goal t_atNext t_steps t_met t_mbs t_reach t_ring n_csz n_clt n_cle (if a1 = (1 : Int32) then (1 : Int32) else (0 : Int32)) = some (cso 0, nI (m_G le n), nI (P * 2 ^ m_G le n), m_all (P * 2 ^ m_G le n), F_T_firstNodes (nI (2 ^ m_G le n)), cso, nI (m_G le n), wt, mw, gl, an, st, nI (2 ^ D - 1), met, mbs, r, rg, core, lv) ∧ F_M_laysSystem m_N f_now letter sizes lnum many lab so meets f t b a1 = some (nI (m_G le n), nI P, nI (2 ^ m_G le n), nI W, letter', sizes', lnum', many', rlab, rso, rmt, f', t', b') ∧ (n_states = nI P ∧ f_now 0 = nI P ∧ P ≤ 5 ∧ 0 < n 0) ∧ m_lk le n P lab' cso wt mw gl an rso ∧ m_tab P (m_G le n) tg' (m_CX P (m_G le n) T wt mw gl an) wt gl an (a1 = 1) st D met mbs rg core lv ∧ (W ≤ 640 ∧ m_ways (m_edge le n rso T) W f' t' b' ∧ ∀ u, u < P * 2 ^ m_G le n → ∀ i, (m_b (rmt u) i = true ↔ m_MT le n rso H (a1 = 1) u i)) ∧ (∀ k s t, T k s t → k < 3) ∧ (∀ k u v, m_edge le n rso T k u v → k < 3 ∧ u < P * 2 ^ m_G le n ∧ v < P * 2 ^ m_G le n) ∧ (a1 = 1 → ∀ ac, ac < 2 → ∀ s, s < P → (tg' ac s = 0 ↔ ¬ H ac s)) := by
  obtain ⟨⟨P, hs, rfl, hr, hl, mv, k1, rfl, k3, k4⟩, ⟨n0, hn1, hn, rfl, hr0, hr1, hw, rfl, h3⟩, -⟩ := hW
  have hm : ∀ j, j < mv → f_now (7 + 3 * j) = nI (f_now (7 + 3 * j)).toNatClampNeg ∧ (f_now (7 + 3 * j)).toNatClampNeg < 2 ∧ f_now (7 + 3 * j + 1) = nI (f_now (7 + 3 * j + 1)).toNatClampNeg ∧ (f_now (7 + 3 * j + 1)).toNatClampNeg < P ∧ f_now (7 + 3 * j + 2) = nI (f_now (7 + 3 * j + 2)).toNatClampNeg ∧ (f_now (7 + 3 * j + 2)).toNatClampNeg < P := fun j hj => by
    obtain ⟨-, -, -, ⟨c1, c1', e1⟩, ⟨c2, c2', e2⟩, ⟨c3, c3', e3⟩⟩ := k4 j hj
    rw [e1, e2, e3, nI_clamp (by omega), nI_clamp (by omega), nI_clamp (by omega)]
    exact ⟨rfl, by omega, rfl, c2', rfl, c3'⟩
  have hmc : ∀ j, j < mv → n_moveActor j = nI (f_now (7 + 3 * j)).toNatClampNeg ∧ (f_now (7 + 3 * j)).toNatClampNeg < 2 ∧ n_moveFrom j = nI (f_now (7 + 3 * j + 1)).toNatClampNeg ∧ (f_now (7 + 3 * j + 1)).toNatClampNeg < P ∧ n_moveTo j = nI (f_now (7 + 3 * j + 2)).toNatClampNeg ∧ (f_now (7 + 3 * j + 2)).toNatClampNeg < P := fun j hj => by
    obtain ⟨g1, g2, g3, -⟩ := k4 j hj
    obtain ⟨m1, m2, m3, m4, m5, m6⟩ := hm j hj
    exact ⟨g1.trans m1, m2, g2.trans m3, m4, g3.trans m5, m6⟩
  obtain ⟨lab', tg', a1', a2, a3⟩ := m_takeSys (act := fun j => (f_now (7 + 3 * j)).toNatClampNeg) (frm := fun j => (f_now (7 + 3 * j + 1)).toNatClampNeg) (tto := fun j => (f_now (7 + 3 * j + 2)).toNatClampNeg) (sl := n_stateLabel) hs k1 hmc d_label d_tg
  have hmv : m_mvs f_now P mv (fun j => (f_now (7 + 3 * j)).toNatClampNeg) (fun j => (f_now (7 + 3 * j + 1)).toNatClampNeg) (fun j => (f_now (7 + 3 * j + 2)).toNatClampNeg) := ⟨hr, hs, k3, k1, hm⟩
  generalize (fun j => (f_now (7 + 3 * j)).toNatClampNeg) = act at a3 hmv
  generalize (fun j => (f_now (7 + 3 * j + 1)).toNatClampNeg) = frm at a3 hmv
  generalize (fun j => (f_now (7 + 3 * j + 2)).toNatClampNeg) = tto at a3 hmv
  obtain ⟨le, hle⟩ : ∃ le : Nat → Nat → Int32, le = fun _ => n_cle := ⟨_, rfl⟩
  obtain ⟨n, hnn⟩ : ∃ n : Nat → Nat, n = m_n1 n0 := ⟨_, rfl⟩
  have hr0' : f_now 37 = nI n0 := hr0
  obtain ⟨letter', sizes', lnum', many', rlab, rso, rmt, W, f', t', b', c1, c2, c3, c4, c5, c6⟩ := m_rsys hmv hn hw h3 hr0' (fun q hq => ((hr1 q hq).trans (congrArg f_now (by omega))).symm) letter sizes lnum many lab so meets f t b a1 le n hle hnn
  have hfl : ((if a1 = (1 : Int32) then (1 : Int32) else 0) = 1 ∧ a1 = 1) ∨ ((if a1 = (1 : Int32) then (1 : Int32) else 0) = 0 ∧ ¬ a1 = 1) := by
    by_cases h : a1 = 1
    · exact Or.inl ⟨if_pos h, h⟩
    · exact Or.inr ⟨if_neg h, h⟩
  obtain ⟨cso, wt, mw, gl, an, st, D, met, mbs, r, rg, core, lv, d1, d2, d3⟩ := m_judge (P := P) (by omega) hn hw h3 lab' a3 t_so t_waiting t_meanwhile t_goal t_atNext t_steps t_met t_mbs t_reach t_ring (a1 = 1) _ hfl le n hle hnn
  have hf : m_fs le n := by rw [hle, hnn]; exact m_fs1 hn hw h3
  have h8 := m_p8 hf.2
  refine ⟨le, n, P, m_tg P mv act frm tto, m_HM mv act frm, lab', tg', cso, wt, mw, gl, an, st, D, met, mbs, r, rg, core, lv, letter', sizes', lnum', many', rlab, rso, rmt, W, f', t', b', a1', d1, c1, ⟨rfl, hr, hs, by rw [hnn]; exact hn1⟩, ⟨hf, by omega, d2, fun u hu w hw2 => ?_⟩, d3, ⟨c5, c6, fun u hu i => (c4 u hu).2 i⟩, fun k s t z => ?_, fun k u v z => ?_, fun _ ac hac s hs' => ?_⟩
  · have h9 := (c4 u hu).1 w hw2
    have hud : u / 2 ^ m_G le n < P := (m_lt_node h8.1).mp hu
    rw [c3 _ hud, ← (hl _ hud).1, ← a2 _ hud] at h9
    exact h9
  · rcases z with ⟨z, _⟩ | ⟨z, _⟩ <;> omega
  · have hz := z.1
    have h80 : 0 < 2 ^ m_G le n := h8.1
    suffices hh : k < 3 ∧ u / 2 ^ m_G le n < P ∧ v / 2 ^ m_G le n < P from ⟨hh.1, (m_lt_node h80).mpr hh.2.1, (m_lt_node h80).mpr hh.2.2⟩
    rcases hz with ⟨z0, m, z1, z2, z3, z4⟩ | ⟨z1, z2, z3, z4⟩
    · obtain ⟨-, -, -, -, q⟩ := hmv
      obtain ⟨-, q2, -, q4, -, q6⟩ := q m z1
      omega
    · omega
  · have hq := hmv.2.2.2.2
    rw [m_b_ez]
    refine ⟨fun z ⟨x, x1, x2, x3⟩ => ?_, fun z t ht => Bool.eq_false_iff.mpr fun w => ?_⟩
    · have h6 := (hq x x1).2.2.2.2.2
      have := (a3 ac (by omega) s (by omega) (tto x) (by omega)).mpr (Or.inl ⟨hac, x, x1, x2, x3, rfl⟩)
      rw [z _ (by omega)] at this
      cases this
    · rcases (a3 ac (by omega) s (by omega) t ht).mp w with ⟨_, x, x1, x2, x3, x4⟩ | ⟨x1, _⟩
      · exact z ⟨x, x1, x2, x3⟩
      · omega
theorem m_place {P G s : Nat} (hG : G ≤ 3) (hP : P ≤ 8) (hs : s < P) (y : Int64) : (lg_cmp (y &&& F_T_nodesOf (nI P) (nI G) (F_T_firstNodes (nI (2 ^ G))) (nI s)) 0 = 0) ↔ ¬ ∃ b, b < P * 2 ^ G ∧ b / 2 ^ G = s ∧ m_B y b = true := by
  have h8 := m_p8 hG
  have h64 : P * 2 ^ G ≤ 8 * 8 := Nat.mul_le_mul hP h8.2
  rw [m_andZ]
  refine ⟨fun z ⟨b, b1, b2, b3⟩ => ?_, fun z i hi h1 => Bool.eq_false_iff.mpr fun h2 => z ⟨i, ?_, ?_, h1⟩⟩
  · have := z b (by omega) b3
    rw [m_nodesOf hG hP hs (by omega), decide_eq_false_iff_not] at this
    exact this b2
  · rw [m_nodesOf hG hP hs hi] at h2
    rw [m_lt_node h8.1, of_decide_eq_true h2]
    exact hs
  · rw [m_nodesOf hG hP hs hi] at h2
    exact of_decide_eq_true h2
theorem m_wrongB {lv x : Int64} {b : Nat} (hb : b < 64) : (m_B (lv &&& (x ^^^ -1)) b = true) ↔ m_B lv b = true ∧ m_B x b = false := by
  rw [m_B_and, m_B_not _ hb]
  cases m_B lv b <;> cases m_B x b <;> decide
theorem m_bit01 (p : Prop) [Decidable p] : F_L_bit (if p then (1 : Int32) else 0) = if p then 1 else 0 := by
  by_cases h : p
  · rw [if_pos h]
    rfl
  · rw [if_neg h]
    rfl
theorem m_whereL {P N G q W : Nat} (hP : P ≤ 5) (hN : N ≤ 64) (hNe : P * q = N) (x1 : (Nat → Int32) × (Nat → Int32) × (Nat → Int32) × (Nat → Int32) × (Nat → Int32)) (so : Nat → Int32) (x2 : (Nat → Int32) × (Nat → Int32) × (Nat → Int32) × (Nat → Int32)) (r : Nat → Int64) {g : Nat → Int32} (hg : ∀ v, v < N → g v = 1 ∨ g v = 0) : ∃ set, M_whereOf_l1 m_N (nI G, nI P, nI q, nI W, x1.1, x1.2.1, x1.2.2.1, x1.2.2.2.1, x1.2.2.2.2, so, x2.1, x2.2.1, x2.2.2.1, x2.2.2.2) (r, g) m_N 0 0 = some set ∧ ∀ i, i < 32 → (m_b set i = true ↔ i < P ∧ ¬ ∃ u, u < N ∧ u / q = i ∧ g u = 1 ∧ m_b (so u) 0 = false) := by
  obtain ⟨set, h1, h2⟩ := m_it (fun m s set => M_whereOf_l1 m_N (nI G, nI P, nI q, nI W, x1.1, x1.2.1, x1.2.2.1, x1.2.2.2.1, x1.2.2.2.2, so, x2.1, x2.2.1, x2.2.2.1, x2.2.2.2) (r, g) m set (nI s)) id P (fun s0 set => ∀ i, i < 32 → (m_b set i = true ↔ i < s0 ∧ ¬ ∃ u, u < N ∧ u / q = i ∧ g u = 1 ∧ m_b (so u) 0 = false))
    (fun m set _ => by simp (disch := omega) only [M_whereOf_l1_s, m_le, if_pos, id])
    (fun m s set hs hI => by
      obtain ⟨o, o1, o2, o3⟩ := m_isThere hNe hN hs hg (so := so) false
      have e0 : M_whereOf_l1 m_N (nI G, nI P, nI q, nI W, x1.1, x1.2.1, x1.2.2.1, x1.2.2.2.1, x1.2.2.2.2, so, x2.1, x2.2.1, x2.2.2.1, x2.2.2.2) (r, g) (m + 1) set (nI s) = M_whereOf_l1 m_N (nI G, nI P, nI q, nI W, x1.1, x1.2.1, x1.2.2.1, x1.2.2.2.1, x1.2.2.2.2, so, x2.1, x2.2.1, x2.2.2.1, x2.2.2.2) (r, g) m (set ||| (if o = 0 then (g_ishl (1 : Int32) (nI s)) else (0 : Int32))) (nI (s + 1)) := by
        simp (disch := omega) only [M_whereOf_l1_s, m_le, if_neg, nI_1]
        rw [show F_M_isThere m_N (nI q) so g (nI s) 0 = _ from o1, Option.bind_some]
      refine ⟨_, fun i hi => ?_, e0⟩
      rw [m_b_or, Bool.or_eq_true, hI i hi]
      rcases o2 with rfl | rfl
      · rw [if_neg m_n10, m_b_0]
        refine ⟨fun z => ?_, fun z => Or.inl ⟨?_, z.2⟩⟩
        · rcases z with z | z
          · exact ⟨by omega, z.2⟩
          · cases z
        · have : i ≠ s := fun y => by subst y; exact z.2 (o3.mp rfl)
          omega
      · rw [if_pos rfl, m_b_shl (by omega) hi]
        refine ⟨fun z => ?_, fun z => ?_⟩
        · rcases z with z | z
          · exact ⟨by omega, z.2⟩
          · have := of_decide_eq_true z
            subst this
            exact ⟨by omega, fun y => absurd (o3.mpr y) (by decide)⟩
        · by_cases he : i = s
          · exact Or.inr (decide_eq_true he)
          · exact Or.inl ⟨by omega, z.2⟩)
    P 0 m_N 0 (by omega) (by show _ < 5000; omega) (fun i hi => by rw [m_b_0]; exact ⟨fun z => absurd z (by decide), fun z => by omega⟩)
  exact ⟨set, h1, h2⟩
theorem m_whereC {P G : Nat} (hP : P ≤ 5) (hG : G ≤ 3) (y : Int64) (z1 : (Nat → Int32) × (Nat → Nat → Int32)) (z2 : Int32 × Int64) (z3 : (Nat → Int64) × Int32 × (Nat → Int64) × (Nat → Int64) × (Nat → Int64) × (Nat → Int32) × (Nat → Nat → Int64) × Int32 × (Nat → Int32) × (Nat → Int32) × (Nat → Int64) × (Nat → Int64) × Int64 × Int64) : ∃ set, L_where_l1 (nI P) (y, z1.1, z1.2, nI P, nI G, z2.1, z2.2, F_T_firstNodes (nI (2 ^ G)), z3) m_N 0 0 = some set ∧ ∀ i, i < 32 → (m_b set i = true ↔ i < P ∧ ¬ ∃ b, b < P * 2 ^ G ∧ b / 2 ^ G = i ∧ m_B y b = true) := by
  obtain ⟨set, h1, h2⟩ := m_it (fun m s set => L_where_l1 (nI P) (y, z1.1, z1.2, nI P, nI G, z2.1, z2.2, F_T_firstNodes (nI (2 ^ G)), z3) m set (nI s)) id P (fun s0 set => ∀ i, i < 32 → (m_b set i = true ↔ i < s0 ∧ ¬ ∃ b, b < P * 2 ^ G ∧ b / 2 ^ G = i ∧ m_B y b = true))
    (fun m set _ => by simp (disch := omega) only [L_where_l1_s, m_le, if_pos, id])
    (fun m s set hs hI => by
      have hp := m_place hG (show P ≤ 8 by omega) hs y
      refine ⟨if (lg_cmp (y &&& F_T_nodesOf (nI P) (nI G) (F_T_firstNodes (nI (2 ^ G))) (nI s)) 0 = 0) then set ||| g_ishl 1 (nI s) else set, fun i hi => ?_, by simp (disch := omega) only [L_where_l1_s, m_le, if_neg, nI_1]⟩
      by_cases hc : lg_cmp (y &&& F_T_nodesOf (nI P) (nI G) (F_T_firstNodes (nI (2 ^ G))) (nI s)) 0 = 0
      · rw [if_pos hc, m_b_or, Bool.or_eq_true, hI i hi, m_b_shl (by omega) hi]
        refine ⟨fun z => ?_, fun z => ?_⟩
        · rcases z with z | z
          · exact ⟨by omega, z.2⟩
          · have := of_decide_eq_true z
            subst this
            exact ⟨by omega, hp.mp hc⟩
        · by_cases he : i = s
          · exact Or.inr (decide_eq_true he)
          · exact Or.inl ⟨by omega, z.2⟩
      · rw [if_neg hc, hI i hi]
        refine ⟨fun z => ⟨by omega, z.2⟩, fun z => ⟨?_, z.2⟩⟩
        have : i ≠ s := fun w => by subst w; exact hc (hp.mpr z.2)
        omega)
    P 0 m_N 0 (by omega) (by show _ < 5000; omega) (fun i hi => by rw [m_b_0]; exact ⟨fun z => absurd z (by decide), fun z => by omega⟩)
  exact ⟨set, h1, h2⟩
theorem mc_holds {d_label : Nat → Int32} {d_tg : Nat → Nat → Int32} {d_places : Int32} {t_guesses : Int32} {t_nodes : Int32} {t_all : Int64} {t_np0 : Int64} {t_so : Nat → Int64} {t_laters : Int32} {t_waiting : Nat → Int64} {t_meanwhile : Nat → Int64} {t_goal : Nat → Int64} {t_atNext : Nat → Int32} {t_steps : Nat → Nat → Int64} {t_due : Int32} {t_met : Nat → Int32} {t_mbs : Nat → Int32} {t_reach : Nat → Int64} {t_ring : Nat → Int64} {t_core : Int64} {t_live : Int64} {n_states : Int32} {n_moveCount : Int32} {n_stateLabel : Nat → Int32} {n_moveActor : Nat → Int32} {n_moveFrom : Nat → Int32} {n_moveTo : Nat → Int32} {n_csz : Int32} {n_clt : Int32} {n_cle : Nat → Int32} {n_ssz : Nat → Int32} {n_slt : Nat → Int32} {n_sle : Nat → Nat → Int32} {f_laters : Int32} {f_places : Int32} {f_guesses : Int32} {f_ways : Int32} {f_now : Nat → Int32} {f_letter : Nat → Int32} {f_sizes : Nat → Int32} {f_laterNumber : Nat → Int32} {f_many : Nat → Int32} {f_labelAt : Nat → Int32} {f_soAt : Nat → Int32} {f_meets : Nat → Int32} {f_wayFrom : Nat → Int32} {f_wayTo : Nat → Int32} {f_wayBy : Nat → Int32} {f_reach : Nat → Int64} {f_goesOn : Nat → Int32} (hW : m_W n_states n_moveCount n_stateLabel n_moveActor n_moveFrom n_moveTo n_csz n_clt n_cle n_ssz n_slt n_sle f_now) (a1 : Int32) (a2 : Int32) : ∃ oL oM, F_L_holds m_N d_label d_tg d_places t_guesses t_nodes t_all t_np0 t_so t_laters t_waiting t_meanwhile t_goal t_atNext t_steps t_due t_met t_mbs t_reach t_ring t_core t_live n_states n_moveCount n_stateLabel n_moveActor n_moveFrom n_moveTo n_csz n_clt n_cle a1 a2 = some oL ∧ F_M_holds m_N f_laters f_places f_guesses f_ways f_now f_letter f_sizes f_laterNumber f_many f_labelAt f_soAt f_meets f_wayFrom f_wayTo f_wayBy f_reach f_goesOn a1 a2 = some oM ∧ oL.1 = oM.1 := by
  rcases m_flag a1 with ⟨-, e1, e2⟩ | ⟨e1, e2⟩
  · obtain ⟨le, n, P, T, H, lab', tg', cso, wt, mw, gl, an, st, D, met, mbs, r, rg, core, lv, letter', sizes', lnum', many', rlab, rso, rmt, W, f', t', b', p1, p2, p3, ⟨p4, p5, p6, p7⟩, hlk, htab, ⟨q1, q2, q3⟩, hT, hXN, hH⟩ := m_both hW a1 d_label d_tg t_so t_waiting t_meanwhile t_goal t_atNext t_steps t_met t_mbs t_reach t_ring f_letter f_sizes f_laterNumber f_many f_labelAt f_soAt f_meets f_wayFrom f_wayTo f_wayBy
    have h64 := m_lk_64 hlk
    subst p4
    rcases m_state p6 f_now p5 a2 with ⟨j, hj, rfl, e3, e4⟩ | ⟨e3, e4⟩
    · obtain ⟨rr, g, u1, u2⟩ := m_findsOn (q := 2 ^ m_G le n) rfl h64 q1 hXN q3 (fun u i _ z => z.1.1) q2 f_reach f_goesOn
      obtain ⟨set, v1, v2⟩ := m_whereL (G := m_G le n) (q := 2 ^ m_G le n) (W := W) p6 h64 rfl (letter', sizes', lnum', many', rlab) rso (rmt, f', t', b') rr (fun v hv => (u2 v hv).1)
      refine ⟨_, _, by simp only [F_L_holds, e1, e3, m_n10, if_false, F_L_wrongStarts, p1, p2, Option.bind_some] <;> rfl, by simp only [F_M_holds, e2, e4, m_n10, if_false, F_M_whereOf, p3, u1, v1, Option.bind_some] <;> rfl, ?_⟩
      dsimp only
      rw [m_bit01, m_shr_bit _ (by omega)]
      have hA := m_place hlk.1.2 hlk.2.1 hj (lv &&& (cso 0 ^^^ -1))
      have hB := m_lk_there hlk p7 (g := fun v => g v = 1) (lv := lv) (s := j) (fun b hb => (m_lk_live hlk hT hXN htab hH hb).trans (u2 _ (m_lk_pf hlk hb).1).2.symm) false
      have hC : (∃ b, b < P * 2 ^ m_G le n ∧ b / 2 ^ m_G le n = j ∧ m_B (lv &&& (cso 0 ^^^ -1)) b = true) ↔ (∃ b, b < P * 2 ^ m_G le n ∧ b / 2 ^ m_G le n = j ∧ m_B lv b = true ∧ m_B (cso 0) b = false) := ⟨fun ⟨b, b1, b2, b3⟩ => ⟨b, b1, b2, (m_wrongB (by omega)).mp b3⟩, fun ⟨b, b1, b2, b3⟩ => ⟨b, b1, b2, (m_wrongB (by omega)).mpr b3⟩⟩
      have hD : (m_b set j = true) ↔ (lg_cmp ((lv &&& (cso 0 ^^^ -1)) &&& F_T_nodesOf (nI P) (nI (m_G le n)) (F_T_firstNodes (nI (2 ^ m_G le n))) (nI j)) 0 = 0) := by
        rw [v2 j (by omega), hA, hC, hB]
        exact ⟨fun z => z.2, fun z => ⟨hj, z⟩⟩
      by_cases hc : lg_cmp ((lv &&& (cso 0 ^^^ -1)) &&& F_T_nodesOf (nI P) (nI (m_G le n)) (F_T_firstNodes (nI (2 ^ m_G le n))) (nI j)) 0 = 0
      · rw [if_pos hc, if_pos (hD.mpr hc)]
      · rw [if_neg hc, if_neg (fun z => hc (hD.mp z))]
    · exact ⟨_, _, by simp only [F_L_holds, e1, e3, m_n10, if_false, if_true] <;> rfl, by simp only [F_M_holds, e2, e4, m_n10, if_false, if_true, Option.bind_some] <;> rfl, rfl⟩
  · exact ⟨_, _, by simp only [F_L_holds, e1, if_true] <;> rfl, by simp only [F_M_holds, e2, if_true, Option.bind_some] <;> rfl, rfl⟩
theorem mc_where {d_label : Nat → Int32} {d_tg : Nat → Nat → Int32} {d_places : Int32} {t_guesses : Int32} {t_nodes : Int32} {t_all : Int64} {t_np0 : Int64} {t_so : Nat → Int64} {t_laters : Int32} {t_waiting : Nat → Int64} {t_meanwhile : Nat → Int64} {t_goal : Nat → Int64} {t_atNext : Nat → Int32} {t_steps : Nat → Nat → Int64} {t_due : Int32} {t_met : Nat → Int32} {t_mbs : Nat → Int32} {t_reach : Nat → Int64} {t_ring : Nat → Int64} {t_core : Int64} {t_live : Int64} {n_states : Int32} {n_moveCount : Int32} {n_stateLabel : Nat → Int32} {n_moveActor : Nat → Int32} {n_moveFrom : Nat → Int32} {n_moveTo : Nat → Int32} {n_csz : Int32} {n_clt : Int32} {n_cle : Nat → Int32} {n_ssz : Nat → Int32} {n_slt : Nat → Int32} {n_sle : Nat → Nat → Int32} {f_laters : Int32} {f_places : Int32} {f_guesses : Int32} {f_ways : Int32} {f_now : Nat → Int32} {f_letter : Nat → Int32} {f_sizes : Nat → Int32} {f_laterNumber : Nat → Int32} {f_many : Nat → Int32} {f_labelAt : Nat → Int32} {f_soAt : Nat → Int32} {f_meets : Nat → Int32} {f_wayFrom : Nat → Int32} {f_wayTo : Nat → Int32} {f_wayBy : Nat → Int32} {f_reach : Nat → Int64} {f_goesOn : Nat → Int32} (hW : m_W n_states n_moveCount n_stateLabel n_moveActor n_moveFrom n_moveTo n_csz n_clt n_cle n_ssz n_slt n_sle f_now) (a1 : Int32) : ∃ oL oM, F_L_where m_N d_label d_tg d_places t_guesses t_nodes t_all t_np0 t_so t_laters t_waiting t_meanwhile t_goal t_atNext t_steps t_due t_met t_mbs t_reach t_ring t_core t_live n_states n_moveCount n_stateLabel n_moveActor n_moveFrom n_moveTo n_csz n_clt n_cle a1 = some oL ∧ F_M_where m_N f_laters f_places f_guesses f_ways f_now f_letter f_sizes f_laterNumber f_many f_labelAt f_soAt f_meets f_wayFrom f_wayTo f_wayBy f_reach f_goesOn a1 = some oM ∧ oL.1 = oM.1 := by
  rcases m_flag a1 with ⟨-, e1, e2⟩ | ⟨e1, e2⟩
  · obtain ⟨le, n, P, T, H, lab', tg', cso, wt, mw, gl, an, st, D, met, mbs, r, rg, core, lv, letter', sizes', lnum', many', rlab, rso, rmt, W, f', t', b', p1, p2, p3, ⟨p4, p5, p6, p7⟩, hlk, htab, ⟨q1, q2, q3⟩, hT, hXN, hH⟩ := m_both hW a1 d_label d_tg t_so t_waiting t_meanwhile t_goal t_atNext t_steps t_met t_mbs t_reach t_ring f_letter f_sizes f_laterNumber f_many f_labelAt f_soAt f_meets f_wayFrom f_wayTo f_wayBy
    have h64 := m_lk_64 hlk
    subst p4
    obtain ⟨rr, g, u1, u2⟩ := m_findsOn (q := 2 ^ m_G le n) rfl h64 q1 hXN q3 (fun u i _ z => z.1.1) q2 f_reach f_goesOn
    obtain ⟨set, v1, v2⟩ := m_whereL (G := m_G le n) (q := 2 ^ m_G le n) (W := W) p6 h64 rfl (letter', sizes', lnum', many', rlab) rso (rmt, f', t', b') rr (fun v hv => (u2 v hv).1)
    obtain ⟨set2, w1, w2⟩ := m_whereC p6 hlk.1.2 (lv &&& (cso 0 ^^^ -1)) (lab', tg') (nI (P * 2 ^ m_G le n), m_all (P * 2 ^ m_G le n)) (cso, nI (m_G le n), wt, mw, gl, an, st, nI (2 ^ D - 1), met, mbs, r, rg, core, lv)
    refine ⟨_, _, by simp only [F_L_where, e1, m_n10, if_false, F_L_wrongStarts, p1, p2, Option.bind_some, w1] <;> rfl, by simp only [F_M_where, e2, m_n10, if_false, F_M_whereOf, p3, u1, v1, Option.bind_some] <;> rfl, ?_⟩
    dsimp only
    refine m_b_ext fun i hi => ?_
    have hB := m_lk_there hlk p7 (g := fun v => g v = 1) (lv := lv) (s := i) (fun b hb => (m_lk_live hlk hT hXN htab hH hb).trans (u2 _ (m_lk_pf hlk hb).1).2.symm) false
    have hC : (∃ b, b < P * 2 ^ m_G le n ∧ b / 2 ^ m_G le n = i ∧ m_B (lv &&& (cso 0 ^^^ -1)) b = true) ↔ (∃ b, b < P * 2 ^ m_G le n ∧ b / 2 ^ m_G le n = i ∧ m_B lv b = true ∧ m_B (cso 0) b = false) := ⟨fun ⟨b, b1, b2, b3⟩ => ⟨b, b1, b2, (m_wrongB (by omega)).mp b3⟩, fun ⟨b, b1, b2, b3⟩ => ⟨b, b1, b2, (m_wrongB (by omega)).mpr b3⟩⟩
    have hD : (m_b set2 i = true) ↔ (m_b set i = true) := by
      rw [v2 i hi, w2 i hi, hC, hB]
    cases h1 : m_b set2 i with
    | true => exact (hD.mp h1).symm
    | false =>
      refine (Bool.eq_false_iff.mpr fun z => ?_).symm
      have := hD.mpr z
      rw [h1] at this
      cases this
  · exact ⟨_, _, by simp only [F_L_where, e1, if_true] <;> rfl, by simp only [F_M_where, e2, if_true, Option.bind_some] <;> rfl, rfl⟩
theorem mc_some {d_label : Nat → Int32} {d_tg : Nat → Nat → Int32} {d_places : Int32} {t_guesses : Int32} {t_nodes : Int32} {t_all : Int64} {t_np0 : Int64} {t_so : Nat → Int64} {t_laters : Int32} {t_waiting : Nat → Int64} {t_meanwhile : Nat → Int64} {t_goal : Nat → Int64} {t_atNext : Nat → Int32} {t_steps : Nat → Nat → Int64} {t_due : Int32} {t_met : Nat → Int32} {t_mbs : Nat → Int32} {t_reach : Nat → Int64} {t_ring : Nat → Int64} {t_core : Int64} {t_live : Int64} {n_states : Int32} {n_moveCount : Int32} {n_stateLabel : Nat → Int32} {n_moveActor : Nat → Int32} {n_moveFrom : Nat → Int32} {n_moveTo : Nat → Int32} {n_csz : Int32} {n_clt : Int32} {n_cle : Nat → Int32} {n_ssz : Nat → Int32} {n_slt : Nat → Int32} {n_sle : Nat → Nat → Int32} {f_laters : Int32} {f_places : Int32} {f_guesses : Int32} {f_ways : Int32} {f_now : Nat → Int32} {f_letter : Nat → Int32} {f_sizes : Nat → Int32} {f_laterNumber : Nat → Int32} {f_many : Nat → Int32} {f_labelAt : Nat → Int32} {f_soAt : Nat → Int32} {f_meets : Nat → Int32} {f_wayFrom : Nat → Int32} {f_wayTo : Nat → Int32} {f_wayBy : Nat → Int32} {f_reach : Nat → Int64} {f_goesOn : Nat → Int32} (hW : m_W n_states n_moveCount n_stateLabel n_moveActor n_moveFrom n_moveTo n_csz n_clt n_cle n_ssz n_slt n_sle f_now) (a1 : Int32) : ∃ oL oM, F_L_some m_N d_label d_tg d_places t_guesses t_nodes t_all t_np0 t_so t_laters t_waiting t_meanwhile t_goal t_atNext t_steps t_due t_met t_mbs t_reach t_ring t_core t_live n_states n_moveCount n_stateLabel n_moveActor n_moveFrom n_moveTo n_csz n_clt n_cle a1 = some oL ∧ F_M_some m_N f_laters f_places f_guesses f_ways f_now f_letter f_sizes f_laterNumber f_many f_labelAt f_soAt f_meets f_wayFrom f_wayTo f_wayBy f_reach f_goesOn a1 = some oM ∧ oL.1 = oM.1 := by
  rcases m_flag a1 with ⟨-, e1, e2⟩ | ⟨e1, e2⟩
  · obtain ⟨le, n, P, T, H, lab', tg', cso, wt, mw, gl, an, st, D, met, mbs, r, rg, core, lv, letter', sizes', lnum', many', rlab, rso, rmt, W, f', t', b', p1, p2, p3, ⟨p4, p5, p6, p7⟩, hlk, htab, ⟨q1, q2, q3⟩, hT, hXN, hH⟩ := m_both hW a1 d_label d_tg t_so t_waiting t_meanwhile t_goal t_atNext t_steps t_met t_mbs t_reach t_ring f_letter f_sizes f_laterNumber f_many f_labelAt f_soAt f_meets f_wayFrom f_wayTo f_wayBy
    have h64 := m_lk_64 hlk
    subst p4
    by_cases hP0 : P = 0
    · subst hP0
      exact ⟨_, _, by simp only [F_L_some, e1, m_n10, if_false, show nI 0 = 0 from rfl, if_true] <;> rfl, by simp only [F_M_some, e2, m_n10, if_false, p5, show nI 0 = 0 from rfl, if_true] <;> rfl, rfl⟩
    · have hz : ¬ nI P = 0 := by
        rw [m_0eq (by omega)]
        exact hP0
      obtain ⟨rr, g, u1, u2⟩ := m_findsOn (q := 2 ^ m_G le n) rfl h64 q1 hXN q3 (fun u i _ z => z.1.1) q2 f_reach f_goesOn
      obtain ⟨o, o1, o2, o3⟩ := m_isThere (P := P) (q := 2 ^ m_G le n) rfl h64 (s := 0) (by omega) (fun v hv => (u2 v hv).1) (so := rso) true
      have o1' : F_M_isThere m_N (nI (2 ^ m_G le n)) rso g 0 1 = some o := o1
      refine ⟨_, _, by simp only [F_L_some, e1, m_n10, if_false, hz, p1, p2, Option.bind_some] <;> rfl, by simp only [F_M_some, e2, m_n10, if_false, p5, hz, p3, u1, o1', Option.bind_some] <;> rfl, ?_⟩
      dsimp only
      have hA := m_place (s := 0) hlk.1.2 hlk.2.1 (by omega) (lv &&& cso 0)
      have hB := m_lk_there hlk p7 (g := fun v => g v = 1) (lv := lv) (s := 0) (fun b hb => (m_lk_live hlk hT hXN htab hH hb).trans (u2 _ (m_lk_pf hlk hb).1).2.symm) true
      have hC : (∃ b, b < P * 2 ^ m_G le n ∧ b / 2 ^ m_G le n = 0 ∧ m_B (lv &&& cso 0) b = true) ↔ (∃ b, b < P * 2 ^ m_G le n ∧ b / 2 ^ m_G le n = 0 ∧ m_B lv b = true ∧ m_B (cso 0) b = true) := ⟨fun ⟨b, b1, b2, b3⟩ => ⟨b, b1, b2, by rw [m_B_and, Bool.and_eq_true] at b3; exact b3⟩, fun ⟨b, b1, b2, b3⟩ => ⟨b, b1, b2, by rw [m_B_and, Bool.and_eq_true]; exact b3⟩⟩
      have hD : (lg_cmp ((lv &&& cso 0) &&& F_T_nodesOf (nI P) (nI (m_G le n)) (F_T_firstNodes (nI (2 ^ m_G le n))) (nI 0)) 0 = 0) ↔ ¬ o = 1 := by
        rw [hA, hC, hB, o3]
      by_cases hc : lg_cmp ((lv &&& cso 0) &&& F_T_nodesOf (nI P) (nI (m_G le n)) (F_T_firstNodes (nI (2 ^ m_G le n))) (nI 0)) 0 = 0
      · have ho : o = 0 := by
          rcases o2 with z | z
          · exact absurd z (hD.mp hc)
          · exact z
        rw [if_pos (show lg_cmp ((lv &&& cso 0) &&& F_T_nodesOf (nI P) (nI (m_G le n)) (F_T_firstNodes (nI (2 ^ m_G le n))) 0) 0 = 0 from hc), if_pos ho]
        rfl
      · have ho : o = 1 := Classical.byContradiction fun z => hc (hD.mpr z)
        rw [if_neg (show ¬ lg_cmp ((lv &&& cso 0) &&& F_T_nodesOf (nI P) (nI (m_G le n)) (F_T_firstNodes (nI (2 ^ m_G le n))) 0) 0 = 0 from hc), if_neg (by rw [ho]; decide)]
        rfl
  · exact ⟨_, _, by simp only [F_L_some, e1, if_true] <;> rfl, by simp only [F_M_some, e2, if_true] <;> rfl, rfl⟩
