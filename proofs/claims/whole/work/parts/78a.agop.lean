/-! both sides: against -/
theorem m_ag1 {lv x y : Int64} {N : Nat} {Z : Nat → Prop} (hlN : ∀ b, b < 64 → m_B lv b = true → b < N) (hN : N ≤ 64) (hZ : ∀ i, Z i ↔ ∃ b, b < N ∧ m_B lv b = true ∧ (if m_B x b = true then 1 else 0) + (if m_B y b = true then 2 else 0) = i) : (lg_cmp (lv &&& (x ^^^ y)) 0 = 0 ↔ ¬ Z 1 ∧ ¬ Z 2) ∧ (lg_cmp ((lv &&& x) &&& (y ^^^ -1)) 0 = 0 ↔ ¬ Z 1) ∧ (lg_cmp ((lv &&& y) &&& (x ^^^ -1)) 0 = 0 ↔ ¬ Z 2) ∧ (lg_cmp ((lv &&& x) &&& y) 0 = 0 ↔ ¬ Z 3) := by
  have hZ1 : Z 1 ↔ ∃ b, b < 64 ∧ m_B lv b = true ∧ m_B x b = true ∧ m_B y b = false := by
    rw [hZ]
    refine ⟨fun ⟨b, b1, b2, b3⟩ => ⟨b, by omega, b2, ?_⟩, fun ⟨b, b1, b2, b3, b4⟩ => ⟨b, hlN b b1 b2, b2, by rw [b3, b4]; rfl⟩⟩
    revert b3
    cases m_B x b <;> cases m_B y b <;> decide
  have hZ2 : Z 2 ↔ ∃ b, b < 64 ∧ m_B lv b = true ∧ m_B x b = false ∧ m_B y b = true := by
    rw [hZ]
    refine ⟨fun ⟨b, b1, b2, b3⟩ => ⟨b, by omega, b2, ?_⟩, fun ⟨b, b1, b2, b3, b4⟩ => ⟨b, hlN b b1 b2, b2, by rw [b3, b4]; rfl⟩⟩
    revert b3
    cases m_B x b <;> cases m_B y b <;> decide
  have hZ3 : Z 3 ↔ ∃ b, b < 64 ∧ m_B lv b = true ∧ m_B x b = true ∧ m_B y b = true := by
    rw [hZ]
    refine ⟨fun ⟨b, b1, b2, b3⟩ => ⟨b, by omega, b2, ?_⟩, fun ⟨b, b1, b2, b3, b4⟩ => ⟨b, hlN b b1 b2, b2, by rw [b3, b4]; rfl⟩⟩
    revert b3
    cases m_B x b <;> cases m_B y b <;> decide
  refine ⟨?_, ?_, ?_, ?_⟩
  · rw [m_Lcmp, m_B_ez, hZ1, hZ2]
    refine ⟨fun z => ⟨fun ⟨b, b1, b2, b3, b4⟩ => ?_, fun ⟨b, b1, b2, b3, b4⟩ => ?_⟩, fun ⟨z1, z2⟩ b hb => ?_⟩
    · have := z b b1
      rw [m_B_and, m_B_xor, b2, b3, b4] at this
      exact absurd this (by decide)
    · have := z b b1
      rw [m_B_and, m_B_xor, b2, b3, b4] at this
      exact absurd this (by decide)
    · rw [m_B_and, m_B_xor]
      cases h1 : m_B lv b <;> cases h2 : m_B x b <;> cases h3 : m_B y b
      · rfl
      · rfl
      · rfl
      · rfl
      · rfl
      · exact absurd ⟨b, hb, h1, h2, h3⟩ z2
      · exact absurd ⟨b, hb, h1, h2, h3⟩ z1
      · rfl
  · rw [m_Lcmp, m_B_ez, hZ1]
    refine ⟨fun z ⟨b, b1, b2, b3, b4⟩ => ?_, fun z b hb => ?_⟩
    · have := z b b1
      rw [m_B_and, m_B_and, m_B_not _ b1, b2, b3, b4] at this
      exact absurd this (by decide)
    · rw [m_B_and, m_B_and, m_B_not _ hb]
      cases h1 : m_B lv b <;> cases h2 : m_B x b <;> cases h3 : m_B y b
      · rfl
      · rfl
      · rfl
      · rfl
      · rfl
      · rfl
      · exact absurd ⟨b, hb, h1, h2, h3⟩ z
      · rfl
  · rw [m_Lcmp, m_B_ez, hZ2]
    refine ⟨fun z ⟨b, b1, b2, b3, b4⟩ => ?_, fun z b hb => ?_⟩
    · have := z b b1
      rw [m_B_and, m_B_and, m_B_not _ b1, b2, b3, b4] at this
      exact absurd this (by decide)
    · rw [m_B_and, m_B_and, m_B_not _ hb]
      cases h1 : m_B lv b <;> cases h2 : m_B x b <;> cases h3 : m_B y b
      · rfl
      · rfl
      · rfl
      · rfl
      · rfl
      · exact absurd ⟨b, hb, h1, h2, h3⟩ z
      · rfl
      · rfl
  · rw [m_Lcmp, m_B_ez, hZ3]
    refine ⟨fun z ⟨b, b1, b2, b3, b4⟩ => ?_, fun z b hb => ?_⟩
    · have := z b b1
      rw [m_B_and, m_B_and, b2, b3, b4] at this
      exact absurd this (by decide)
    · rw [m_B_and, m_B_and]
      cases h1 : m_B lv b <;> cases h2 : m_B x b <;> cases h3 : m_B y b
      · rfl
      · rfl
      · rfl
      · rfl
      · rfl
      · rfl
      · rfl
      · exact absurd ⟨b, hb, h1, h2, h3⟩ z
theorem m_ifeq {p q : Prop} [Decidable p] [Decidable q] (h : p ↔ q) (x y : Int32) : (if p then x else y) = if q then x else y := by
  by_cases hp : p
  · rw [if_pos hp, if_pos (h.mp hp)]
  · rw [if_neg hp, if_neg (fun z => hp (h.mpr z))]
theorem mc_against {d_label : Nat → Int32} {d_tg : Nat → Nat → Int32} {d_places : Int32} {t_guesses : Int32} {t_nodes : Int32} {t_all : Int64} {t_np0 : Int64} {t_so : Nat → Int64} {t_laters : Int32} {t_waiting : Nat → Int64} {t_meanwhile : Nat → Int64} {t_goal : Nat → Int64} {t_atNext : Nat → Int32} {t_steps : Nat → Nat → Int64} {t_due : Int32} {t_met : Nat → Int32} {t_mbs : Nat → Int32} {t_reach : Nat → Int64} {t_ring : Nat → Int64} {t_core : Int64} {t_live : Int64} {n_states : Int32} {n_moveCount : Int32} {n_stateLabel : Nat → Int32} {n_moveActor : Nat → Int32} {n_moveFrom : Nat → Int32} {n_moveTo : Nat → Int32} {n_csz : Int32} {n_clt : Int32} {n_cle : Nat → Int32} {n_ssz : Nat → Int32} {n_slt : Nat → Int32} {n_sle : Nat → Nat → Int32} {f_laters : Int32} {f_places : Int32} {f_guesses : Int32} {f_ways : Int32} {f_now : Nat → Int32} {f_letter : Nat → Int32} {f_sizes : Nat → Int32} {f_laterNumber : Nat → Int32} {f_many : Nat → Int32} {f_labelAt : Nat → Int32} {f_soAt : Nat → Int32} {f_meets : Nat → Int32} {f_wayFrom : Nat → Int32} {f_wayTo : Nat → Int32} {f_wayBy : Nat → Int32} {f_reach : Nat → Int64} {f_goesOn : Nat → Int32} (hW : m_W n_states n_moveCount n_stateLabel n_moveActor n_moveFrom n_moveTo n_csz n_clt n_cle n_ssz n_slt n_sle f_now) (a1 : Int32) (a2 : Int32) : ∃ oL oM, F_L_against m_N d_label d_tg d_places t_guesses t_nodes t_all t_np0 t_so t_laters t_waiting t_meanwhile t_goal t_atNext t_steps t_due t_met t_mbs t_reach t_ring t_core t_live n_csz n_clt n_cle n_ssz n_slt n_sle a1 a2 = some oL ∧ F_M_against m_N f_laters f_places f_guesses f_ways f_now f_letter f_sizes f_laterNumber f_many f_labelAt f_soAt f_meets f_wayFrom f_wayTo f_wayBy f_reach f_goesOn a1 a2 = some oM ∧ oL.1 = oM.1 := by
  obtain ⟨-, ⟨n0, hn1, hn, rfl, hr0, hr1, hw, rfl, h3⟩, hsl⟩ := hW
  rcases m_slot a1 with ⟨j, hj, rfl, e1, e2⟩ | ⟨e1, e2⟩
  · obtain ⟨n1, gn1, gn, gsz, gr0, gr1, gw, glt, g3⟩ := hsl j hj
    rcases m_case a2 with ha | ⟨c, hc, rfl⟩
    · have i1 : F_M_in a2 0 3 = 0 := m_in_neg ha
      exact ⟨_, _, by simp only [F_L_against, e1, m_n10, if_false, if_pos ha] <;> rfl, by simp only [F_M_against, e2, m_n10, if_false, i1, if_true] <;> rfl, rfl⟩
    · by_cases hc3 : c ≤ 3
      · have i1 : F_M_in (nI c) 0 3 = 1 := m_in1 (hi := 3) hc3 (by omega)
        have hr0' : f_now 37 = nI n0 := hr0
        have gr0' : f_now (54 + 17 * j) = nI n1 := gr0
        obtain ⟨A, S, B, mn, a1', a2', a3'⟩ := m_laysO hn hw hr0' (fun q hq => ((hr1 q hq).trans (congrArg f_now (by omega))).symm) f_letter f_sizes f_laterNumber f_many
        obtain ⟨A2, S2, B2, b1, b2, b3⟩ := m_laysF (b := 54 + 17 * j) (w := 1) (l0 := m_LT n_cle n0) (by omega) gn (by omega) gw gr0' (fun q hq => ((gr1 q hq).trans (congrArg f_now (by omega))).symm) A S B mn
        by_cases h4 : m_LT n_cle n0 + m_LT (n_sle j) n1 ≤ 3
        · obtain ⟨le, hle⟩ : ∃ le : Nat → Nat → Int32, le = m_le2 n_cle (n_sle j) := ⟨_, rfl⟩
          obtain ⟨n, hnn⟩ : ∃ n : Nat → Nat, n = m_n2 n0 n1 := ⟨_, rfl⟩
          have hGe : m_G le n = m_LT n_cle n0 + m_LT (n_sle j) n1 := by rw [hle, hnn]; rfl
          have hf : m_fs le n := by rw [hle, hnn]; exact m_fs2 hn gn hw gw h4
          have hl : m_lays le n A2 S2 B2 (upd mn 1 (nI n1)) := by
            rw [hle, hnn]
            intro w hw2
            rcases (show w = 0 ∨ w = 1 by omega) with rfl | rfl
            · refine ⟨?_, fun p hp => ?_⟩
              · show upd mn 1 (nI n1) 0 = nI n0
                rw [pk_un (by omega)]
                exact a2'.1
              · have hp' : p < n0 := hp
                obtain ⟨y1, y2, y3⟩ := b3 (16 * 0 + p) (Or.inl (by omega))
                rw [y1, y2, y3]
                exact a2'.2 p hp
            · exact b2
          obtain ⟨lab1, tg1, c1, c2, c3⟩ := m_allRows d_label d_tg
          obtain ⟨so1, wt1, mw1, gl1, an1, so2, cso, wt, mw, gl, an, st, D, met, mbs, r, rg, core, lv, d1, d2, d3, d4, d5, d6⟩ := m_judge2 hn gn hw gw h4 lab1 (T := m_T8) c3 t_so t_waiting t_meanwhile t_goal t_atNext t_steps t_met t_mbs t_reach t_ring le n hle hnn
          obtain ⟨set, lab2, rso, mt, r2, g, f1, f2, f3, f4⟩ := m_together hf hl f_labelAt f_soAt f_meets f_wayFrom f_wayTo f_wayBy f_reach f_goesOn
          have h8 := m_p8 hf.2
          have h80 : 0 < 2 ^ m_G le n := h8.1
          have hlk : m_lk le n 8 lab1 cso wt mw gl an rso := ⟨hf, by omega, d5, fun u hu w hw2 => by
            have h9 := f3 u hu w hw2
            have hud : u / 2 ^ m_G le n < 8 := (m_lt_node h80).mp hu
            rw [f2 _ hud, ← c2 _ hud] at h9
            exact h9⟩
          have h64 := m_lk_64 hlk
          have hXN : ∀ k u v, m_edge le n rso m_T8 k u v → k < 3 ∧ u < 8 * 2 ^ m_G le n ∧ v < 8 * 2 ^ m_G le n := fun k u v z => by
            have hz := z.1
            suffices hh : k < 3 ∧ u / 2 ^ m_G le n < 8 ∧ v / 2 ^ m_G le n < 8 from ⟨hh.1, (m_lt_node h80).mpr hh.2.1, (m_lt_node h80).mpr hh.2.2⟩
            obtain ⟨z1, z2, z3⟩ := hz
            omega
          have hlv := fun b (hb : b < 8 * 2 ^ m_G le n) => m_lk_live hlk (fun k s t z => by obtain ⟨z1, z2, z3⟩ := z; omega) hXN d6 (H := fun _ _ => True) (fun z => z.elim) hb
          have hlN : ∀ b, b < 64 → m_B lv b = true → b < 8 * 2 ^ m_G le n := fun b hb z => by
            obtain ⟨x, x1, x2, -⟩ := (d6.2.2.2.2 b hb).mp z
            rcases x1 with rfl | x1
            · exact (m_R_lt d6.1.1 x2).1
            · exact (m_R_lt d6.1.1 x1).1
          have hv0 : ∀ b, b < 8 * 2 ^ m_G le n → m_B (cso 0) b = m_b (rso (m_pf le n b)) 0 := fun b hb => by
            have := m_lk_v hlk hb 0 (by omega) 0 (by rw [hnn]; exact hn1)
            simp only [m_cv, m_so, Nat.mul_zero, Nat.zero_add] at this
            exact this
          have hv1 : ∀ b, b < 8 * 2 ^ m_G le n → m_B (cso 16) b = m_b (rso (64 + m_pf le n b)) 0 := fun b hb => by
            have := m_lk_v hlk hb 1 (by omega) 0 (by rw [hnn]; exact gn1)
            simp only [m_cv, m_so, Nat.mul_one, Nat.add_zero] at this
            exact this
          have hZ : ∀ i, (i < 32 ∧ m_b set i = true) ↔ ∃ b, b < 8 * 2 ^ m_G le n ∧ m_B lv b = true ∧ (if m_B (cso 0) b = true then 1 else 0) + (if m_B (cso 16) b = true then 2 else 0) = i := fun i => by
            refine ⟨fun ⟨hi, z⟩ => ?_, fun ⟨b, z1, z2, z3⟩ => ?_⟩
            · obtain ⟨v, z1, z2, z3⟩ := (f4 i hi).mp z
              have q := m_lk_pf hlk z1
              refine ⟨m_pf le n v, q.1, (hlv _ q.1).mpr (by rw [q.2.1]; exact z2), ?_⟩
              rw [hv0 _ q.1, hv1 _ q.1, q.2.1]
              exact z3
            · have q := m_lk_pf hlk z1
              rw [hv0 b z1, hv1 b z1] at z3
              have z4 : m_bo rso (m_pf le n b) = i := z3
              have := m_bo_lt rso (m_pf le n b)
              exact ⟨by omega, (f4 i (by omega)).mpr ⟨m_pf le n b, q.1, (hlv b z1).mp z2, z4⟩⟩
          obtain ⟨k1, k2, k3, k4⟩ := m_ag1 hlN h64 hZ
          have hh : ∀ i, i < 32 → F_M_has set (nI i) = if m_b set i = true then 1 else 0 := fun i hi => m_has set hi
          have hh1 : F_M_has set 1 = if m_b set 1 = true then 1 else 0 := hh 1 (by omega)
          have hh2 : F_M_has set 2 = if m_b set 2 = true then 1 else 0 := hh 2 (by omega)
          have hh3 : F_M_has set 3 = if m_b set 3 = true then 1 else 0 := hh 3 (by omega)
          have hle4 : nI (m_LT n_cle n0 + m_LT (n_sle j) n1) ≤ (3 : Int32) := by
            rw [m_e3, m_le (by omega) (by omega)]
            exact h4
          have hb54 : (54 : Int32) + (17 : Int32) * nI j = nI (54 + 17 * j) := by
            rw [m_e54, m_e17, pk_mul, nI_add]
          rw [hGe] at d1 d2 d3 d4 f1
          have b1' : F_M_laysFormula m_N (nI (m_LT n_cle n0)) f_now A S B mn (nI (54 + 17 * j)) 1 = _ := b1
          have hcL : nI (m_LT n_cle n0) + n_slt j = nI (m_LT n_cle n0 + m_LT (n_sle j) n1) := by
            rw [glt, nI_add]
          have hj3 : g_inb (nI j) 3 = true := m_inb hj (by omega)
          have hjc : (nI j).toNatClampNeg = j := nI_clamp (by omega)
          have hMA : ∀ y, F_M_against m_N f_laters f_places f_guesses f_ways f_now f_letter f_sizes f_laterNumber f_many f_labelAt f_soAt f_meets f_wayFrom f_wayTo f_wayBy f_reach f_goesOn (nI j) (nI c) = some y → F_M_against m_N f_laters f_places f_guesses f_ways f_now f_letter f_sizes f_laterNumber f_many f_labelAt f_soAt f_meets f_wayFrom f_wayTo f_wayBy f_reach f_goesOn (nI j) (nI c) = some y := fun _ z => z
          clear hMA
          rcases (show c = 0 ∨ c = 1 ∨ c = 2 ∨ c = 3 by omega) with rfl | rfl | rfl | rfl
          · refine ⟨_, _, by simp only [F_L_against, e1, m_n10, if_false, show (nI 0 < (0 : Int32)) = False from eq_false (by decide), show (nI 0 ≤ (3 : Int32)) = True from eq_true (by decide), if_true, hj3, m_chkT, hjc, hcL, hle4, c1, d1, gsz, d2, d3, d4, Option.bind_some, show (nI 0 = (0 : Int32)) = True from eq_true rfl] <;> rfl, by simp only [F_M_against, e2, m_n10, if_false, i1, a1', Option.bind_some, hb54, b1', hle4, if_true, F_M_againstOf, f1, show (nI 0 = (0 : Int32)) = True from eq_true rfl] <;> rfl, ?_⟩
            dsimp only
            rw [m_bit01, hh1, hh2]
            by_cases z1 : m_b set 1 = true
            · rw [if_pos z1, if_neg (fun z => (k1.mp z).1 ⟨by omega, z1⟩)]
              rfl
            · rw [if_neg z1]
              by_cases z2 : m_b set 2 = true
              · rw [if_pos z2, if_neg (fun z => (k1.mp z).2 ⟨by omega, z2⟩)]
                rfl
              · rw [if_neg z2, if_pos (k1.mpr ⟨fun z => z1 z.2, fun z => z2 z.2⟩)]
                rfl
          · refine ⟨_, _, by simp only [F_L_against, e1, m_n10, if_false, show (nI 1 < (0 : Int32)) = False from eq_false (by decide), show (nI 1 ≤ (3 : Int32)) = True from eq_true (by decide), if_true, hj3, m_chkT, hjc, hcL, hle4, c1, d1, gsz, d2, d3, d4, Option.bind_some, show (nI 1 = (0 : Int32)) = False from eq_false (by decide), show (nI 1 = (1 : Int32)) = True from eq_true rfl] <;> rfl, by simp only [F_M_against, e2, m_n10, if_false, i1, a1', Option.bind_some, hb54, b1', hle4, if_true, F_M_againstOf, f1, show (nI 1 = (0 : Int32)) = False from eq_false (by decide), show (nI 1 = (1 : Int32)) = True from eq_true rfl] <;> rfl, ?_⟩
            dsimp only
            rw [m_bit01, hh1]
            by_cases z1 : m_b set 1 = true
            · rw [if_pos z1, if_neg (fun z => (k2.mp z) ⟨by omega, z1⟩)]
              rfl
            · rw [if_neg z1, if_pos (k2.mpr fun z => z1 z.2)]
              rfl
          · refine ⟨_, _, by simp only [F_L_against, e1, m_n10, if_false, show (nI 2 < (0 : Int32)) = False from eq_false (by decide), show (nI 2 ≤ (3 : Int32)) = True from eq_true (by decide), if_true, hj3, m_chkT, hjc, hcL, hle4, c1, d1, gsz, d2, d3, d4, Option.bind_some, show (nI 2 = (0 : Int32)) = False from eq_false (by decide), show (nI 2 = (1 : Int32)) = False from eq_false (by decide), show (nI 2 = (2 : Int32)) = True from eq_true rfl] <;> rfl, by simp only [F_M_against, e2, m_n10, if_false, i1, a1', Option.bind_some, hb54, b1', hle4, if_true, F_M_againstOf, f1, show (nI 2 = (0 : Int32)) = False from eq_false (by decide), show (nI 2 = (1 : Int32)) = False from eq_false (by decide), show (nI 2 = (2 : Int32)) = True from eq_true rfl] <;> rfl, ?_⟩
            dsimp only
            rw [m_bit01, hh2]
            by_cases z1 : m_b set 2 = true
            · rw [if_pos z1, if_neg (fun z => (k3.mp z) ⟨by omega, z1⟩)]
              rfl
            · rw [if_neg z1, if_pos (k3.mpr fun z => z1 z.2)]
              rfl
          · refine ⟨_, _, by simp only [F_L_against, e1, m_n10, if_false, show (nI 3 < (0 : Int32)) = False from eq_false (by decide), show (nI 3 ≤ (3 : Int32)) = True from eq_true (by decide), if_true, hj3, m_chkT, hjc, hcL, hle4, c1, d1, gsz, d2, d3, d4, Option.bind_some, show (nI 3 = (0 : Int32)) = False from eq_false (by decide), show (nI 3 = (1 : Int32)) = False from eq_false (by decide), show (nI 3 = (2 : Int32)) = False from eq_false (by decide)] <;> rfl, by simp only [F_M_against, e2, m_n10, if_false, i1, a1', Option.bind_some, hb54, b1', hle4, if_true, F_M_againstOf, f1, show (nI 3 = (0 : Int32)) = False from eq_false (by decide), show (nI 3 = (1 : Int32)) = False from eq_false (by decide), show (nI 3 = (2 : Int32)) = False from eq_false (by decide)] <;> rfl, ?_⟩
            dsimp only
            rw [hh3]
            by_cases z1 : m_b set 3 = true
            · rw [if_pos z1, if_neg (fun z => (k4.mp z) ⟨by omega, z1⟩)]
              rfl
            · rw [if_neg z1, if_pos (k4.mpr fun z => z1 z.2)]
              rfl
        · have hle4 : ¬ nI (m_LT n_cle n0 + m_LT (n_sle j) n1) ≤ (3 : Int32) := by
            rw [m_e3, m_le (by omega) (by omega)]
            exact h4
          have hb54 : (54 : Int32) + (17 : Int32) * nI j = nI (54 + 17 * j) := by
            rw [m_e54, m_e17, pk_mul, nI_add]
          have b1' : F_M_laysFormula m_N (nI (m_LT n_cle n0)) f_now A S B mn (nI (54 + 17 * j)) 1 = _ := b1
          have hcL : nI (m_LT n_cle n0) + n_slt j = nI (m_LT n_cle n0 + m_LT (n_sle j) n1) := by
            rw [glt, nI_add]
          have hj3 : g_inb (nI j) 3 = true := m_inb hj (by omega)
          have hjc : (nI j).toNatClampNeg = j := nI_clamp (by omega)
          have hc0 : ¬ nI c < 0 := nI_pos hc
          have hc4 : nI c ≤ (3 : Int32) := by
            rw [m_e3, m_le hc (by omega)]
            exact hc3
          exact ⟨_, _, by simp only [F_L_against, e1, m_n10, if_false, hc0, hc4, if_true, hj3, m_chkT, hjc, hcL, hle4] <;> rfl, by simp only [F_M_against, e2, m_n10, if_false, i1, a1', Option.bind_some, hb54, b1', hle4] <;> rfl, rfl⟩
      · have i1 : F_M_in (nI c) 0 3 = 0 := m_in0 (hi := 3) (by omega) hc
        have hc0 : ¬ nI c < 0 := nI_pos hc
        have hc4 : ¬ nI c ≤ (3 : Int32) := by
          rw [m_e3, m_le hc (by omega)]
          exact hc3
        exact ⟨_, _, by simp only [F_L_against, e1, m_n10, if_false, hc0, hc4] <;> rfl, by simp only [F_M_against, e2, m_n10, if_false, i1, if_true] <;> rfl, rfl⟩
  · exact ⟨_, _, by simp only [F_L_against, e1, if_true] <;> rfl, by simp only [F_M_against, e2, if_true] <;> rfl, rfl⟩
