/-! the class: rings that meet all, what lives -/
def m_cls (R : Nat → Nat → Prop) (a b : Nat) : Prop := R a b ∧ R b a
theorem m_cls_eq {R : Nat → Nat → Prop} (tr : ∀ u w v, R u w → R w v → R u v) {a b : Nat} (h : m_cls R a b) : m_cls R a = m_cls R b := funext fun c => propext ⟨fun z => ⟨tr _ _ _ h.2 z.1, tr _ _ _ z.2 h.1⟩, fun z => ⟨tr _ _ _ h.1 z.1, tr _ _ _ z.2 h.2⟩⟩
/-- all that is due is met within a set of nodes -/
def m_meets (N D : Nat) (X : Nat → Nat → Nat → Prop) (met mbs : Nat → Int32) (S : Nat → Prop) : Prop := ∀ i, i < D → (∃ v, v < N ∧ S v ∧ m_b (met v) i = true) ∨ (∃ k a b, X k a b ∧ S a ∧ S b ∧ m_b (mbs k) i = true)
abbrev m_R (X : Nat → Nat → Nat → Prop) (N : Nat) : Nat → Nat → Prop := m_Wk (m_Eg X) N
theorem m_R_lt {N : Nat} {X : Nat → Nat → Nat → Prop} (hX : ∀ k a b, X k a b → k < 3 ∧ a < N ∧ b < N) {u v : Nat} (h : m_R X N u v) : u < N ∧ v < N := m_Wk_lt (fun u v ⟨k, z⟩ => (hX k u v z).2) N h
theorem m_R_tr {N : Nat} {X : Nat → Nat → Nat → Prop} (hX : ∀ k a b, X k a b → k < 3 ∧ a < N ∧ b < N) : ∀ u w v, m_R X N u w → m_R X N w v → m_R X N u v := fun _ _ _ h1 h2 => m_Wk_tr N (m_R_lt hX h1).2 h1 h2
theorem m_dueBit {D i : Nat} (hD : D ≤ 5) : m_b (nI (2 ^ D - 1)) i = decide (i < D) := by
  have h2 : 2 ^ D ≤ 2 ^ 5 := Nat.pow_le_pow_right (by omega) hD
  rw [m_b_nI i (by omega), Nat.testBit_two_pow_sub_one]
theorem m_makeRings {N D : Nat} (hN : N ≤ 64) (hD : D ≤ 5) {st : Nat → Nat → Int64} {X : Nat → Nat → Nat → Prop} (hX : m_gr N st X) {met mbs : Nat → Int32} (hm1 : ∀ a, a < N → ∀ b, m_b (met a) b = true → b < D) (hm2 : ∀ k, k < 3 → ∀ b, m_b (mbs k) b = true → b < D) {r : Nat → Int64} (hr : ∀ u, u < N → ∀ v, v < 64 → (m_B (r u) v = true ↔ m_R X N u v)) (rg0 : Nat → Int64) : ∃ rg core, F_T_makeRings m_N (nI N) st (nI (2 ^ D - 1)) met mbs r rg0 = some (rg, core) ∧ (∀ b, b < 64 → (m_B core b = true ↔ m_R X N b b ∧ m_meets N D X met mbs (m_cls (m_R X N) b))) ∧ ∀ b, b < N → m_R X N b b → ∀ c, c < 64 → (m_B (rg b) c = true ↔ m_cls (m_R X N) b c) := by
  have tr := m_R_tr hX.1
  have lt : ∀ {u v}, m_R X N u v → u < N ∧ v < N := fun {u v} h => m_R_lt hX.1 h
  generalize hR : m_R X N = R at *
  obtain ⟨s, h1, h2, h3, h4⟩ := m_it (fun m a (s : Int64 × (Nat → Int64) × Int64) => T_makeRings_l1 m_N (nI N) r st met mbs (nI (2 ^ D - 1)) m s.1 (nI a) s.2.1 s.2.2) (fun s => (s.2.1, s.2.2)) N (fun a0 s => (∀ b, b < 64 → (m_B s.1 b = true ↔ ∃ a, a < a0 ∧ m_cls R a b)) ∧ (∀ b, b < 64 → (m_B s.2.2 b = true ↔ ∃ a, a < a0 ∧ m_cls R a b ∧ m_meets N D X met mbs (m_cls R a))) ∧ ∀ b, b < N → (∃ a, a < a0 ∧ m_cls R a b) → ∀ c, c < 64 → (m_B (s.2.1 b) c = true ↔ m_cls R b c))
    (fun m s _ => by simp (disch := omega) only [T_makeRings_l1_s, m_le, if_pos])
    (fun m a s ha hI => by
      obtain ⟨i1, i2, i3⟩ := hI
      have e0 := T_makeRings_l1_s m_N (nI N) r st met mbs (nI (2 ^ D - 1)) m s.1 (nI a) s.2.1 s.2.2
      simp (disch := omega) only [m_e64, m_le, if_neg, m_inb, m_chkT, nI_clamp, nI_1, m_Thas, m_i0] at e0
      have hskip : (∀ b, m_cls R a b → ∃ a', a' < a ∧ m_cls R a' b ∧ m_cls R a' = m_cls R a) → (∀ b, b < 64 → (m_B s.1 b = true ↔ ∃ a', a' < a + 1 ∧ m_cls R a' b)) ∧ (∀ b, b < 64 → (m_B s.2.2 b = true ↔ ∃ a', a' < a + 1 ∧ m_cls R a' b ∧ m_meets N D X met mbs (m_cls R a'))) ∧ ∀ b, b < N → (∃ a', a' < a + 1 ∧ m_cls R a' b) → ∀ c, c < 64 → (m_B (s.2.1 b) c = true ↔ m_cls R b c) := fun hk => by
        refine ⟨fun b hb => ?_, fun b hb => ?_, fun b hb ⟨a', z1, z2⟩ => ?_⟩
        · rw [i1 b hb]
          refine ⟨fun ⟨a', z1, z2⟩ => ⟨a', by omega, z2⟩, fun ⟨a', z1, z2⟩ => ?_⟩
          by_cases he : a' = a
          · subst he
            obtain ⟨y, y1, y2, y3⟩ := hk b z2
            exact ⟨y, y1, y2⟩
          · exact ⟨a', by omega, z2⟩
        · rw [i2 b hb]
          refine ⟨fun ⟨a', z1, z2⟩ => ⟨a', by omega, z2⟩, fun ⟨a', z1, z2, z3⟩ => ?_⟩
          by_cases he : a' = a
          · subst he
            obtain ⟨y, y1, y2, y3⟩ := hk b z2
            exact ⟨y, y1, y2, by rw [y3]; exact z3⟩
          · exact ⟨a', by omega, z2, z3⟩
        · by_cases he : a' = a
          · subst he
            obtain ⟨y, y1, y2, y3⟩ := hk b z2
            exact i3 b hb ⟨y, y1, y2⟩
          · exact i3 b hb ⟨a', by omega, z2⟩
      cases hra : m_B (r a) a with
      | false =>
        rw [hra, if_pos rfl, Option.bind_some] at e0
        refine ⟨s, hskip (fun b hb => ?_), e0⟩
        have := (hr a ha a (by omega)).mpr (tr _ _ _ hb.1 hb.2)
        rw [hra] at this
        cases this
      | true =>
        rw [hra, if_neg (by decide)] at e0
        have hRa := (hr a ha a (by omega)).mp hra
        cases hkn : m_B s.1 a with
        | true =>
          rw [hkn, if_neg (by decide), Option.bind_some] at e0
          obtain ⟨y, y1, y2⟩ := (i1 a (by omega)).mp hkn
          have h9 := m_cls_eq tr y2
          exact ⟨s, hskip (fun b hb => ⟨y, y1, by rw [h9]; exact hb, h9⟩), e0⟩
        | false =>
          rw [hkn, if_pos rfl] at e0
          obtain ⟨x, rg', x1, x2, x3⟩ := m_ringOf hN hr s.2.1 ha
          obtain ⟨sm, y1, y2⟩ := m_metIn hN hX met mbs x
          have hx : ∀ b, b < 64 → (m_B x b = true ↔ m_cls R a b) := fun b hb => by
            rw [x2 b hb]
            refine ⟨fun z => z.2.2, fun z => ⟨?_, (lt z.1).2, z⟩⟩
            refine Nat.le_of_not_lt fun hlt => ?_
            have := (i1 a (by omega)).mpr ⟨b, hlt, z.2, z.1⟩
            rw [hkn] at this
            cases this
          have hmeet : sm = nI (2 ^ D - 1) ↔ m_meets N D X met mbs (m_cls R a) := by
            have hb : ∀ i, m_b sm i = true ↔ (∃ v, v < N ∧ m_cls R a v ∧ m_b (met v) i = true) ∨ (∃ k c d, X k c d ∧ m_cls R a c ∧ m_cls R a d ∧ m_b (mbs k) i = true) := fun i => by
              rw [y2 i]
              refine or_congr ⟨fun ⟨v, z1, z2, z3⟩ => ⟨v, z1, (hx v (by omega)).mp z2, z3⟩, fun ⟨v, z1, z2, z3⟩ => ⟨v, z1, (hx v (by omega)).mpr z2, z3⟩⟩ ⟨fun ⟨k, c, d, z1, z2, z3, z4⟩ => ?_, fun ⟨k, c, d, z1, z2, z3, z4⟩ => ?_⟩
              · have := hX.1 _ _ _ z1
                exact ⟨k, c, d, z1, (hx c (by omega)).mp z2, (hx d (by omega)).mp z3, z4⟩
              · have := hX.1 _ _ _ z1
                exact ⟨k, c, d, z1, (hx c (by omega)).mpr z2, (hx d (by omega)).mpr z3, z4⟩
            refine ⟨fun z i hi => (hb i).mp (by rw [z, m_dueBit hD]; exact decide_eq_true hi), fun z => m_b_ext fun i _ => ?_⟩
            rw [m_dueBit hD]
            by_cases hi : i < D
            · rw [decide_eq_true hi]
              exact (hb i).mpr (z i hi)
            · rw [decide_eq_false hi]
              refine Bool.eq_false_iff.mpr fun w => hi ?_
              rcases (hb i).mp w with ⟨v, w1, w2, w3⟩ | ⟨k, c, d, w1, w2, w3, w4⟩
              · exact hm1 v w1 i w3
              · exact hm2 k (hX.1 _ _ _ w1).1 i w4
          rw [x1, Option.bind_some, y1, Option.bind_some] at e0
          have j1 : ∀ b, b < 64 → (m_B (s.1 ||| x) b = true ↔ ∃ a', a' < a + 1 ∧ m_cls R a' b) := fun b hb => by
            rw [m_B_or, Bool.or_eq_true, i1 b hb, hx b hb]
            refine ⟨fun z => ?_, fun ⟨a', z1, z2⟩ => ?_⟩
            · rcases z with ⟨a', z1, z2⟩ | z
              · exact ⟨a', by omega, z2⟩
              · exact ⟨a, by omega, z⟩
            · by_cases he : a' = a
              · subst he
                exact Or.inr z2
              · exact Or.inl ⟨a', by omega, z2⟩
          have j3 : ∀ b, b < N → (∃ a', a' < a + 1 ∧ m_cls R a' b) → ∀ c, c < 64 → (m_B (rg' b) c = true ↔ m_cls R b c) := fun b hb ⟨a', z1, z2⟩ c hc => by
            rw [x3 b hb]
            by_cases hab : a ≤ b ∧ m_B x b = true
            · rw [if_pos hab, hx c hc, m_cls_eq tr ((hx b (by omega)).mp hab.2)]
            · rw [if_neg hab]
              refine i3 b hb ⟨a', ?_, z2⟩ c hc
              have : a' ≠ a := fun y => by
                subst y
                have h8 := (hx b (by omega)).mpr z2
                exact hab ⟨((x2 b (by omega)).mp h8).1, h8⟩
              omega
          by_cases hd : sm = nI (2 ^ D - 1)
          · rw [if_pos hd, Option.bind_some] at e0
            refine ⟨(s.1 ||| x, rg', s.2.2 ||| x), ⟨j1, fun b hb => ?_, j3⟩, e0⟩
            show m_B (s.2.2 ||| x) b = true ↔ _
            rw [m_B_or, Bool.or_eq_true, i2 b hb, hx b hb]
            refine ⟨fun z => ?_, fun ⟨a', z1, z2, z3⟩ => ?_⟩
            · rcases z with ⟨a', z1, z2⟩ | z
              · exact ⟨a', by omega, z2⟩
              · exact ⟨a, by omega, z, hmeet.mp hd⟩
            · by_cases he : a' = a
              · subst he
                exact Or.inr z2
              · exact Or.inl ⟨a', by omega, z2, z3⟩
          · rw [if_neg hd, Option.bind_some] at e0
            refine ⟨(s.1 ||| x, rg', s.2.2), ⟨j1, fun b hb => ?_, j3⟩, e0⟩
            show m_B s.2.2 b = true ↔ _
            rw [i2 b hb]
            refine ⟨fun ⟨a', z1, z2⟩ => ⟨a', by omega, z2⟩, fun ⟨a', z1, z2, z3⟩ => ⟨a', ?_, z2, z3⟩⟩
            have : a' ≠ a := fun y => by subst y; exact hd (hmeet.mpr z3)
            omega)
    N 0 m_N (0, rg0, 0) (by omega) (by show _ < 5000; omega) ⟨fun b hb => by rw [m_B_0]; exact ⟨fun z => absurd z (by decide), fun ⟨_, z, _⟩ => by omega⟩, fun b hb => by rw [m_B_0]; exact ⟨fun z => absurd z (by decide), fun ⟨_, z, _⟩ => by omega⟩, fun b hb ⟨_, z, _⟩ => by omega⟩
  refine ⟨s.2.1, s.2.2, ?_, fun b hb => ?_, fun b hb hbb => h4 b hb ⟨b, hb, hbb, hbb⟩⟩
  · simp only [F_T_makeRings]
    rw [show T_makeRings_l1 m_N (nI N) r st met mbs (nI (2 ^ D - 1)) m_N 0 0 rg0 0 = _ from h1]
    rfl
  · rw [h3 b hb]
    refine ⟨fun ⟨a, z1, z2, z3⟩ => ⟨tr _ _ _ z2.2 z2.1, by rw [← m_cls_eq tr z2]; exact z3⟩, fun ⟨z1, z2⟩ => ⟨b, (lt z1).1, ⟨z1, z1⟩, z2⟩⟩
theorem m_makeLive {N : Nat} (hN : N ≤ 64) {R : Nat → Nat → Prop} {r : Nat → Int64} (hr : ∀ u, u < N → ∀ v, v < 64 → (m_B (r u) v = true ↔ R u v)) (core : Int64) : ∃ lv, F_T_makeLive m_N (nI N) r core = some lv ∧ ∀ b, b < 64 → (m_B lv b = true ↔ m_B core b = true ∨ (b < N ∧ ∃ c, c < 64 ∧ R b c ∧ m_B core c = true)) := by
  by_cases hz : lg_cmp core 0 = 0
  · refine ⟨core, ?_, fun b hb => ⟨fun z => Or.inl z, fun z => ?_⟩⟩
    · have z1 := T_makeLive_l1_s core (nI N) r 4999 0 core
      rw [if_pos hz] at z1
      simp only [F_T_makeLive]
      rw [show T_makeLive_l1 core (nI N) r m_N 0 core = _ from z1]
      rfl
    · rcases z with z | ⟨_, c, _, _, z⟩
      · exact z
      · rw [(m_Lcmp _).mp hz, m_B_0] at z
        cases z
  · obtain ⟨lv, h1, h2⟩ := m_it (fun m a lv => T_makeLive_l1 core (nI N) r m (nI a) lv) id N (fun a0 lv => ∀ b, b < 64 → (m_B lv b = true ↔ m_B core b = true ∨ (b < a0 ∧ ∃ c, c < 64 ∧ R b c ∧ m_B core c = true)))
      (fun m lv _ => by simp (disch := omega) only [T_makeLive_l1_s, hz, if_false, m_le, if_pos, id])
      (fun m a lv ha hI => by
        refine ⟨if lg_cmp (r a &&& core) 0 = 0 then lv else lv ||| g_lshl 1 (nI a), fun b hb => ?_, by simp (disch := omega) only [T_makeLive_l1_s, hz, if_false, m_e64, m_le, if_neg, m_inb, m_chkT, nI_clamp, nI_1]⟩
        have hw : (¬ lg_cmp (r a &&& core) 0 = 0) ↔ ∃ c, c < 64 ∧ R a c ∧ m_B core c = true := by
          rw [m_andZ]
          refine ⟨fun y => Classical.byContradiction fun w => y fun i hi z => Bool.eq_false_iff.mpr fun v => w ⟨i, hi, (hr a ha i hi).mp z, v⟩, fun ⟨c, c1, c2, c3⟩ y => ?_⟩
          have := y c c1 ((hr a ha c c1).mpr c2)
          rw [c3] at this
          cases this
        by_cases hc : lg_cmp (r a &&& core) 0 = 0
        · rw [if_pos hc, hI b hb]
          refine or_congr Iff.rfl ⟨fun z => ⟨by omega, z.2⟩, fun z => ⟨?_, z.2⟩⟩
          have : b ≠ a := fun y => by subst y; exact hw.mpr z.2 hc
          omega
        · rw [if_neg hc, m_B_or, Bool.or_eq_true, hI b hb, m_B_one (by omega) hb, or_assoc]
          refine or_congr Iff.rfl ⟨fun z => ?_, fun z => ?_⟩
          · rcases z with z | z
            · exact ⟨by omega, z.2⟩
            · have := of_decide_eq_true z
              subst this
              exact ⟨by omega, hw.mp hc⟩
          · by_cases he : b = a
            · exact Or.inr (decide_eq_true he)
            · exact Or.inl ⟨by omega, z.2⟩)
      N 0 m_N core (by omega) (by show _ < 5000; omega) (fun b hb => ⟨fun z => Or.inl z, fun z => by
        rcases z with z | z
        · exact z
        · omega⟩)
    refine ⟨lv, ?_, h2⟩
    simp only [F_T_makeLive]
    rw [show T_makeLive_l1 core (nI N) r m_N 0 core = _ from h1]
    rfl
/-- the class's graph -/
def m_CX (P G : Nat) (T : Nat → Nat → Nat → Prop) (wt mw gl : Nat → Int64) (an : Nat → Int32) (k a b : Nat) : Prop := k < 3 ∧ a < P * 2 ^ G ∧ b < P * 2 ^ G ∧ T k (a / 2 ^ G) (b / 2 ^ G) ∧ ∀ j, j < G → m_cj wt mw gl an j a b = true
/-- the tableau as it stands -/
def m_tab (P G : Nat) (tg : Nat → Nat → Int32) (X : Nat → Nat → Nat → Prop) (wt gl : Nat → Int64) (an : Nat → Int32) (fair : Prop) (st : Nat → Nat → Int64) (D : Nat) (met mbs : Nat → Int32) (rg : Nat → Int64) (core lv : Int64) : Prop := m_gr (P * 2 ^ G) st X ∧ m_dues (P * 2 ^ G) G (2 ^ G) wt gl an tg fair D met mbs ∧ (∀ b, b < 64 → (m_B core b = true ↔ m_R X (P * 2 ^ G) b b ∧ m_meets (P * 2 ^ G) D X met mbs (m_cls (m_R X (P * 2 ^ G)) b))) ∧ (∀ b, b < P * 2 ^ G → m_R X (P * 2 ^ G) b b → ∀ c, c < 64 → (m_B (rg b) c = true ↔ m_cls (m_R X (P * 2 ^ G)) b c)) ∧ ∀ b, b < 64 → (m_B lv b = true ↔ ∃ c, (b = c ∨ m_R X (P * 2 ^ G) b c) ∧ m_R X (P * 2 ^ G) c c ∧ m_meets (P * 2 ^ G) D X met mbs (m_cls (m_R X (P * 2 ^ G)) c))
theorem m_finish {P G : Nat} (hG : G ≤ 3) (hP : P ≤ 8) {tg : Nat → Nat → Int32} {T : Nat → Nat → Nat → Prop} (hT : m_gt tg T) (wt mw gl : Nat → Int64) (an : Nat → Int32) (han : ∀ j, j < G → an j = 0 ∨ an j = 1) (st0 : Nat → Nat → Int64) (met0 mbs0 : Nat → Int32) (r0 rg0 : Nat → Int64) (fair : Prop) (a1 : Int32) (ha1 : (a1 = 1 ∧ fair) ∨ (a1 = 0 ∧ ¬ fair)) : ∃ st D met mbs r rg core lv, F_T_finish m_N tg (nI P) (nI G) (nI (P * 2 ^ G)) (m_all (P * 2 ^ G)) (F_T_firstNodes (nI (2 ^ G))) (nI G) wt mw gl an st0 met0 mbs0 r0 rg0 a1 = some (st, nI (2 ^ D - 1), met, mbs, r, rg, core, lv) ∧ m_tab P G tg (m_CX P G T wt mw gl an) wt gl an fair st D met mbs rg core lv := by
  have h8 := m_p8 hG
  have h64 : P * 2 ^ G ≤ 64 := by
    have : P * 2 ^ G ≤ 8 * 8 := Nat.mul_le_mul hP h8.2
    omega
  obtain ⟨st, a1', a2⟩ := m_makeSteps hG hP hT wt mw gl an han st0
  obtain ⟨D, met, mbs, b1, b2⟩ := m_makeDue hG hP tg wt gl an han met0 mbs0 fair a1 ha1
  have hX : m_gr (P * 2 ^ G) st (m_CX P G T wt mw gl an) := ⟨fun k a b z => ⟨z.1, z.2.1, z.2.2.1⟩, fun k hk a ha b hb => (a2 a ha k hk b hb).trans ⟨fun z => ⟨hk, ha, z⟩, fun z => z.2.2⟩⟩
  obtain ⟨r, c1, c2⟩ := m_makeReach h64 hX r0
  obtain ⟨rg, core, d1, d2, d3⟩ := m_makeRings h64 b2.1 hX b2.2.1 b2.2.2.1 c2 rg0
  obtain ⟨lv, e1, e2⟩ := m_makeLive h64 c2 core
  refine ⟨st, D, met, mbs, r, rg, core, lv, ?_, hX, b2, d2, d3, fun b hb => ?_⟩
  · simp only [F_T_finish, a1', b1, c1, d1, e1, Option.bind_some]
  · rw [e2 b hb]
    refine ⟨fun z => ?_, fun ⟨c, z1, z2⟩ => ?_⟩
    · rcases z with z | ⟨_, c, c1', c2', c3'⟩
      · exact ⟨b, Or.inl rfl, (d2 b hb).mp z⟩
      · exact ⟨c, Or.inr c2', (d2 c c1').mp c3'⟩
    · have hc := (m_R_lt hX.1 z2.1).1
      rcases z1 with rfl | z1
      · exact Or.inl ((d2 b hb).mpr z2)
      · exact Or.inr ⟨(m_R_lt hX.1 z1).1, c, by omega, z1, (d2 c (by omega)).mpr z2⟩
