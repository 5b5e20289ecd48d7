/-! the class: steps, what is due -/
def m_told (le : Nat → Nat → Int32) (n : Nat → Nat) (P : Nat) (lab : Nat → Int32) (so wt mw gl : Nat → Int64) (an : Nat → Int32) : Prop := ∀ w, w < 2 → m_td (le w) (n w) (m_o le n w) w P (m_G le n) lab 0 so wt mw gl an
def m_cv (so : Nat → Int64) (a w p : Nat) : Bool := m_B (so (16 * w + p)) a
def m_cj (wt mw gl : Nat → Int64) (an : Nat → Int32) (j a b : Nat) : Bool := if an j = 0 then (if m_B (gl j) a = true then m_B (wt j) a else if m_B (mw j) a = true then (m_B (wt j) b == m_B (wt j) a) else !m_B (wt j) a) else (m_B (gl j) b == m_B (wt j) a)
theorem m_surC {le : Nat → Nat → Int32} {n : Nat → Nat} {j : Nat} (h : j < m_G le n) : ∃ w p, w < 2 ∧ p < n w ∧ m_lat (le w p) ∧ m_o le n w + (m_LT (le w) (n w) - 1 - m_LT (le w) p) = j := by
  have hG : m_G le n = m_LT (le 0) (n 0) + m_LT (le 1) (n 1) := rfl
  by_cases hj : j < m_LT (le 0) (n 0)
  · obtain ⟨p, p1, p2, p3⟩ := m_LT_sur (le 0) (n 0) (m_LT (le 0) (n 0) - 1 - j) (by omega)
    exact ⟨0, p, by omega, p1, p2, by simp only [m_o, if_true]; omega⟩
  · obtain ⟨p, p1, p2, p3⟩ := m_LT_sur (le 1) (n 1) (m_LT (le 1) (n 1) - 1 - (j - m_LT (le 0) (n 0))) (by omega)
    exact ⟨1, p, by omega, p1, p2, by simp only [m_o, show ¬ (1 : Nat) = 0 by omega, if_false]; omega⟩
theorem m_cj_go {c : Int32} (hc : m_lat c) {N : Nat} {x f s : Int64} {wt mw gl : Nat → Int64} {an : Nat → Int32} {j a b : Nat} (h : m_dat c N x f s wt mw gl an j) (ha : a < N) (hb : b < N) : m_cj wt mw gl an j a b = m_go c (m_B x a) (m_B f a) (m_B s a) (m_B x b) (m_B f b) := by
  obtain ⟨h1, h2⟩ := h
  obtain ⟨a1, a2, a3⟩ := h2 a ha
  obtain ⟨b1, b2, b3⟩ := h2 b hb
  unfold m_cj
  rw [h1, a1, a2, a3, b1, b3]
  generalize m_B x a = x1
  generalize m_B f a = x2
  generalize m_B s a = x3
  generalize m_B x b = x4
  generalize m_B f b = x5
  generalize m_B s b = x6
  rcases hc with rfl | rfl | rfl | rfl
  · cases x1 <;> cases x5 <;> rfl
  · cases x1 <;> cases x2 <;> cases x4 <;> rfl
  · cases x1 <;> cases x2 <;> cases x4 <;> rfl
  · cases x1 <;> cases x2 <;> cases x3 <;> cases x4 <;> rfl
theorem m_go_no {c : Int32} (hc : ¬ m_lat c) (x1 x2 x3 x4 x5 : Bool) : m_go c x1 x2 x3 x4 x5 = true := by
  simp only [m_lat, not_or] at hc
  obtain ⟨h1, h2, h3, h4⟩ := hc
  simp only [m_go, h1, h2, h3, h4, if_false]
theorem m_ok_cj {le : Nat → Nat → Int32} {n : Nat → Nat} {P : Nat} {lab : Nat → Int32} {so wt mw gl : Nat → Int64} {an : Nat → Int32} (ht : m_told le n P lab so wt mw gl an) (hf : m_fs le n) {a b : Nat} (ha : a < P * 2 ^ m_G le n) (hb : b < P * 2 ^ m_G le n) : (∀ j, j < m_G le n → m_cj wt mw gl an j a b = true) ↔ m_ok le n (m_cv so a) (m_cv so b) := by
  refine ⟨fun h w hw p hp => ?_, fun h j hj => ?_⟩
  · by_cases hl : m_lat (le w p)
    · have h1 := m_LT_lt hp hl
      have h2 := (m_o_le hf hw).1
      have h3 := h (m_o le n w + (m_LT (le w) (n w) - 1 - m_LT (le w) p)) (by omega)
      rw [m_cj_go hl ((ht w hw p (by omega) hp).2 hl) ha hb] at h3
      exact h3
    · exact m_go_no hl _ _ _ _ _
  · obtain ⟨w, p, hw, hp, hl, rfl⟩ := m_surC hj
    rw [m_cj_go hl ((ht w hw p (by omega) hp).2 hl) ha hb]
    exact h w hw p hp
theorem m_allowed {N G : Nat} (hN : N ≤ 64) (hG : G ≤ 3) {a : Nat} (ha : a < N) (wt mw gl : Nat → Int64) (an : Nat → Int32) (han : ∀ j, j < G → an j = 0 ∨ an j = 1) : ∃ x, F_T_allowedBehind m_N (m_all N) (nI G) wt mw gl an (nI a) = some x ∧ ∀ b, b < 64 → (m_B x b = true ↔ b < N ∧ ∀ j, j < G → m_cj wt mw gl an j a b = true) := by
  obtain ⟨x, h1, h2⟩ := m_it (fun m j x => T_allowedBehind_l1 (nI G) an gl (nI a) mw wt (m_all N) m x (nI j)) id G (fun j0 x => ∀ b, b < 64 → (m_B x b = true ↔ b < N ∧ ∀ j, j < j0 → m_cj wt mw gl an j a b = true))
    (fun m x _ => by simp (disch := omega) only [T_allowedBehind_l1_s, m_le, if_pos, id])
    (fun m j x hj hI => by
      have hfin : ∀ y : Int64, T_allowedBehind_l1 (nI G) an gl (nI a) mw wt (m_all N) (m + 1) x (nI j) = T_allowedBehind_l1 (nI G) an gl (nI a) mw wt (m_all N) m (x &&& y) (nI (j + 1)) → (∀ b, b < N → m_B y b = m_cj wt mw gl an j a b) → ∃ x', (∀ b, b < 64 → (m_B x' b = true ↔ b < N ∧ ∀ j', j' < j + 1 → m_cj wt mw gl an j' a b = true)) ∧ T_allowedBehind_l1 (nI G) an gl (nI a) mw wt (m_all N) (m + 1) x (nI j) = T_allowedBehind_l1 (nI G) an gl (nI a) mw wt (m_all N) m x' (nI (j + 1)) := fun y he hy => by
        refine ⟨_, fun b hb => ?_, he⟩
        rw [m_B_and, Bool.and_eq_true, hI b hb]
        refine ⟨fun ⟨⟨z1, z2⟩, z3⟩ => ⟨z1, fun j' hj' => ?_⟩, fun ⟨z1, z2⟩ => ⟨⟨z1, fun j' hj' => z2 j' (by omega)⟩, by rw [hy b z1]; exact z2 j (by omega)⟩⟩
        by_cases hjj : j' = j
        · subst hjj
          rw [← hy b z1]
          exact z3
        · exact z2 j' (by omega)
      have hall : ∀ b, b < N → m_B (m_all N) b = true := fun b hb => by
        rw [m_all_b hN (by omega)]
        exact decide_eq_true hb
      have e0 := T_allowedBehind_l1_s (nI G) an gl (nI a) mw wt (m_all N) m x (nI j)
      simp (disch := omega) only [m_e3, m_le, if_neg, m_inb, m_chkT, nI_clamp, m_Thas, nI_1, m_i0] at e0
      rcases han j hj with h0 | h0
      · rw [h0, if_pos rfl] at e0
        cases hg : m_B (gl j) a with
        | true =>
          rw [hg, if_neg (by decide), Option.bind_some] at e0
          refine hfin _ e0 (fun b hb => ?_)
          unfold m_cj
          rw [h0, if_pos rfl, hg, if_pos rfl]
          cases m_B (wt j) a with
          | true => rw [if_neg (by decide)]; exact hall b hb
          | false => rw [if_pos rfl]; exact m_B_0 b
        | false =>
          rw [hg, if_pos rfl] at e0
          cases hm : m_B (mw j) a with
          | false =>
            rw [hm, if_pos rfl, Option.bind_some] at e0
            refine hfin _ e0 (fun b hb => ?_)
            unfold m_cj
            rw [h0, if_pos rfl, hg, if_neg (show ¬ (false = true) from by decide), hm, if_neg (show ¬ (false = true) from by decide)]
            cases m_B (wt j) a with
            | true => rw [if_neg (by decide)]; exact m_B_0 b
            | false => rw [if_pos rfl]; exact hall b hb
          | true =>
            rw [hm, if_neg (by decide)] at e0
            cases hw : m_B (wt j) a with
            | true =>
              rw [hw, if_neg (by decide), Option.bind_some, Option.bind_some] at e0
              refine hfin _ e0 (fun b hb => ?_)
              unfold m_cj
              rw [h0, if_pos rfl, hg, if_neg (by decide), hm, if_pos rfl, hw]
              cases m_B (wt j) b <;> rfl
            | false =>
              rw [hw, if_pos rfl, Option.bind_some, Option.bind_some] at e0
              refine hfin _ e0 (fun b hb => ?_)
              unfold m_cj
              rw [h0, if_pos rfl, hg, if_neg (by decide), hm, if_pos rfl, hw, m_B_not _ (by omega)]
              cases m_B (wt j) b <;> rfl
      · rw [h0, if_neg m_n10] at e0
        cases hw : m_B (wt j) a with
        | true =>
          rw [hw, if_neg (by decide), Option.bind_some, Option.bind_some] at e0
          refine hfin _ e0 (fun b hb => ?_)
          unfold m_cj
          rw [h0, if_neg m_n10, hw]
          cases m_B (gl j) b <;> rfl
        | false =>
          rw [hw, if_pos rfl, Option.bind_some, Option.bind_some] at e0
          refine hfin _ e0 (fun b hb => ?_)
          unfold m_cj
          rw [h0, if_neg m_n10, hw, m_B_not _ (by omega)]
          cases m_B (gl j) b <;> rfl)
    G 0 m_N (m_all N) (by omega) (by show _ < 5000; omega) (fun b hb => by
      rw [m_all_b hN hb]
      exact ⟨fun z => ⟨of_decide_eq_true z, fun j hj => absurd hj (Nat.not_lt_zero _)⟩, fun z => decide_eq_true z.1⟩)
  refine ⟨x, ?_, h2⟩
  simp only [F_T_allowedBehind]
  rw [show T_allowedBehind_l1 (nI G) an gl (nI a) mw wt (m_all N) m_N (m_all N) 0 = _ from h1]
  rfl
theorem m_aimed {P G : Nat} (hG : G ≤ 3) (hP : P ≤ 8) {tg : Nat → Nat → Int32} {T : Nat → Nat → Nat → Prop} (hT : m_gt tg T) {k s : Nat} (hk : k < 3) (hs : s < P) : ∃ x, F_T_nodesAimedAt m_N tg (nI P) (nI G) (F_T_firstNodes (nI (2 ^ G))) (nI k) (nI s) = some x ∧ ∀ b, b < 64 → (m_B x b = true ↔ b / 2 ^ G < P ∧ T k s (b / 2 ^ G)) := by
  have hge : F_T_nodesAimedAt m_N tg (nI P) (nI G) (F_T_firstNodes (nI (2 ^ G))) (nI k) (nI s) = (T_nodesAimedAt_l1 tg (nI k) (nI s) (nI P) (nI G) (F_T_firstNodes (nI (2 ^ G))) m_N 0 0).bind fun o7 => some o7 := by
    simp (disch := omega) only [F_T_nodesAimedAt, m_0lt, if_false, m_e8, m_lt, if_pos, m_inb, m_chkT]
  by_cases hz : tg k s = 0
  · refine ⟨0, ?_, fun b hb => ?_⟩
    · rw [hge]
      have z1 := T_nodesAimedAt_l1_s tg (nI k) (nI s) (nI P) (nI G) (F_T_firstNodes (nI (2 ^ G))) 4999 0 0
      rw [nI_clamp (by omega), nI_clamp (by omega), if_pos hz] at z1
      rw [show T_nodesAimedAt_l1 tg (nI k) (nI s) (nI P) (nI G) (F_T_firstNodes (nI (2 ^ G))) m_N 0 0 = _ from z1]
      rfl
    · rw [m_B_0]
      refine ⟨fun z => absurd z (by decide), fun ⟨z1, z2⟩ => ?_⟩
      have := (hT k hk s (by omega) (b / 2 ^ G) (by omega)).mpr z2
      rw [hz, m_b_0] at this
      cases this
  · obtain ⟨x, h1, h2⟩ := m_it (fun m t x => T_nodesAimedAt_l1 tg (nI k) (nI s) (nI P) (nI G) (F_T_firstNodes (nI (2 ^ G))) m x (nI t)) id P (fun t0 x => ∀ b, b < 64 → (m_B x b = true ↔ b / 2 ^ G < t0 ∧ T k s (b / 2 ^ G)))
      (fun m x _ => by simp (disch := omega) only [T_nodesAimedAt_l1_s, nI_clamp, hz, if_false, m_le, if_pos, id])
      (fun m t x ht hI => by
        refine ⟨if m_b (tg k s) t = true then x ||| F_T_nodesOf (nI P) (nI G) (F_T_firstNodes (nI (2 ^ G))) (nI t) else x, fun b hb => ?_, ?_⟩
        · have hn := m_nodesOf (i := b) hG hP ht hb
          have hTt := hT k hk s (by omega) t (by omega)
          by_cases hbt : m_b (tg k s) t = true
          · rw [if_pos hbt, m_B_or, Bool.or_eq_true, hI b hb, hn]
            refine ⟨fun z => ?_, fun ⟨z1, z2⟩ => ?_⟩
            · rcases z with z | z
              · exact ⟨by omega, z.2⟩
              · have := of_decide_eq_true z
                exact ⟨by omega, by rw [this]; exact hTt.mp hbt⟩
            · by_cases he : b / 2 ^ G = t
              · exact Or.inr (decide_eq_true he)
              · exact Or.inl ⟨by omega, z2⟩
          · rw [if_neg hbt, hI b hb]
            refine ⟨fun z => ⟨by omega, z.2⟩, fun ⟨z1, z2⟩ => ⟨?_, z2⟩⟩
            have : b / 2 ^ G ≠ t := fun z => hbt (hTt.mpr (by rw [← z]; exact z2))
            omega
        · simp (disch := omega) only [T_nodesAimedAt_l1_s, nI_clamp, hz, if_false, m_le, if_neg, m_shr_bit, nI_1]
          cases m_b (tg k s) t with
          | true => rw [if_neg (by decide), if_pos rfl]
          | false => rw [if_pos (by decide), if_neg (by decide)])
      P 0 m_N 0 (by omega) (by show _ < 5000; omega) (fun b hb => by rw [m_B_0]; exact ⟨fun z => absurd z (by decide), fun z => absurd z.1 (Nat.not_lt_zero _)⟩)
    refine ⟨x, ?_, h2⟩
    rw [hge, show T_nodesAimedAt_l1 tg (nI k) (nI s) (nI P) (nI G) (F_T_firstNodes (nI (2 ^ G))) m_N 0 0 = _ from h1]
    rfl
theorem m_makeSteps {P G : Nat} (hG : G ≤ 3) (hP : P ≤ 8) {tg : Nat → Nat → Int32} {T : Nat → Nat → Nat → Prop} (hT : m_gt tg T) (wt mw gl : Nat → Int64) (an : Nat → Int32) (han : ∀ j, j < G → an j = 0 ∨ an j = 1) (st : Nat → Nat → Int64) : ∃ st', F_T_makeSteps m_N tg (nI P) (nI G) (nI (P * 2 ^ G)) (m_all (P * 2 ^ G)) (F_T_firstNodes (nI (2 ^ G))) (nI G) wt mw gl an st = some st' ∧ ∀ a, a < P * 2 ^ G → ∀ k, k < 3 → ∀ b, b < 64 → (m_B (st' k a) b = true ↔ b < P * 2 ^ G ∧ T k (a / 2 ^ G) (b / 2 ^ G) ∧ ∀ j, j < G → m_cj wt mw gl an j a b = true) := by
  have h8 := m_p8 hG
  have h64 : P * 2 ^ G ≤ 64 := by
    have : P * 2 ^ G ≤ 8 * 8 := Nat.mul_le_mul hP h8.2
    omega
  obtain ⟨st', h1, h2⟩ := m_it (fun m a st => T_makeSteps_l1 m_N (nI (P * 2 ^ G)) (m_all (P * 2 ^ G)) (nI G) wt mw gl an tg (nI P) (nI G) (F_T_firstNodes (nI (2 ^ G))) m (nI a) st) id (P * 2 ^ G) (fun a0 st' => ∀ a, a < a0 → ∀ k, k < 3 → ∀ b, b < 64 → (m_B (st' k a) b = true ↔ b < P * 2 ^ G ∧ T k (a / 2 ^ G) (b / 2 ^ G) ∧ ∀ j, j < G → m_cj wt mw gl an j a b = true))
    (fun m st _ => by simp (disch := omega) only [T_makeSteps_l1_s, m_le, if_pos, id])
    (fun m a st ha hI => by
      obtain ⟨x, x1, x2⟩ := m_allowed h64 hG ha wt mw gl an han
      have had : a / 2 ^ G < P := (m_lt_node h8.1).mp ha
      obtain ⟨st2, a1, a2, a3⟩ := m_it (fun m k st => T_makeSteps_l2 m_N x tg (nI P) (nI G) (F_T_firstNodes (nI (2 ^ G))) (nI a) m (nI k) st) id 3 (fun k0 st' => (∀ k, k < k0 → ∀ b, b < 64 → (m_B (st' k a) b = true ↔ b < P * 2 ^ G ∧ T k (a / 2 ^ G) (b / 2 ^ G) ∧ ∀ j, j < G → m_cj wt mw gl an j a b = true)) ∧ ∀ k a', a' ≠ a → st' k a' = st k a')
        (fun m st _ => by simp (disch := omega) only [T_makeSteps_l2_s, m_e3, m_le, if_pos, id])
        (fun m k st' hk hJ => by
          obtain ⟨y, y1, y2⟩ := m_aimed hG hP hT hk had
          obtain ⟨z, z1, z2⟩ : ∃ z, (if (lg_cmp x (0 : Int64)) = 0 then (some (0 : Int64)) else ((F_T_nodesAimedAt m_N tg (nI P) (nI G) (F_T_firstNodes (nI (2 ^ G))) (nI k) (nI (a / 2 ^ G))).bind fun o14 => (some (x &&& o14)))) = some z ∧ ∀ b, b < 64 → (m_B z b = true ↔ b < P * 2 ^ G ∧ T k (a / 2 ^ G) (b / 2 ^ G) ∧ ∀ j, j < G → m_cj wt mw gl an j a b = true) := by
            by_cases hx : lg_cmp x 0 = 0
            · refine ⟨0, by rw [if_pos hx], fun b hb => ?_⟩
              rw [m_B_0]
              refine ⟨fun w => absurd w (by decide), fun w => ?_⟩
              have := (x2 b hb).mpr ⟨w.1, w.2.2⟩
              rw [(m_Lcmp x).mp hx, m_B_0] at this
              cases this
            · refine ⟨x &&& y, by rw [if_neg hx, y1, Option.bind_some], fun b hb => ?_⟩
              rw [m_B_and, Bool.and_eq_true, x2 b hb, y2 b hb]
              exact ⟨fun w => ⟨w.1.1, w.2.2, w.1.2⟩, fun w => ⟨⟨w.1, w.2.2⟩, (m_lt_node h8.1).mp w.1, w.2.1⟩⟩
          refine ⟨va_up st' k (vp_updL (st' k) a z), ⟨fun k' hk' b hb => ?_, fun k' a' hne => ?_⟩, ?_⟩
          · by_cases hkk : k' = k
            · subst hkk
              rw [va_up_self, pk_uLs]
              exact z2 b hb
            · rw [va_up_ne _ _ hkk]
              exact hJ.1 k' (by omega) b hb
          · by_cases hkk : k' = k
            · subst hkk
              rw [va_up_self, pk_uLn hne]
              exact hJ.2 k' a' hne
            · rw [va_up_ne _ _ hkk]
              exact hJ.2 k' a' hne
          · simp (disch := omega) only [T_makeSteps_l2_s, m_e3, m_le, if_neg, m_inb, m_chkT, nI_clamp, nI_1, m_ishr]
            rw [z1, Option.bind_some])
        3 0 m_N st (by omega) (by show _ < 5000; omega) ⟨fun k hk => by omega, fun _ _ _ => rfl⟩
      refine ⟨st2, fun a' ha' k hk b hb => ?_, ?_⟩
      · by_cases hne : a' = a
        · subst hne
          exact a2 k hk b hb
        · rw [a3 k a' hne]
          exact hI a' (by omega) k hk b hb
      · simp (disch := omega) only [T_makeSteps_l1_s, m_e64, m_le, if_neg, nI_1]
        rw [x1, Option.bind_some, show T_makeSteps_l2 m_N x tg (nI P) (nI G) (F_T_firstNodes (nI (2 ^ G))) (nI a) m_N 0 st = _ from a1, Option.bind_some]
        rfl)
    (P * 2 ^ G) 0 m_N st (by omega) (by show _ < 5000; omega) (fun a ha => by omega)
  refine ⟨st', ?_, h2⟩
  simp only [F_T_makeSteps]
  rw [show T_makeSteps_l1 m_N (nI (P * 2 ^ G)) (m_all (P * 2 ^ G)) (nI G) wt mw gl an tg (nI P) (nI G) (F_T_firstNodes (nI (2 ^ G))) m_N 0 st = _ from h1]
  rfl
